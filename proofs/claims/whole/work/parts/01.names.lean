-- ===== PART A: goes FIRST, ahead of the names: the tables' words, and 'selects' of the private methods out of them =====
/-- a private method of a class that the tables say can be made, by its rows of tables_1 -/
def lw_okq (q : MethodName × Nat) : Prop := (q.1.cls ≠ "java/lang/invoke/MethodHandle" ∧ q.1.cls ≠ "java/lang/invoke/VarHandle") ∧ Cond.instantiable q.1.cls q.2 ∈ tables_1 ∧ Cond.privateMethod q.1 ∈ tables_1 ∧ Cond.instanceMethod q.1 ∈ tables_1
theorem lw_p0 : lw_okq (⟨"WellNames", "refuse", "(I)I"⟩, 8) := ⟨⟨by decide +kernel, by decide +kernel⟩, List.mem_of_getElem? (i := 15) (by decide +kernel), List.mem_of_getElem? (i := 301) (by decide +kernel), List.mem_of_getElem? (i := 302) (by decide +kernel)⟩
theorem lw_p1 : lw_okq (⟨"WellNames", "isPerson", "(I)Z"⟩, 8) := ⟨⟨by decide +kernel, by decide +kernel⟩, List.mem_of_getElem? (i := 15) (by decide +kernel), List.mem_of_getElem? (i := 364) (by decide +kernel), List.mem_of_getElem? (i := 365) (by decide +kernel)⟩
theorem lw_p2 : lw_okq (⟨"WellNames$Law", "withoutText", "(II)I"⟩, 4) := ⟨⟨by decide +kernel, by decide +kernel⟩, List.mem_of_getElem? (i := 32) (by decide +kernel), List.mem_of_getElem? (i := 380) (by decide +kernel), List.mem_of_getElem? (i := 381) (by decide +kernel)⟩
theorem lw_p3 : lw_okq (⟨"WellNames$Law", "worked", "(III)I"⟩, 4) := ⟨⟨by decide +kernel, by decide +kernel⟩, List.mem_of_getElem? (i := 32) (by decide +kernel), List.mem_of_getElem? (i := 384) (by decide +kernel), List.mem_of_getElem? (i := 385) (by decide +kernel)⟩
theorem lw_p4 : lw_okq (⟨"WellNames$Reader", "readJoined", "(I)V"⟩, 8) := ⟨⟨by decide +kernel, by decide +kernel⟩, List.mem_of_getElem? (i := 185) (by decide +kernel), List.mem_of_getElem? (i := 432) (by decide +kernel), List.mem_of_getElem? (i := 433) (by decide +kernel)⟩
theorem lw_p5 : lw_okq (⟨"WellNames$Reader", "readSingle", "()V"⟩, 8) := ⟨⟨by decide +kernel, by decide +kernel⟩, List.mem_of_getElem? (i := 185) (by decide +kernel), List.mem_of_getElem? (i := 436) (by decide +kernel), List.mem_of_getElem? (i := 437) (by decide +kernel)⟩
theorem lw_p6 : lw_okq (⟨"WellNames$Reader", "next", "()I"⟩, 8) := ⟨⟨by decide +kernel, by decide +kernel⟩, List.mem_of_getElem? (i := 185) (by decide +kernel), List.mem_of_getElem? (i := 440) (by decide +kernel), List.mem_of_getElem? (i := 441) (by decide +kernel)⟩
theorem lw_p7 : lw_okq (⟨"WellNames$Reader", "nameOf", "(I)I"⟩, 8) := ⟨⟨by decide +kernel, by decide +kernel⟩, List.mem_of_getElem? (i := 185) (by decide +kernel), List.mem_of_getElem? (i := 444) (by decide +kernel), List.mem_of_getElem? (i := 445) (by decide +kernel)⟩
theorem lw_p8 : lw_okq (⟨"WellNames$Reader", "readNumber", "()V"⟩, 8) := ⟨⟨by decide +kernel, by decide +kernel⟩, List.mem_of_getElem? (i := 185) (by decide +kernel), List.mem_of_getElem? (i := 451) (by decide +kernel), List.mem_of_getElem? (i := 452) (by decide +kernel)⟩
theorem lw_p9 : lw_okq (⟨"WellNames$Reader", "emit", "(I)V"⟩, 8) := ⟨⟨by decide +kernel, by decide +kernel⟩, List.mem_of_getElem? (i := 185) (by decide +kernel), List.mem_of_getElem? (i := 455) (by decide +kernel), List.mem_of_getElem? (i := 456) (by decide +kernel)⟩
theorem lw_p10 : lw_okq (⟨"WellNames$Reader", "readOpened", "(I)V"⟩, 8) := ⟨⟨by decide +kernel, by decide +kernel⟩, List.mem_of_getElem? (i := 185) (by decide +kernel), List.mem_of_getElem? (i := 459) (by decide +kernel), List.mem_of_getElem? (i := 460) (by decide +kernel)⟩
theorem lw_p11 : lw_okq (⟨"WellNames", "passDays", "(IIZ)I"⟩, 8) := ⟨⟨by decide +kernel, by decide +kernel⟩, List.mem_of_getElem? (i := 15) (by decide +kernel), List.mem_of_getElem? (i := 506) (by decide +kernel), List.mem_of_getElem? (i := 507) (by decide +kernel)⟩
theorem lw_p12 : lw_okq (⟨"WellNames$World", "draw", "()I"⟩, 14) := ⟨⟨by decide +kernel, by decide +kernel⟩, List.mem_of_getElem? (i := 23) (by decide +kernel), List.mem_of_getElem? (i := 519) (by decide +kernel), List.mem_of_getElem? (i := 520) (by decide +kernel)⟩
theorem lw_p13 : lw_okq (⟨"WellNames", "leastTill", "(IIIZ)I"⟩, 8) := ⟨⟨by decide +kernel, by decide +kernel⟩, List.mem_of_getElem? (i := 15) (by decide +kernel), List.mem_of_getElem? (i := 557) (by decide +kernel), List.mem_of_getElem? (i := 558) (by decide +kernel)⟩
theorem lw_p14 : lw_okq (⟨"WellNames$Ways", "lookAtRoads", "(LWellNames$World;)V"⟩, 7) := ⟨⟨by decide +kernel, by decide +kernel⟩, List.mem_of_getElem? (i := 156) (by decide +kernel), List.mem_of_getElem? (i := 568) (by decide +kernel), List.mem_of_getElem? (i := 569) (by decide +kernel)⟩
theorem lw_p15 : lw_okq (⟨"WellNames$Ways", "drinkWherePossible", "()Z"⟩, 7) := ⟨⟨by decide +kernel, by decide +kernel⟩, List.mem_of_getElem? (i := 156) (by decide +kernel), List.mem_of_getElem? (i := 586) (by decide +kernel), List.mem_of_getElem? (i := 587) (by decide +kernel)⟩
def lw_privs_1 : List (MethodName × Nat) := [(⟨"WellNames", "refuse", "(I)I"⟩, 8), (⟨"WellNames", "isPerson", "(I)Z"⟩, 8), (⟨"WellNames$Law", "withoutText", "(II)I"⟩, 4), (⟨"WellNames$Law", "worked", "(III)I"⟩, 4), (⟨"WellNames$Reader", "readJoined", "(I)V"⟩, 8), (⟨"WellNames$Reader", "readSingle", "()V"⟩, 8), (⟨"WellNames$Reader", "next", "()I"⟩, 8), (⟨"WellNames$Reader", "nameOf", "(I)I"⟩, 8), (⟨"WellNames$Reader", "readNumber", "()V"⟩, 8), (⟨"WellNames$Reader", "emit", "(I)V"⟩, 8), (⟨"WellNames$Reader", "readOpened", "(I)V"⟩, 8), (⟨"WellNames", "passDays", "(IIZ)I"⟩, 8), (⟨"WellNames$World", "draw", "()I"⟩, 14), (⟨"WellNames", "leastTill", "(IIIZ)I"⟩, 8), (⟨"WellNames$Ways", "lookAtRoads", "(LWellNames$World;)V"⟩, 7), (⟨"WellNames$Ways", "drinkWherePossible", "()Z"⟩, 7)]
theorem lw_r1 : ∀ q ∈ lw_privs_1, lw_okq q := List.forall_mem_cons.mpr ⟨lw_p0, List.forall_mem_cons.mpr ⟨lw_p1, List.forall_mem_cons.mpr ⟨lw_p2, List.forall_mem_cons.mpr ⟨lw_p3, List.forall_mem_cons.mpr ⟨lw_p4, List.forall_mem_cons.mpr ⟨lw_p5, List.forall_mem_cons.mpr ⟨lw_p6, List.forall_mem_cons.mpr ⟨lw_p7, List.forall_mem_cons.mpr ⟨lw_p8, List.forall_mem_cons.mpr ⟨lw_p9, List.forall_mem_cons.mpr ⟨lw_p10, List.forall_mem_cons.mpr ⟨lw_p11, List.forall_mem_cons.mpr ⟨lw_p12, List.forall_mem_cons.mpr ⟨lw_p13, List.forall_mem_cons.mpr ⟨lw_p14, List.forall_mem_cons.mpr ⟨lw_p15, fun _ h => absurd h List.not_mem_nil⟩⟩⟩⟩⟩⟩⟩⟩⟩⟩⟩⟩⟩⟩⟩⟩
theorem lw_p16 : lw_okq (⟨"WellNames$Ways", "spread", "(Z)V"⟩, 7) := ⟨⟨by decide +kernel, by decide +kernel⟩, List.mem_of_getElem? (i := 156) (by decide +kernel), List.mem_of_getElem? (i := 597) (by decide +kernel), List.mem_of_getElem? (i := 598) (by decide +kernel)⟩
theorem lw_p17 : lw_okq (⟨"WellNames$Ways", "spreadFrom", "(IZ)Z"⟩, 7) := ⟨⟨by decide +kernel, by decide +kernel⟩, List.mem_of_getElem? (i := 156) (by decide +kernel), List.mem_of_getElem? (i := 601) (by decide +kernel), List.mem_of_getElem? (i := 602) (by decide +kernel)⟩
theorem lw_p18 : lw_okq (⟨"WellNames$Ways", "arriveAt", "(I)V"⟩, 7) := ⟨⟨by decide +kernel, by decide +kernel⟩, List.mem_of_getElem? (i := 156) (by decide +kernel), List.mem_of_getElem? (i := 605) (by decide +kernel), List.mem_of_getElem? (i := 606) (by decide +kernel)⟩
theorem lw_p19 : lw_okq (⟨"WellNames$Ways", "nearestOutside", "(I)I"⟩, 7) := ⟨⟨by decide +kernel, by decide +kernel⟩, List.mem_of_getElem? (i := 156) (by decide +kernel), List.mem_of_getElem? (i := 637) (by decide +kernel), List.mem_of_getElem? (i := 638) (by decide +kernel)⟩
theorem lw_p20 : lw_okq (⟨"WellNames$Voices", "say", "(IIII)I"⟩, 5) := ⟨⟨by decide +kernel, by decide +kernel⟩, List.mem_of_getElem? (i := 218) (by decide +kernel), List.mem_of_getElem? (i := 686) (by decide +kernel), List.mem_of_getElem? (i := 687) (by decide +kernel)⟩
theorem lw_p21 : lw_okq (⟨"WellNames$Voices", "run", "(IIII)I"⟩, 5) := ⟨⟨by decide +kernel, by decide +kernel⟩, List.mem_of_getElem? (i := 218) (by decide +kernel), List.mem_of_getElem? (i := 694) (by decide +kernel), List.mem_of_getElem? (i := 695) (by decide +kernel)⟩
theorem lw_p22 : lw_okq (⟨"WellNames$Voices", "note", "(I)V"⟩, 5) := ⟨⟨by decide +kernel, by decide +kernel⟩, List.mem_of_getElem? (i := 218) (by decide +kernel), List.mem_of_getElem? (i := 698) (by decide +kernel), List.mem_of_getElem? (i := 699) (by decide +kernel)⟩
theorem lw_p23 : lw_okq (⟨"WellNamesModel", "becomes", "(II)I"⟩, 25) := ⟨⟨by decide +kernel, by decide +kernel⟩, List.mem_of_getElem? (i := 796) (by decide +kernel), List.mem_of_getElem? (i := 890) (by decide +kernel), List.mem_of_getElem? (i := 891) (by decide +kernel)⟩
theorem lw_p24 : lw_okq (⟨"WellNamesModel", "errs", "(I)I"⟩, 25) := ⟨⟨by decide +kernel, by decide +kernel⟩, List.mem_of_getElem? (i := 796) (by decide +kernel), List.mem_of_getElem? (i := 895) (by decide +kernel), List.mem_of_getElem? (i := 896) (by decide +kernel)⟩
theorem lw_p25 : lw_okq (⟨"WellNamesModel", "roadsOf", "(I)I"⟩, 25) := ⟨⟨by decide +kernel, by decide +kernel⟩, List.mem_of_getElem? (i := 796) (by decide +kernel), List.mem_of_getElem? (i := 915) (by decide +kernel), List.mem_of_getElem? (i := 916) (by decide +kernel)⟩
theorem lw_p26 : lw_okq (⟨"WellNamesModel", "roadOf", "(II)I"⟩, 25) := ⟨⟨by decide +kernel, by decide +kernel⟩, List.mem_of_getElem? (i := 796) (by decide +kernel), List.mem_of_getElem? (i := 919) (by decide +kernel), List.mem_of_getElem? (i := 920) (by decide +kernel)⟩
theorem lw_p27 : lw_okq (⟨"WellNamesModel", "those", "(II)I"⟩, 25) := ⟨⟨by decide +kernel, by decide +kernel⟩, List.mem_of_getElem? (i := 796) (by decide +kernel), List.mem_of_getElem? (i := 923) (by decide +kernel), List.mem_of_getElem? (i := 924) (by decide +kernel)⟩
theorem lw_p28 : lw_okq (⟨"WellNamesModel", "its", "(II)I"⟩, 25) := ⟨⟨by decide +kernel, by decide +kernel⟩, List.mem_of_getElem? (i := 796) (by decide +kernel), List.mem_of_getElem? (i := 927) (by decide +kernel), List.mem_of_getElem? (i := 928) (by decide +kernel)⟩
theorem lw_p29 : lw_okq (⟨"WellNamesModel", "owes", "(I)I"⟩, 25) := ⟨⟨by decide +kernel, by decide +kernel⟩, List.mem_of_getElem? (i := 796) (by decide +kernel), List.mem_of_getElem? (i := 934) (by decide +kernel), List.mem_of_getElem? (i := 935) (by decide +kernel)⟩
theorem lw_p30 : lw_okq (⟨"WellNamesModel", "isPerson", "(I)Z"⟩, 25) := ⟨⟨by decide +kernel, by decide +kernel⟩, List.mem_of_getElem? (i := 796) (by decide +kernel), List.mem_of_getElem? (i := 956) (by decide +kernel), List.mem_of_getElem? (i := 957) (by decide +kernel)⟩
theorem lw_p31 : lw_okq (⟨"WellNamesModel", "limitOf", "(I)I"⟩, 25) := ⟨⟨by decide +kernel, by decide +kernel⟩, List.mem_of_getElem? (i := 796) (by decide +kernel), List.mem_of_getElem? (i := 961) (by decide +kernel), List.mem_of_getElem? (i := 962) (by decide +kernel)⟩
def lw_privs_2 : List (MethodName × Nat) := [(⟨"WellNames$Ways", "spread", "(Z)V"⟩, 7), (⟨"WellNames$Ways", "spreadFrom", "(IZ)Z"⟩, 7), (⟨"WellNames$Ways", "arriveAt", "(I)V"⟩, 7), (⟨"WellNames$Ways", "nearestOutside", "(I)I"⟩, 7), (⟨"WellNames$Voices", "say", "(IIII)I"⟩, 5), (⟨"WellNames$Voices", "run", "(IIII)I"⟩, 5), (⟨"WellNames$Voices", "note", "(I)V"⟩, 5), (⟨"WellNamesModel", "becomes", "(II)I"⟩, 25), (⟨"WellNamesModel", "errs", "(I)I"⟩, 25), (⟨"WellNamesModel", "roadsOf", "(I)I"⟩, 25), (⟨"WellNamesModel", "roadOf", "(II)I"⟩, 25), (⟨"WellNamesModel", "those", "(II)I"⟩, 25), (⟨"WellNamesModel", "its", "(II)I"⟩, 25), (⟨"WellNamesModel", "owes", "(I)I"⟩, 25), (⟨"WellNamesModel", "isPerson", "(I)Z"⟩, 25), (⟨"WellNamesModel", "limitOf", "(I)I"⟩, 25)]
theorem lw_r2 : ∀ q ∈ lw_privs_2, lw_okq q := List.forall_mem_cons.mpr ⟨lw_p16, List.forall_mem_cons.mpr ⟨lw_p17, List.forall_mem_cons.mpr ⟨lw_p18, List.forall_mem_cons.mpr ⟨lw_p19, List.forall_mem_cons.mpr ⟨lw_p20, List.forall_mem_cons.mpr ⟨lw_p21, List.forall_mem_cons.mpr ⟨lw_p22, List.forall_mem_cons.mpr ⟨lw_p23, List.forall_mem_cons.mpr ⟨lw_p24, List.forall_mem_cons.mpr ⟨lw_p25, List.forall_mem_cons.mpr ⟨lw_p26, List.forall_mem_cons.mpr ⟨lw_p27, List.forall_mem_cons.mpr ⟨lw_p28, List.forall_mem_cons.mpr ⟨lw_p29, List.forall_mem_cons.mpr ⟨lw_p30, List.forall_mem_cons.mpr ⟨lw_p31, fun _ h => absurd h List.not_mem_nil⟩⟩⟩⟩⟩⟩⟩⟩⟩⟩⟩⟩⟩⟩⟩⟩
theorem lw_p32 : lw_okq (⟨"WellNamesModel", "needsOf", "(II)I"⟩, 25) := ⟨⟨by decide +kernel, by decide +kernel⟩, List.mem_of_getElem? (i := 796) (by decide +kernel), List.mem_of_getElem? (i := 965) (by decide +kernel), List.mem_of_getElem? (i := 966) (by decide +kernel)⟩
theorem lw_p33 : lw_okq (⟨"WellNamesModel", "needed", "(III)I"⟩, 25) := ⟨⟨by decide +kernel, by decide +kernel⟩, List.mem_of_getElem? (i := 796) (by decide +kernel), List.mem_of_getElem? (i := 969) (by decide +kernel), List.mem_of_getElem? (i := 970) (by decide +kernel)⟩
theorem lw_p34 : lw_okq (⟨"WellNamesModel", "worked", "(IIII)I"⟩, 25) := ⟨⟨by decide +kernel, by decide +kernel⟩, List.mem_of_getElem? (i := 796) (by decide +kernel), List.mem_of_getElem? (i := 973) (by decide +kernel), List.mem_of_getElem? (i := 974) (by decide +kernel)⟩
theorem lw_p35 : lw_okq (⟨"WellNamesModel", "readsText", "(IIIIII)I"⟩, 25) := ⟨⟨by decide +kernel, by decide +kernel⟩, List.mem_of_getElem? (i := 796) (by decide +kernel), List.mem_of_getElem? (i := 977) (by decide +kernel), List.mem_of_getElem? (i := 978) (by decide +kernel)⟩
theorem lw_p36 : lw_okq (⟨"WellNamesModel", "any", "()I"⟩, 25) := ⟨⟨by decide +kernel, by decide +kernel⟩, List.mem_of_getElem? (i := 796) (by decide +kernel), List.mem_of_getElem? (i := 981) (by decide +kernel), List.mem_of_getElem? (i := 982) (by decide +kernel)⟩
theorem lw_p37 : lw_okq (⟨"WellNamesModel", "both", "()I"⟩, 25) := ⟨⟨by decide +kernel, by decide +kernel⟩, List.mem_of_getElem? (i := 796) (by decide +kernel), List.mem_of_getElem? (i := 985) (by decide +kernel), List.mem_of_getElem? (i := 986) (by decide +kernel)⟩
theorem lw_p38 : lw_okq (⟨"WellNamesModel", "test", "()I"⟩, 25) := ⟨⟨by decide +kernel, by decide +kernel⟩, List.mem_of_getElem? (i := 796) (by decide +kernel), List.mem_of_getElem? (i := 989) (by decide +kernel), List.mem_of_getElem? (i := 990) (by decide +kernel)⟩
theorem lw_p39 : lw_okq (⟨"WellNamesModel", "sum", "()I"⟩, 25) := ⟨⟨by decide +kernel, by decide +kernel⟩, List.mem_of_getElem? (i := 796) (by decide +kernel), List.mem_of_getElem? (i := 993) (by decide +kernel), List.mem_of_getElem? (i := 994) (by decide +kernel)⟩
theorem lw_p40 : lw_okq (⟨"WellNamesModel", "product", "()I"⟩, 25) := ⟨⟨by decide +kernel, by decide +kernel⟩, List.mem_of_getElem? (i := 796) (by decide +kernel), List.mem_of_getElem? (i := 997) (by decide +kernel), List.mem_of_getElem? (i := 998) (by decide +kernel)⟩
theorem lw_p41 : lw_okq (⟨"WellNamesModel", "single", "()I"⟩, 25) := ⟨⟨by decide +kernel, by decide +kernel⟩, List.mem_of_getElem? (i := 796) (by decide +kernel), List.mem_of_getElem? (i := 1001) (by decide +kernel), List.mem_of_getElem? (i := 1002) (by decide +kernel)⟩
theorem lw_p42 : lw_okq (⟨"WellNamesModel", "here", "()I"⟩, 25) := ⟨⟨by decide +kernel, by decide +kernel⟩, List.mem_of_getElem? (i := 796) (by decide +kernel), List.mem_of_getElem? (i := 1005) (by decide +kernel), List.mem_of_getElem? (i := 1006) (by decide +kernel)⟩
theorem lw_p43 : lw_okq (⟨"WellNamesModel", "name", "(I)I"⟩, 25) := ⟨⟨by decide +kernel, by decide +kernel⟩, List.mem_of_getElem? (i := 796) (by decide +kernel), List.mem_of_getElem? (i := 1014) (by decide +kernel), List.mem_of_getElem? (i := 1015) (by decide +kernel)⟩
theorem lw_p44 : lw_okq (⟨"WellNamesModel", "takes", "(I)Z"⟩, 25) := ⟨⟨by decide +kernel, by decide +kernel⟩, List.mem_of_getElem? (i := 796) (by decide +kernel), List.mem_of_getElem? (i := 1018) (by decide +kernel), List.mem_of_getElem? (i := 1019) (by decide +kernel)⟩
theorem lw_p45 : lw_okq (⟨"WellNamesModel", "parched", "(III)I"⟩, 25) := ⟨⟨by decide +kernel, by decide +kernel⟩, List.mem_of_getElem? (i := 796) (by decide +kernel), List.mem_of_getElem? (i := 1051) (by decide +kernel), List.mem_of_getElem? (i := 1052) (by decide +kernel)⟩
theorem lw_p46 : lw_okq (⟨"WellNamesModel", "calledOf", "(II)I"⟩, 25) := ⟨⟨by decide +kernel, by decide +kernel⟩, List.mem_of_getElem? (i := 796) (by decide +kernel), List.mem_of_getElem? (i := 1060) (by decide +kernel), List.mem_of_getElem? (i := 1061) (by decide +kernel)⟩
theorem lw_p47 : lw_okq (⟨"WellNamesModel", "thirstBy", "(II)I"⟩, 25) := ⟨⟨by decide +kernel, by decide +kernel⟩, List.mem_of_getElem? (i := 796) (by decide +kernel), List.mem_of_getElem? (i := 1069) (by decide +kernel), List.mem_of_getElem? (i := 1070) (by decide +kernel)⟩
def lw_privs_3 : List (MethodName × Nat) := [(⟨"WellNamesModel", "needsOf", "(II)I"⟩, 25), (⟨"WellNamesModel", "needed", "(III)I"⟩, 25), (⟨"WellNamesModel", "worked", "(IIII)I"⟩, 25), (⟨"WellNamesModel", "readsText", "(IIIIII)I"⟩, 25), (⟨"WellNamesModel", "any", "()I"⟩, 25), (⟨"WellNamesModel", "both", "()I"⟩, 25), (⟨"WellNamesModel", "test", "()I"⟩, 25), (⟨"WellNamesModel", "sum", "()I"⟩, 25), (⟨"WellNamesModel", "product", "()I"⟩, 25), (⟨"WellNamesModel", "single", "()I"⟩, 25), (⟨"WellNamesModel", "here", "()I"⟩, 25), (⟨"WellNamesModel", "name", "(I)I"⟩, 25), (⟨"WellNamesModel", "takes", "(I)Z"⟩, 25), (⟨"WellNamesModel", "parched", "(III)I"⟩, 25), (⟨"WellNamesModel", "calledOf", "(II)I"⟩, 25), (⟨"WellNamesModel", "thirstBy", "(II)I"⟩, 25)]
theorem lw_r3 : ∀ q ∈ lw_privs_3, lw_okq q := List.forall_mem_cons.mpr ⟨lw_p32, List.forall_mem_cons.mpr ⟨lw_p33, List.forall_mem_cons.mpr ⟨lw_p34, List.forall_mem_cons.mpr ⟨lw_p35, List.forall_mem_cons.mpr ⟨lw_p36, List.forall_mem_cons.mpr ⟨lw_p37, List.forall_mem_cons.mpr ⟨lw_p38, List.forall_mem_cons.mpr ⟨lw_p39, List.forall_mem_cons.mpr ⟨lw_p40, List.forall_mem_cons.mpr ⟨lw_p41, List.forall_mem_cons.mpr ⟨lw_p42, List.forall_mem_cons.mpr ⟨lw_p43, List.forall_mem_cons.mpr ⟨lw_p44, List.forall_mem_cons.mpr ⟨lw_p45, List.forall_mem_cons.mpr ⟨lw_p46, List.forall_mem_cons.mpr ⟨lw_p47, fun _ h => absurd h List.not_mem_nil⟩⟩⟩⟩⟩⟩⟩⟩⟩⟩⟩⟩⟩⟩⟩⟩
theorem lw_p48 : lw_okq (⟨"WellNamesModel", "dies", "(I)V"⟩, 25) := ⟨⟨by decide +kernel, by decide +kernel⟩, List.mem_of_getElem? (i := 796) (by decide +kernel), List.mem_of_getElem? (i := 1073) (by decide +kernel), List.mem_of_getElem? (i := 1074) (by decide +kernel)⟩
theorem lw_p49 : lw_okq (⟨"WellNamesModel", "wrongDays", "(II)I"⟩, 25) := ⟨⟨by decide +kernel, by decide +kernel⟩, List.mem_of_getElem? (i := 796) (by decide +kernel), List.mem_of_getElem? (i := 1085) (by decide +kernel), List.mem_of_getElem? (i := 1086) (by decide +kernel)⟩
theorem lw_p50 : lw_okq (⟨"WellNamesModel", "day", "()V"⟩, 25) := ⟨⟨by decide +kernel, by decide +kernel⟩, List.mem_of_getElem? (i := 796) (by decide +kernel), List.mem_of_getElem? (i := 1089) (by decide +kernel), List.mem_of_getElem? (i := 1090) (by decide +kernel)⟩
theorem lw_p51 : lw_okq (⟨"WellNamesModel", "dead", "()I"⟩, 25) := ⟨⟨by decide +kernel, by decide +kernel⟩, List.mem_of_getElem? (i := 796) (by decide +kernel), List.mem_of_getElem? (i := 1093) (by decide +kernel), List.mem_of_getElem? (i := 1094) (by decide +kernel)⟩
theorem lw_p52 : lw_okq (⟨"WellNamesModel", "draw", "()I"⟩, 25) := ⟨⟨by decide +kernel, by decide +kernel⟩, List.mem_of_getElem? (i := 796) (by decide +kernel), List.mem_of_getElem? (i := 1101) (by decide +kernel), List.mem_of_getElem? (i := 1102) (by decide +kernel)⟩
theorem lw_p53 : lw_okq (⟨"WellNamesModel", "way", "(IIIZ)I"⟩, 25) := ⟨⟨by decide +kernel, by decide +kernel⟩, List.mem_of_getElem? (i := 796) (by decide +kernel), List.mem_of_getElem? (i := 1117) (by decide +kernel), List.mem_of_getElem? (i := 1118) (by decide +kernel)⟩
theorem lw_p54 : lw_okq (⟨"WellNamesModel", "wrongWay", "(IZ)I"⟩, 25) := ⟨⟨by decide +kernel, by decide +kernel⟩, List.mem_of_getElem? (i := 796) (by decide +kernel), List.mem_of_getElem? (i := 1124) (by decide +kernel), List.mem_of_getElem? (i := 1125) (by decide +kernel)⟩
theorem lw_p55 : lw_okq (⟨"WellNamesModel", "spreads", "(IIZ)V"⟩, 25) := ⟨⟨by decide +kernel, by decide +kernel⟩, List.mem_of_getElem? (i := 796) (by decide +kernel), List.mem_of_getElem? (i := 1128) (by decide +kernel), List.mem_of_getElem? (i := 1129) (by decide +kernel)⟩
theorem lw_p56 : lw_okq (⟨"WellNamesModel", "lessens", "(III)Z"⟩, 25) := ⟨⟨by decide +kernel, by decide +kernel⟩, List.mem_of_getElem? (i := 796) (by decide +kernel), List.mem_of_getElem? (i := 1133) (by decide +kernel), List.mem_of_getElem? (i := 1134) (by decide +kernel)⟩
theorem lw_p57 : lw_okq (⟨"WellNamesModel", "mayDrink", "(III)Z"⟩, 25) := ⟨⟨by decide +kernel, by decide +kernel⟩, List.mem_of_getElem? (i := 796) (by decide +kernel), List.mem_of_getElem? (i := 1137) (by decide +kernel), List.mem_of_getElem? (i := 1138) (by decide +kernel)⟩
theorem lw_p58 : lw_okq (⟨"WellNamesModel", "leastAt", "(I)I"⟩, 25) := ⟨⟨by decide +kernel, by decide +kernel⟩, List.mem_of_getElem? (i := 796) (by decide +kernel), List.mem_of_getElem? (i := 1141) (by decide +kernel), List.mem_of_getElem? (i := 1142) (by decide +kernel)⟩
theorem lw_p59 : lw_okq (⟨"WellNamesModel", "reached", "(II)I"⟩, 25) := ⟨⟨by decide +kernel, by decide +kernel⟩, List.mem_of_getElem? (i := 796) (by decide +kernel), List.mem_of_getElem? (i := 1154) (by decide +kernel), List.mem_of_getElem? (i := 1155) (by decide +kernel)⟩
theorem lw_p60 : lw_okq (⟨"WellNamesModel", "isWalk", "(I)Z"⟩, 25) := ⟨⟨by decide +kernel, by decide +kernel⟩, List.mem_of_getElem? (i := 796) (by decide +kernel), List.mem_of_getElem? (i := 1178) (by decide +kernel), List.mem_of_getElem? (i := 1179) (by decide +kernel)⟩
theorem lw_p61 : lw_okq (⟨"WellNamesModel", "readsBy", "(I)I"⟩, 25) := ⟨⟨by decide +kernel, by decide +kernel⟩, List.mem_of_getElem? (i := 796) (by decide +kernel), List.mem_of_getElem? (i := 1199) (by decide +kernel), List.mem_of_getElem? (i := 1200) (by decide +kernel)⟩
theorem lw_p62 : lw_okq (⟨"WellNamesModel", "plainReads", "(I)I"⟩, 25) := ⟨⟨by decide +kernel, by decide +kernel⟩, List.mem_of_getElem? (i := 796) (by decide +kernel), List.mem_of_getElem? (i := 1203) (by decide +kernel), List.mem_of_getElem? (i := 1204) (by decide +kernel)⟩
theorem lw_p63 : lw_okq (⟨"WellNamesModel", "ran", "(I)V"⟩, 25) := ⟨⟨by decide +kernel, by decide +kernel⟩, List.mem_of_getElem? (i := 796) (by decide +kernel), List.mem_of_getElem? (i := 1207) (by decide +kernel), List.mem_of_getElem? (i := 1208) (by decide +kernel)⟩
def lw_privs_4 : List (MethodName × Nat) := [(⟨"WellNamesModel", "dies", "(I)V"⟩, 25), (⟨"WellNamesModel", "wrongDays", "(II)I"⟩, 25), (⟨"WellNamesModel", "day", "()V"⟩, 25), (⟨"WellNamesModel", "dead", "()I"⟩, 25), (⟨"WellNamesModel", "draw", "()I"⟩, 25), (⟨"WellNamesModel", "way", "(IIIZ)I"⟩, 25), (⟨"WellNamesModel", "wrongWay", "(IZ)I"⟩, 25), (⟨"WellNamesModel", "spreads", "(IIZ)V"⟩, 25), (⟨"WellNamesModel", "lessens", "(III)Z"⟩, 25), (⟨"WellNamesModel", "mayDrink", "(III)Z"⟩, 25), (⟨"WellNamesModel", "leastAt", "(I)I"⟩, 25), (⟨"WellNamesModel", "reached", "(II)I"⟩, 25), (⟨"WellNamesModel", "isWalk", "(I)Z"⟩, 25), (⟨"WellNamesModel", "readsBy", "(I)I"⟩, 25), (⟨"WellNamesModel", "plainReads", "(I)I"⟩, 25), (⟨"WellNamesModel", "ran", "(I)V"⟩, 25)]
theorem lw_r4 : ∀ q ∈ lw_privs_4, lw_okq q := List.forall_mem_cons.mpr ⟨lw_p48, List.forall_mem_cons.mpr ⟨lw_p49, List.forall_mem_cons.mpr ⟨lw_p50, List.forall_mem_cons.mpr ⟨lw_p51, List.forall_mem_cons.mpr ⟨lw_p52, List.forall_mem_cons.mpr ⟨lw_p53, List.forall_mem_cons.mpr ⟨lw_p54, List.forall_mem_cons.mpr ⟨lw_p55, List.forall_mem_cons.mpr ⟨lw_p56, List.forall_mem_cons.mpr ⟨lw_p57, List.forall_mem_cons.mpr ⟨lw_p58, List.forall_mem_cons.mpr ⟨lw_p59, List.forall_mem_cons.mpr ⟨lw_p60, List.forall_mem_cons.mpr ⟨lw_p61, List.forall_mem_cons.mpr ⟨lw_p62, List.forall_mem_cons.mpr ⟨lw_p63, fun _ h => absurd h List.not_mem_nil⟩⟩⟩⟩⟩⟩⟩⟩⟩⟩⟩⟩⟩⟩⟩⟩
theorem lw_p64 : lw_okq (⟨"WellNamesModel", "givesBy", "(I)I"⟩, 25) := ⟨⟨by decide +kernel, by decide +kernel⟩, List.mem_of_getElem? (i := 796) (by decide +kernel), List.mem_of_getElem? (i := 1211) (by decide +kernel), List.mem_of_getElem? (i := 1212) (by decide +kernel)⟩
theorem lw_p65 : lw_okq (⟨"WellNamesModel", "poemGives", "(I)I"⟩, 25) := ⟨⟨by decide +kernel, by decide +kernel⟩, List.mem_of_getElem? (i := 796) (by decide +kernel), List.mem_of_getElem? (i := 1215) (by decide +kernel), List.mem_of_getElem? (i := 1216) (by decide +kernel)⟩
theorem lw_p66 : lw_okq (⟨"WellNamesModel", "plainGives", "(I)I"⟩, 25) := ⟨⟨by decide +kernel, by decide +kernel⟩, List.mem_of_getElem? (i := 796) (by decide +kernel), List.mem_of_getElem? (i := 1219) (by decide +kernel), List.mem_of_getElem? (i := 1220) (by decide +kernel)⟩
theorem lw_p67 : lw_okq (⟨"WellNamesModel", "takesBy", "(I)I"⟩, 25) := ⟨⟨by decide +kernel, by decide +kernel⟩, List.mem_of_getElem? (i := 796) (by decide +kernel), List.mem_of_getElem? (i := 1223) (by decide +kernel), List.mem_of_getElem? (i := 1224) (by decide +kernel)⟩
theorem lw_p68 : lw_okq (⟨"WellNamesModel", "lawTakes", "(I)I"⟩, 25) := ⟨⟨by decide +kernel, by decide +kernel⟩, List.mem_of_getElem? (i := 796) (by decide +kernel), List.mem_of_getElem? (i := 1227) (by decide +kernel), List.mem_of_getElem? (i := 1228) (by decide +kernel)⟩
theorem lw_p69 : lw_okq (⟨"WellNamesModel", "plainTakes", "(I)I"⟩, 25) := ⟨⟨by decide +kernel, by decide +kernel⟩, List.mem_of_getElem? (i := 796) (by decide +kernel), List.mem_of_getElem? (i := 1231) (by decide +kernel), List.mem_of_getElem? (i := 1232) (by decide +kernel)⟩
theorem lw_p70 : lw_okq (⟨"WellNamesModel", "tellsBy", "(I)I"⟩, 25) := ⟨⟨by decide +kernel, by decide +kernel⟩, List.mem_of_getElem? (i := 796) (by decide +kernel), List.mem_of_getElem? (i := 1235) (by decide +kernel), List.mem_of_getElem? (i := 1236) (by decide +kernel)⟩
theorem lw_p71 : lw_okq (⟨"WellNamesModel", "plainTells", "(I)I"⟩, 25) := ⟨⟨by decide +kernel, by decide +kernel⟩, List.mem_of_getElem? (i := 796) (by decide +kernel), List.mem_of_getElem? (i := 1239) (by decide +kernel), List.mem_of_getElem? (i := 1240) (by decide +kernel)⟩
theorem lw_p72 : lw_okq (⟨"WellNamesModel", "wrong", "(I)I"⟩, 25) := ⟨⟨by decide +kernel, by decide +kernel⟩, List.mem_of_getElem? (i := 796) (by decide +kernel), List.mem_of_getElem? (i := 1255) (by decide +kernel), List.mem_of_getElem? (i := 1256) (by decide +kernel)⟩
theorem lw_p73 : lw_okq (⟨"WellNamesModel", "laysAside", "()V"⟩, 25) := ⟨⟨by decide +kernel, by decide +kernel⟩, List.mem_of_getElem? (i := 796) (by decide +kernel), List.mem_of_getElem? (i := 1287) (by decide +kernel), List.mem_of_getElem? (i := 1288) (by decide +kernel)⟩
theorem lw_p74 : lw_okq (⟨"WellNamesModel", "takesBack", "(I)I"⟩, 25) := ⟨⟨by decide +kernel, by decide +kernel⟩, List.mem_of_getElem? (i := 796) (by decide +kernel), List.mem_of_getElem? (i := 1291) (by decide +kernel), List.mem_of_getElem? (i := 1292) (by decide +kernel)⟩
theorem lw_p75 : lw_okq (⟨"WellNamesModel", "sum", "(II)I"⟩, 25) := ⟨⟨by decide +kernel, by decide +kernel⟩, List.mem_of_getElem? (i := 796) (by decide +kernel), List.mem_of_getElem? (i := 1299) (by decide +kernel), List.mem_of_getElem? (i := 1300) (by decide +kernel)⟩
def lw_privs_5 : List (MethodName × Nat) := [(⟨"WellNamesModel", "givesBy", "(I)I"⟩, 25), (⟨"WellNamesModel", "poemGives", "(I)I"⟩, 25), (⟨"WellNamesModel", "plainGives", "(I)I"⟩, 25), (⟨"WellNamesModel", "takesBy", "(I)I"⟩, 25), (⟨"WellNamesModel", "lawTakes", "(I)I"⟩, 25), (⟨"WellNamesModel", "plainTakes", "(I)I"⟩, 25), (⟨"WellNamesModel", "tellsBy", "(I)I"⟩, 25), (⟨"WellNamesModel", "plainTells", "(I)I"⟩, 25), (⟨"WellNamesModel", "wrong", "(I)I"⟩, 25), (⟨"WellNamesModel", "laysAside", "()V"⟩, 25), (⟨"WellNamesModel", "takesBack", "(I)I"⟩, 25), (⟨"WellNamesModel", "sum", "(II)I"⟩, 25)]
theorem lw_r5 : ∀ q ∈ lw_privs_5, lw_okq q := List.forall_mem_cons.mpr ⟨lw_p64, List.forall_mem_cons.mpr ⟨lw_p65, List.forall_mem_cons.mpr ⟨lw_p66, List.forall_mem_cons.mpr ⟨lw_p67, List.forall_mem_cons.mpr ⟨lw_p68, List.forall_mem_cons.mpr ⟨lw_p69, List.forall_mem_cons.mpr ⟨lw_p70, List.forall_mem_cons.mpr ⟨lw_p71, List.forall_mem_cons.mpr ⟨lw_p72, List.forall_mem_cons.mpr ⟨lw_p73, List.forall_mem_cons.mpr ⟨lw_p74, List.forall_mem_cons.mpr ⟨lw_p75, fun _ h => absurd h List.not_mem_nil⟩⟩⟩⟩⟩⟩⟩⟩⟩⟩⟩⟩
def lw_privs : List (MethodName × Nat) := lw_privs_1 ++ (lw_privs_2 ++ (lw_privs_3 ++ (lw_privs_4 ++ (lw_privs_5))))
def lw_tbl : List Cond := k2_sels lw_privs ++ tables_1
theorem lw_privs_ok : ∀ q ∈ lw_privs, lw_okq q := by
  show ∀ q ∈ lw_privs_1 ++ (lw_privs_2 ++ (lw_privs_3 ++ (lw_privs_4 ++ (lw_privs_5)))), lw_okq q
  exact List.forall_mem_append.mpr ⟨lw_r1, List.forall_mem_append.mpr ⟨lw_r2, List.forall_mem_append.mpr ⟨lw_r3, List.forall_mem_append.mpr ⟨lw_r4, lw_r5⟩⟩⟩⟩
def RX0 : String := "WellNames$Law"
def TX0 : u_T := fun k => match k with
  | 0 => ("WellNames$Law", "code", "[I", true)
  | 1 => ("WellNames$Law", "length", "I", false)
  | 2 => ("WellNames$Law", "use", "I", true)
  | _ => ("WellNames$Law", "stack", "[I", true)
def tyX0 : Nat → FieldType := fun k => match k with
  | 0 => .array .int
  | 1 => .int
  | 2 => .int
  | _ => .array .int
abbrev wsX00 : List Cond := u_ws RX0 TX0 4
theorem nmX0 : ∀ a, a < 4 → ∀ b, b < 4 → a ≠ b → (TX0 a).2.1 ≠ (TX0 b).2.1 := by decide +kernel
theorem tyX0_ok : ∀ k, k < 4 → parseFieldDescriptor (TX0 k).2.2.1 = some (tyX0 k) := by decide +kernel
abbrev cX0_init : ByteArray := prog_2_method_1_code
def yX0_init : MethodName := ⟨RX0, "<init>", "(I)V"⟩
abbrev cX0_take : ByteArray := prog_2_method_2_code
def yX0_take : MethodName := ⟨RX0, "take", "([II)V"⟩
abbrev cX0_gives : ByteArray := prog_2_method_3_code
def yX0_gives : MethodName := ⟨RX0, "gives", "(III)I"⟩
abbrev cX0_withoutText : ByteArray := prog_2_method_4_code
def yX0_withoutText : MethodName := ⟨RX0, "withoutText", "(II)I"⟩
abbrev cX0_worked : ByteArray := prog_2_method_5_code
def yX0_worked : MethodName := ⟨RX0, "worked", "(III)I"⟩
abbrev cX0_plain : ByteArray := prog_2_method_6_code
def yX0_plain : MethodName := ⟨RX0, "plain", "(IIII)I"⟩
abbrev cX0_joined : ByteArray := prog_2_method_7_code
def yX0_joined : MethodName := ⟨RX0, "joined", "(III)I"⟩
def RX1 : String := "WellNames$Person"
def TX1 : u_T := fun k => match k with
  | 0 => ("WellNames$Person", "kind", "I", false)
  | 1 => ("WellNames$Person", "m", "I", false)
  | 2 => ("WellNames$Person", "at", "I", false)
  | 3 => ("WellNames$Person", "name", "I", false)
  | 4 => ("WellNames$Person", "thirst", "I", false)
  | _ => ("WellNames$Person", "dead", "Z", false)
def tyX1 : Nat → FieldType := fun k => match k with
  | 0 => .int
  | 1 => .int
  | 2 => .int
  | 3 => .int
  | 4 => .int
  | _ => .boolean
abbrev wsX10 : List Cond := u_ws RX1 TX1 6
theorem nmX1 : ∀ a, a < 6 → ∀ b, b < 6 → a ≠ b → (TX1 a).2.1 ≠ (TX1 b).2.1 := by decide +kernel
theorem tyX1_ok : ∀ k, k < 6 → parseFieldDescriptor (TX1 k).2.2.1 = some (tyX1 k) := by decide +kernel
abbrev cX1_init : ByteArray := prog_3_method_1_code
def yX1_init : MethodName := ⟨RX1, "<init>", "()V"⟩
abbrev cX1_begin : ByteArray := prog_3_method_2_code
def yX1_begin : MethodName := ⟨RX1, "begin", "(III)V"⟩
abbrev cX1_copyFrom : ByteArray := prog_3_method_3_code
def yX1_copyFrom : MethodName := ⟨RX1, "copyFrom", "(LWellNames$Person;)V"⟩
abbrev cX1_isOf : ByteArray := prog_3_method_4_code
def yX1_isOf : MethodName := ⟨RX1, "isOf", "(I)Z"⟩
abbrev cX1_limit : ByteArray := prog_3_method_5_code
def yX1_limit : MethodName := ⟨RX1, "limit", "()I"⟩
abbrev cX1_called : ByteArray := prog_3_method_6_code
def yX1_called : MethodName := ⟨RX1, "called", "(I)I"⟩
abbrev cX1_thirsts : ByteArray := prog_3_method_7_code
def yX1_thirsts : MethodName := ⟨RX1, "thirsts", "(I)V"⟩
def RX2 : String := "WellNames$Reader"
def TX2 : u_T := fun k => match k with
  | 0 => ("WellNames$Reader", "code", "[I", true)
  | 1 => ("WellNames$Reader", "coded", "I", false)
  | 2 => ("WellNames$Reader", "bytes", "[I", true)
  | 3 => ("WellNames$Reader", "length", "I", false)
  | 4 => ("WellNames$Reader", "use", "I", false)
  | 5 => ("WellNames$Reader", "place", "I", false)
  | 6 => ("WellNames$Reader", "open", "I", false)
  | _ => ("WellNames$Reader", "faulty", "Z", false)
def tyX2 : Nat → FieldType := fun k => match k with
  | 0 => .array .int
  | 1 => .int
  | 2 => .array .int
  | 3 => .int
  | 4 => .int
  | 5 => .int
  | 6 => .int
  | _ => .boolean
abbrev wsX20 : List Cond := u_ws RX2 TX2 8
theorem nmX2 : ∀ a, a < 8 → ∀ b, b < 8 → a ≠ b → (TX2 a).2.1 ≠ (TX2 b).2.1 := by decide +kernel
theorem tyX2_ok : ∀ k, k < 8 → parseFieldDescriptor (TX2 k).2.2.1 = some (tyX2 k) := by decide +kernel
abbrev cX2_init : ByteArray := prog_4_method_1_code
def yX2_init : MethodName := ⟨RX2, "<init>", "()V"⟩
abbrev cX2_read : ByteArray := prog_4_method_2_code
def yX2_read : MethodName := ⟨RX2, "read", "([III)I"⟩
abbrev cX2_readJoined : ByteArray := prog_4_method_3_code
def yX2_readJoined : MethodName := ⟨RX2, "readJoined", "(I)V"⟩
abbrev cX2_readSingle : ByteArray := prog_4_method_4_code
def yX2_readSingle : MethodName := ⟨RX2, "readSingle", "()V"⟩
abbrev cX2_readOpened : ByteArray := prog_4_method_5_code
def yX2_readOpened : MethodName := ⟨RX2, "readOpened", "(I)V"⟩
abbrev cX2_readNumber : ByteArray := prog_4_method_6_code
def yX2_readNumber : MethodName := ⟨RX2, "readNumber", "()V"⟩
abbrev cX2_next : ByteArray := prog_4_method_7_code
def yX2_next : MethodName := ⟨RX2, "next", "()I"⟩
abbrev cX2_emit : ByteArray := prog_4_method_8_code
def yX2_emit : MethodName := ⟨RX2, "emit", "(I)V"⟩
abbrev cX2_isDigit : ByteArray := prog_4_method_9_code
def yX2_isDigit : MethodName := ⟨RX2, "isDigit", "(I)Z"⟩
abbrev cX2_nameOf : ByteArray := prog_4_method_10_code
def yX2_nameOf : MethodName := ⟨RX2, "nameOf", "(I)I"⟩
abbrev cX2_rankOf : ByteArray := prog_4_method_11_code
def yX2_rankOf : MethodName := ⟨RX2, "rankOf", "(I)I"⟩
def RX3 : String := "WellNames$Sheet"
def TX3 : u_T := fun k => match k with
  | 0 => ("WellNames$Sheet", "numbers", "[I", true)
  | 1 => ("WellNames$Sheet", "bits", "I", false)
  | _ => ("WellNames$Sheet", "size", "I", false)
def tyX3 : Nat → FieldType := fun k => match k with
  | 0 => .array .int
  | 1 => .int
  | _ => .int
abbrev wsX30 : List Cond := u_ws RX3 TX3 3
theorem nmX3 : ∀ a, a < 3 → ∀ b, b < 3 → a ≠ b → (TX3 a).2.1 ≠ (TX3 b).2.1 := by decide +kernel
theorem tyX3_ok : ∀ k, k < 3 → parseFieldDescriptor (TX3 k).2.2.1 = some (tyX3 k) := by decide +kernel
abbrev cX3_init : ByteArray := prog_5_method_1_code
def yX3_init : MethodName := ⟨RX3, "<init>", "()V"⟩
abbrev cX3_begin : ByteArray := prog_5_method_2_code
def yX3_begin : MethodName := ⟨RX3, "begin", "(II)V"⟩
abbrev cX3_isMissing : ByteArray := prog_5_method_3_code
def yX3_isMissing : MethodName := ⟨RX3, "isMissing", "()Z"⟩
abbrev cX3_holds : ByteArray := prog_5_method_4_code
def yX3_holds : MethodName := ⟨RX3, "holds", "(II)Z"⟩
abbrev cX3_set : ByteArray := prog_5_method_5_code
def yX3_set : MethodName := ⟨RX3, "set", "(II)V"⟩
def RX4 : String := "WellNames$Voices"
def TX4 : u_T := fun k => match k with
  | 0 => ("WellNames$Voices", "bodies", "[I", true)
  | 1 => ("WellNames$Voices", "begun", "I", false)
  | 2 => ("WellNames$Voices", "n", "I", false)
  | 3 => ("WellNames$Voices", "m", "I", false)
  | _ => ("WellNames$Voices", "kind", "I", false)
def tyX4 : Nat → FieldType := fun k => match k with
  | 0 => .array .int
  | 1 => .int
  | 2 => .int
  | 3 => .int
  | _ => .int
abbrev wsX40 : List Cond := u_ws RX4 TX4 5
theorem nmX4 : ∀ a, a < 5 → ∀ b, b < 5 → a ≠ b → (TX4 a).2.1 ≠ (TX4 b).2.1 := by decide +kernel
theorem tyX4_ok : ∀ k, k < 5 → parseFieldDescriptor (TX4 k).2.2.1 = some (tyX4 k) := by decide +kernel
abbrev cX4_init : ByteArray := prog_6_method_1_code
def yX4_init : MethodName := ⟨RX4, "<init>", "()V"⟩
abbrev cX4_speak : ByteArray := prog_6_method_2_code
def yX4_speak : MethodName := ⟨RX4, "speak", "(ILWellNames$Person;II)I"⟩
abbrev cX4_say : ByteArray := prog_6_method_3_code
def yX4_say : MethodName := ⟨RX4, "say", "(IIII)I"⟩
abbrev cX4_run : ByteArray := prog_6_method_4_code
def yX4_run : MethodName := ⟨RX4, "run", "(IIII)I"⟩
abbrev cX4_note : ByteArray := prog_6_method_5_code
def yX4_note : MethodName := ⟨RX4, "note", "(I)V"⟩
def RX5 : String := "WellNames$Ways"
def TX5 : u_T := fun k => match k with
  | 0 => ("WellNames$Ways", "mayDrink", "I", false)
  | 1 => ("WellNames$Ways", "limit", "I", false)
  | 2 => ("WellNames$Ways", "enoughWater", "I", false)
  | 3 => ("WellNames$Ways", "roads", "[I", true)
  | 4 => ("WellNames$Ways", "cost", "[I", true)
  | 5 => ("WellNames$Ways", "least", "[I", true)
  | _ => ("WellNames$Ways", "hours", "[I", true)
def tyX5 : Nat → FieldType := fun k => match k with
  | 0 => .int
  | 1 => .int
  | 2 => .int
  | 3 => .array .int
  | 4 => .array .int
  | 5 => .array .int
  | _ => .array .int
abbrev wsX50 : List Cond := u_ws RX5 TX5 7
theorem nmX5 : ∀ a, a < 7 → ∀ b, b < 7 → a ≠ b → (TX5 a).2.1 ≠ (TX5 b).2.1 := by decide +kernel
theorem tyX5_ok : ∀ k, k < 7 → parseFieldDescriptor (TX5 k).2.2.1 = some (tyX5 k) := by decide +kernel
abbrev cX5_init : ByteArray := prog_7_method_1_code
def yX5_init : MethodName := ⟨RX5, "<init>", "()V"⟩
abbrev cX5_think : ByteArray := prog_7_method_2_code
def yX5_think : MethodName := ⟨RX5, "think", "(LWellNames$World;LWellNames$Person;I)V"⟩
abbrev cX5_startAgain : ByteArray := prog_7_method_3_code
def yX5_startAgain : MethodName := ⟨RX5, "startAgain", "(LWellNames$Person;I)V"⟩
abbrev cX5_reached : ByteArray := prog_7_method_4_code
def yX5_reached : MethodName := ⟨RX5, "reached", "()I"⟩
abbrev cX5_fewestDrinks : ByteArray := prog_7_method_5_code
def yX5_fewestDrinks : MethodName := ⟨RX5, "fewestDrinks", "(I)I"⟩
abbrev cX5_soonestHours : ByteArray := prog_7_method_6_code
def yX5_soonestHours : MethodName := ⟨RX5, "soonestHours", "(I)I"⟩
abbrev cX5_shortestWay : ByteArray := prog_7_method_7_code
def yX5_shortestWay : MethodName := ⟨RX5, "shortestWay", "(LWellNames$World;II)I"⟩
abbrev cX5_leastNet : ByteArray := prog_7_method_8_code
def yX5_leastNet : MethodName := ⟨RX5, "leastNet", "(LWellNames$World;)I"⟩
abbrev cX5_walkedHours : ByteArray := prog_7_method_9_code
def yX5_walkedHours : MethodName := ⟨RX5, "walkedHours", "(LWellNames$World;LWellNames$Sheet;)I"⟩
abbrev cX5_comesAlive : ByteArray := prog_7_method_10_code
def yX5_comesAlive : MethodName := ⟨RX5, "comesAlive", "(LWellNames$World;LWellNames$Sheet;LWellNames$Person;I)Z"⟩
abbrev cX5_lookAtRoads : ByteArray := prog_7_method_11_code
def yX5_lookAtRoads : MethodName := ⟨RX5, "lookAtRoads", "(LWellNames$World;)V"⟩
abbrev cX5_drinkWherePossible : ByteArray := prog_7_method_12_code
def yX5_drinkWherePossible : MethodName := ⟨RX5, "drinkWherePossible", "()Z"⟩
abbrev cX5_spread : ByteArray := prog_7_method_13_code
def yX5_spread : MethodName := ⟨RX5, "spread", "(Z)V"⟩
abbrev cX5_spreadFrom : ByteArray := prog_7_method_14_code
def yX5_spreadFrom : MethodName := ⟨RX5, "spreadFrom", "(IZ)Z"⟩
abbrev cX5_arriveAt : ByteArray := prog_7_method_15_code
def yX5_arriveAt : MethodName := ⟨RX5, "arriveAt", "(I)V"⟩
abbrev cX5_nearestOutside : ByteArray := prog_7_method_16_code
def yX5_nearestOutside : MethodName := ⟨RX5, "nearestOutside", "(I)I"⟩
abbrev cX5_isIn : ByteArray := prog_7_method_17_code
def yX5_isIn : MethodName := ⟨RX5, "isIn", "(II)Z"⟩
def RX6 : String := "WellNames$World"
def TX6 : u_T := fun k => match k with
  | 0 => ("WellNames$World", "water", "[I", true)
  | 1 => ("WellNames$World", "roads", "[I", true)
  | 2 => ("WellNames$World", "owed", "[I", true)
  | 3 => ("WellNames$World", "persons", "[LWellNames$Person;", true)
  | 4 => ("WellNames$World", "laws", "[LWellNames$Law;", true)
  | 5 => ("WellNames$World", "tape", "[I", true)
  | 6 => ("WellNames$World", "waiting", "[I", true)
  | 7 => ("WellNames$World", "people", "I", false)
  | 8 => ("WellNames$World", "rain", "I", false)
  | 9 => ("WellNames$World", "hour", "I", false)
  | 10 => ("WellNames$World", "day", "I", false)
  | 11 => ("WellNames$World", "fed", "I", false)
  | 12 => ("WellNames$World", "waits", "I", false)
  | _ => ("WellNames$World", "z", "I", false)
def tyX6 : Nat → FieldType := fun k => match k with
  | 0 => .array .int
  | 1 => .array .int
  | 2 => .array .int
  | 3 => .array (.object "WellNames$Person")
  | 4 => .array (.object "WellNames$Law")
  | 5 => .array .int
  | 6 => .array .int
  | 7 => .int
  | 8 => .int
  | 9 => .int
  | 10 => .int
  | 11 => .int
  | 12 => .int
  | _ => .int
abbrev wsX60 : List Cond := u_ws RX6 TX6 14
theorem nmX6 : ∀ a, a < 14 → ∀ b, b < 14 → a ≠ b → (TX6 a).2.1 ≠ (TX6 b).2.1 := by decide +kernel
theorem tyX6_ok : ∀ k, k < 14 → parseFieldDescriptor (TX6 k).2.2.1 = some (tyX6 k) := by decide +kernel
abbrev cX6_init : ByteArray := prog_8_method_1_code
def yX6_init : MethodName := ⟨RX6, "<init>", "()V"⟩
abbrev cX6_copyFrom : ByteArray := prog_8_method_2_code
def yX6_copyFrom : MethodName := ⟨RX6, "copyFrom", "(LWellNames$World;)V"⟩
abbrev cX6_needs : ByteArray := prog_8_method_3_code
def yX6_needs : MethodName := ⟨RX6, "needs", "(LWellNames$Person;I)I"⟩
abbrev cX6_parched : ByteArray := prog_8_method_4_code
def yX6_parched : MethodName := ⟨RX6, "parched", "(LWellNames$Person;I)I"⟩
abbrev cX6_roadsFrom : ByteArray := prog_8_method_5_code
def yX6_roadsFrom : MethodName := ⟨RX6, "roadsFrom", "(I)I"⟩
abbrev cX6_namedBy : ByteArray := prog_8_method_6_code
def yX6_namedBy : MethodName := ⟨RX6, "namedBy", "(I)I"⟩
abbrev cX6_standingAt : ByteArray := prog_8_method_7_code
def yX6_standingAt : MethodName := ⟨RX6, "standingAt", "(I)I"⟩
abbrev cX6_pairsOfOneName : ByteArray := prog_8_method_8_code
def yX6_pairsOfOneName : MethodName := ⟨RX6, "pairsOfOneName", "()I"⟩
abbrev cX6_debtOf : ByteArray := prog_8_method_9_code
def yX6_debtOf : MethodName := ⟨RX6, "debtOf", "(I)I"⟩
abbrev cX6_debtBehind : ByteArray := prog_8_method_10_code
def yX6_debtBehind : MethodName := ⟨RX6, "debtBehind", "(III)I"⟩
abbrev cX6_owedInAll : ByteArray := prog_8_method_11_code
def yX6_owedInAll : MethodName := ⟨RX6, "owedInAll", "()I"⟩
abbrev cX6_waterInAll : ByteArray := prog_8_method_12_code
def yX6_waterInAll : MethodName := ⟨RX6, "waterInAll", "()I"⟩
abbrev cX6_hasDays : ByteArray := prog_8_method_13_code
def yX6_hasDays : MethodName := ⟨RX6, "hasDays", "(I)Z"⟩
abbrev cX6_passDay : ByteArray := prog_8_method_14_code
def yX6_passDay : MethodName := ⟨RX6, "passDay", "()V"⟩
abbrev cX6_drawWater : ByteArray := prog_8_method_15_code
def yX6_drawWater : MethodName := ⟨RX6, "drawWater", "()V"⟩
abbrev cX6_draw : ByteArray := prog_8_method_16_code
def yX6_draw : MethodName := ⟨RX6, "draw", "()I"⟩
abbrev cX6_deadBehind : ByteArray := prog_8_method_17_code
def yX6_deadBehind : MethodName := ⟨RX6, "deadBehind", "(I)I"⟩
abbrev cX6_takeWaters : ByteArray := prog_8_method_18_code
def yX6_takeWaters : MethodName := ⟨RX6, "takeWaters", "(LWellNames$Sheet;)I"⟩
abbrev cX6_firstMisnamed : ByteArray := prog_8_method_19_code
def yX6_firstMisnamed : MethodName := ⟨RX6, "firstMisnamed", "(LWellNames$Sheet;)I"⟩
def RX7 : String := "WellNames"
def TX7 : u_T := fun k => match k with
  | 0 => ("WellNames", "world", "LWellNames$World;", true)
  | 1 => ("WellNames", "kept", "LWellNames$World;", true)
  | 2 => ("WellNames", "ways", "LWellNames$Ways;", true)
  | 3 => ("WellNames", "reader", "LWellNames$Reader;", true)
  | 4 => ("WellNames", "voices", "LWellNames$Voices;", true)
  | 5 => ("WellNames", "sheets", "[LWellNames$Sheet;", true)
  | 6 => ("WellNames", "refused", "[I", true)
  | _ => ("WellNames", "images", "I", false)
def tyX7 : Nat → FieldType := fun k => match k with
  | 0 => .object "WellNames$World"
  | 1 => .object "WellNames$World"
  | 2 => .object "WellNames$Ways"
  | 3 => .object "WellNames$Reader"
  | 4 => .object "WellNames$Voices"
  | 5 => .array (.object "WellNames$Sheet")
  | 6 => .array .int
  | _ => .int
abbrev wsX70 : List Cond := u_ws RX7 TX7 8
theorem nmX7 : ∀ a, a < 8 → ∀ b, b < 8 → a ≠ b → (TX7 a).2.1 ≠ (TX7 b).2.1 := by decide +kernel
theorem tyX7_ok : ∀ k, k < 8 → parseFieldDescriptor (TX7 k).2.2.1 = some (tyX7 k) := by decide +kernel
abbrev cX7_init : ByteArray := prog_1_method_1_code
def yX7_init : MethodName := ⟨RX7, "<init>", "()V"⟩
abbrev cX7_water : ByteArray := prog_1_method_2_code
def yX7_water : MethodName := ⟨RX7, "water", "(II)I"⟩
abbrev cX7_road : ByteArray := prog_1_method_3_code
def yX7_road : MethodName := ⟨RX7, "road", "(III)I"⟩
abbrev cX7_owe : ByteArray := prog_1_method_4_code
def yX7_owe : MethodName := ⟨RX7, "owe", "(III)I"⟩
abbrev cX7_ofWell : ByteArray := prog_1_method_5_code
def yX7_ofWell : MethodName := ⟨RX7, "ofWell", "(II)I"⟩
abbrev cX7_rain : ByteArray := prog_1_method_6_code
def yX7_rain : MethodName := ⟨RX7, "rain", "(I)I"⟩
abbrev cX7_person : ByteArray := prog_1_method_7_code
def yX7_person : MethodName := ⟨RX7, "person", "(II)I"⟩
abbrev cX7_ofPerson : ByteArray := prog_1_method_8_code
def yX7_ofPerson : MethodName := ⟨RX7, "ofPerson", "(II)I"⟩
abbrev cX7_become : ByteArray := prog_1_method_9_code
def yX7_become : MethodName := ⟨RX7, "become", "(II)I"⟩
abbrev cX7_as : ByteArray := prog_1_method_10_code
def yX7_as : MethodName := ⟨RX7, "as", "(II)I"⟩
abbrev cX7_feed : ByteArray := prog_1_method_11_code
def yX7_feed : MethodName := ⟨RX7, "feed", "(JI)I"⟩
abbrev cX7_text : ByteArray := prog_1_method_12_code
def yX7_text : MethodName := ⟨RX7, "text", "(I)I"⟩
abbrev cX7_law : ByteArray := prog_1_method_13_code
def yX7_law : MethodName := ⟨RX7, "law", "(IIII)I"⟩
abbrev cX7_drink : ByteArray := prog_1_method_14_code
def yX7_drink : MethodName := ⟨RX7, "drink", "(I)I"⟩
abbrev cX7_go : ByteArray := prog_1_method_15_code
def yX7_go : MethodName := ⟨RX7, "go", "(II)I"⟩
abbrev cX7_pay : ByteArray := prog_1_method_16_code
def yX7_pay : MethodName := ⟨RX7, "pay", "(III)I"⟩
abbrev cX7_days : ByteArray := prog_1_method_17_code
def yX7_days : MethodName := ⟨RX7, "days", "(I)I"⟩
abbrev cX7_loose : ByteArray := prog_1_method_18_code
def yX7_loose : MethodName := ⟨RX7, "loose", "(I)I"⟩
abbrev cX7_same : ByteArray := prog_1_method_19_code
def yX7_same : MethodName := ⟨RX7, "same", "()I"⟩
abbrev cX7_soonest : ByteArray := prog_1_method_20_code
def yX7_soonest : MethodName := ⟨RX7, "soonest", "(III)I"⟩
abbrev cX7_drinks : ByteArray := prog_1_method_21_code
def yX7_drinks : MethodName := ⟨RX7, "drinks", "(III)I"⟩
abbrev cX7_reach : ByteArray := prog_1_method_22_code
def yX7_reach : MethodName := ⟨RX7, "reach", "(III)I"⟩
abbrev cX7_dry : ByteArray := prog_1_method_23_code
def yX7_dry : MethodName := ⟨RX7, "dry", "(II)I"⟩
abbrev cX7_net : ByteArray := prog_1_method_24_code
def yX7_net : MethodName := ⟨RX7, "net", "()I"⟩
abbrev cX7_shortest : ByteArray := prog_1_method_25_code
def yX7_shortest : MethodName := ⟨RX7, "shortest", "(II)I"⟩
abbrev cX7_walked : ByteArray := prog_1_method_26_code
def yX7_walked : MethodName := ⟨RX7, "walked", "(I)I"⟩
abbrev cX7_alive : ByteArray := prog_1_method_27_code
def yX7_alive : MethodName := ⟨RX7, "alive", "(III)I"⟩
abbrev cX7_grown : ByteArray := prog_1_method_28_code
def yX7_grown : MethodName := ⟨RX7, "grown", "(III)I"⟩
abbrev cX7_seed : ByteArray := prog_1_method_29_code
def yX7_seed : MethodName := ⟨RX7, "seed", "(I)I"⟩
abbrev cX7_voice : ByteArray := prog_1_method_30_code
def yX7_voice : MethodName := ⟨RX7, "voice", "(III)I"⟩
abbrev cX7_trace : ByteArray := prog_1_method_31_code
def yX7_trace : MethodName := ⟨RX7, "trace", "(I)I"⟩
abbrev cX7_sheet : ByteArray := prog_1_method_32_code
def yX7_sheet : MethodName := ⟨RX7, "sheet", "(III)I"⟩
abbrev cX7_put : ByteArray := prog_1_method_33_code
def yX7_put : MethodName := ⟨RX7, "put", "(III)I"⟩
abbrev cX7_move : ByteArray := prog_1_method_34_code
def yX7_move : MethodName := ⟨RX7, "move", "(IIIII)I"⟩
abbrev cX7_waters : ByteArray := prog_1_method_35_code
def yX7_waters : MethodName := ⟨RX7, "waters", "(I)I"⟩
abbrev cX7_judge : ByteArray := prog_1_method_36_code
def yX7_judge : MethodName := ⟨RX7, "judge", "(I)I"⟩
abbrev cX7_image : ByteArray := prog_1_method_37_code
def yX7_image : MethodName := ⟨RX7, "image", "()I"⟩
abbrev cX7_restore : ByteArray := prog_1_method_38_code
def yX7_restore : MethodName := ⟨RX7, "restore", "()I"⟩
abbrev cX7_tell : ByteArray := prog_1_method_39_code
def yX7_tell : MethodName := ⟨RX7, "tell", "(I)I"⟩
abbrev cX7_check : ByteArray := prog_1_method_40_code
def yX7_check : MethodName := ⟨RX7, "check", "()I"⟩
abbrev cX7_count : ByteArray := prog_1_method_41_code
def yX7_count : MethodName := ⟨RX7, "count", "(I)I"⟩
abbrev cX7_told : ByteArray := prog_1_method_42_code
def yX7_told : MethodName := ⟨RX7, "told", "(I)I"⟩
abbrev cX7_passDays : ByteArray := prog_1_method_43_code
def yX7_passDays : MethodName := ⟨RX7, "passDays", "(IIZ)I"⟩
abbrev cX7_leastTill : ByteArray := prog_1_method_44_code
def yX7_leastTill : MethodName := ⟨RX7, "leastTill", "(IIIZ)I"⟩
abbrev cX7_refuse : ByteArray := prog_1_method_45_code
def yX7_refuse : MethodName := ⟨RX7, "refuse", "(I)I"⟩
abbrev cX7_isPerson : ByteArray := prog_1_method_46_code
def yX7_isPerson : MethodName := ⟨RX7, "isPerson", "(I)Z"⟩
abbrev cX7_isWell : ByteArray := prog_1_method_47_code
def yX7_isWell : MethodName := ⟨RX7, "isWell", "(I)Z"⟩
abbrev cX7_areTwoWells : ByteArray := prog_1_method_48_code
def yX7_areTwoWells : MethodName := ⟨RX7, "areTwoWells", "(II)Z"⟩
abbrev cX7_areWells : ByteArray := prog_1_method_49_code
def yX7_areWells : MethodName := ⟨RX7, "areWells", "(I)Z"⟩
abbrev cX7_isKindWithNumber : ByteArray := prog_1_method_50_code
def yX7_isKindWithNumber : MethodName := ⟨RX7, "isKindWithNumber", "(I)Z"⟩
abbrev cX7_isUse : ByteArray := prog_1_method_51_code
def yX7_isUse : MethodName := ⟨RX7, "isUse", "(I)Z"⟩
abbrev cX7_isSheet : ByteArray := prog_1_method_52_code
def yX7_isSheet : MethodName := ⟨RX7, "isSheet", "(I)Z"⟩
abbrev cX7_within : ByteArray := prog_1_method_53_code
def yX7_within : MethodName := ⟨RX7, "within", "(III)Z"⟩
def RX8 : String := "WellNamesModel"
def TX8 : u_T := fun k => match k with
  | 0 => ("WellNamesModel", "s", "[I", true)
  | 1 => ("WellNamesModel", "kept", "[I", true)
  | 2 => ("WellNamesModel", "aside", "[I", true)
  | 3 => ("WellNamesModel", "errors", "[I", true)
  | 4 => ("WellNamesModel", "images", "I", false)
  | 5 => ("WellNamesModel", "first", "I", false)
  | 6 => ("WellNamesModel", "size", "I", false)
  | 7 => ("WellNamesModel", "at", "I", false)
  | 8 => ("WellNamesModel", "open", "I", false)
  | 9 => ("WellNamesModel", "use0", "I", false)
  | 10 => ("WellNamesModel", "one0", "I", false)
  | 11 => ("WellNamesModel", "two0", "I", false)
  | 12 => ("WellNamesModel", "three0", "I", false)
  | 13 => ("WellNamesModel", "isWrong", "Z", false)
  | 14 => ("WellNamesModel", "least", "[I", true)
  | 15 => ("WellNamesModel", "road", "[I", true)
  | 16 => ("WellNamesModel", "trace", "[I", true)
  | 17 => ("WellNamesModel", "bodies", "I", false)
  | 18 => ("WellNamesModel", "kind0", "I", false)
  | 19 => ("WellNamesModel", "number0", "I", false)
  | 20 => ("WellNamesModel", "m0", "I", false)
  | 21 => ("WellNamesModel", "bitsOf", "[I", true)
  | 22 => ("WellNamesModel", "sizeOf", "[I", true)
  | 23 => ("WellNamesModel", "numbers", "[I", true)
  | _ => ("WellNamesModel", "moved", "[I", true)
def tyX8 : Nat → FieldType := fun k => match k with
  | 0 => .array .int
  | 1 => .array .int
  | 2 => .array .int
  | 3 => .array .int
  | 4 => .int
  | 5 => .int
  | 6 => .int
  | 7 => .int
  | 8 => .int
  | 9 => .int
  | 10 => .int
  | 11 => .int
  | 12 => .int
  | 13 => .boolean
  | 14 => .array .int
  | 15 => .array .int
  | 16 => .array .int
  | 17 => .int
  | 18 => .int
  | 19 => .int
  | 20 => .int
  | 21 => .array .int
  | 22 => .array .int
  | 23 => .array .int
  | _ => .array .int
abbrev wsX80 : List Cond := u_ws RX8 TX8 25
theorem nmX8 : ∀ a, a < 25 → ∀ b, b < 25 → a ≠ b → (TX8 a).2.1 ≠ (TX8 b).2.1 := by decide +kernel
theorem tyX8_ok : ∀ k, k < 25 → parseFieldDescriptor (TX8 k).2.2.1 = some (tyX8 k) := by decide +kernel
abbrev cX8_init : ByteArray := prog_10_method_1_code
def yX8_init : MethodName := ⟨RX8, "<init>", "()V"⟩
abbrev cX8_in : ByteArray := prog_10_method_2_code
def yX8_in : MethodName := ⟨RX8, "in", "(JJJ)Z"⟩
abbrev cX8_errs : ByteArray := prog_10_method_3_code
def yX8_errs : MethodName := ⟨RX8, "errs", "(I)I"⟩
abbrev cX8_held : ByteArray := prog_10_method_4_code
def yX8_held : MethodName := ⟨RX8, "held", "(III)I"⟩
abbrev cX8_laysAside : ByteArray := prog_10_method_5_code
def yX8_laysAside : MethodName := ⟨RX8, "laysAside", "()V"⟩
abbrev cX8_takesBack : ByteArray := prog_10_method_6_code
def yX8_takesBack : MethodName := ⟨RX8, "takesBack", "(I)I"⟩
abbrev cX8_isWell : ByteArray := prog_10_method_7_code
def yX8_isWell : MethodName := ⟨RX8, "isWell", "(I)Z"⟩
abbrev cX8_isPerson : ByteArray := prog_10_method_8_code
def yX8_isPerson : MethodName := ⟨RX8, "isPerson", "(I)Z"⟩
abbrev cX8_isSet : ByteArray := prog_10_method_9_code
def yX8_isSet : MethodName := ⟨RX8, "isSet", "(I)Z"⟩
abbrev cX8_isMind : ByteArray := prog_10_method_10_code
def yX8_isMind : MethodName := ⟨RX8, "isMind", "(I)Z"⟩
abbrev cX8_spot : ByteArray := prog_10_method_11_code
def yX8_spot : MethodName := ⟨RX8, "spot", "(II)I"⟩
abbrev cX8_its : ByteArray := prog_10_method_12_code
def yX8_its : MethodName := ⟨RX8, "its", "(II)I"⟩
abbrev cX8_becomes : ByteArray := prog_10_method_13_code
def yX8_becomes : MethodName := ⟨RX8, "becomes", "(II)I"⟩
abbrev cX8_roadOf : ByteArray := prog_10_method_14_code
def yX8_roadOf : MethodName := ⟨RX8, "roadOf", "(II)I"⟩
abbrev cX8_water : ByteArray := prog_10_method_15_code
def yX8_water : MethodName := ⟨RX8, "water", "(II)I"⟩
abbrev cX8_road : ByteArray := prog_10_method_16_code
def yX8_road : MethodName := ⟨RX8, "road", "(III)I"⟩
abbrev cX8_owe : ByteArray := prog_10_method_17_code
def yX8_owe : MethodName := ⟨RX8, "owe", "(III)I"⟩
abbrev cX8_owes : ByteArray := prog_10_method_18_code
def yX8_owes : MethodName := ⟨RX8, "owes", "(I)I"⟩
abbrev cX8_roadsOf : ByteArray := prog_10_method_19_code
def yX8_roadsOf : MethodName := ⟨RX8, "roadsOf", "(I)I"⟩
abbrev cX8_those : ByteArray := prog_10_method_20_code
def yX8_those : MethodName := ⟨RX8, "those", "(II)I"⟩
abbrev cX8_ofWell : ByteArray := prog_10_method_21_code
def yX8_ofWell : MethodName := ⟨RX8, "ofWell", "(II)I"⟩
abbrev cX8_rain : ByteArray := prog_10_method_22_code
def yX8_rain : MethodName := ⟨RX8, "rain", "(I)I"⟩
abbrev cX8_person : ByteArray := prog_10_method_23_code
def yX8_person : MethodName := ⟨RX8, "person", "(II)I"⟩
abbrev cX8_limitOf : ByteArray := prog_10_method_24_code
def yX8_limitOf : MethodName := ⟨RX8, "limitOf", "(I)I"⟩
abbrev cX8_needsOf : ByteArray := prog_10_method_25_code
def yX8_needsOf : MethodName := ⟨RX8, "needsOf", "(II)I"⟩
abbrev cX8_calledOf : ByteArray := prog_10_method_26_code
def yX8_calledOf : MethodName := ⟨RX8, "calledOf", "(II)I"⟩
abbrev cX8_ofPerson : ByteArray := prog_10_method_27_code
def yX8_ofPerson : MethodName := ⟨RX8, "ofPerson", "(II)I"⟩
abbrev cX8_become : ByteArray := prog_10_method_28_code
def yX8_become : MethodName := ⟨RX8, "become", "(II)I"⟩
abbrev cX8_isUnder : ByteArray := prog_10_method_29_code
def yX8_isUnder : MethodName := ⟨RX8, "isUnder", "(II)Z"⟩
abbrev cX8_as : ByteArray := prog_10_method_30_code
def yX8_as : MethodName := ⟨RX8, "as", "(II)I"⟩
abbrev cX8_feed : ByteArray := prog_10_method_31_code
def yX8_feed : MethodName := ⟨RX8, "feed", "(JI)I"⟩
abbrev cX8_here : ByteArray := prog_10_method_32_code
def yX8_here : MethodName := ⟨RX8, "here", "()I"⟩
abbrev cX8_takes : ByteArray := prog_10_method_33_code
def yX8_takes : MethodName := ⟨RX8, "takes", "(I)Z"⟩
abbrev cX8_name : ByteArray := prog_10_method_34_code
def yX8_name : MethodName := ⟨RX8, "name", "(I)I"⟩
abbrev cX8_isDigit : ByteArray := prog_10_method_35_code
def yX8_isDigit : MethodName := ⟨RX8, "isDigit", "(I)Z"⟩
abbrev cX8_single : ByteArray := prog_10_method_36_code
def yX8_single : MethodName := ⟨RX8, "single", "()I"⟩
abbrev cX8_product : ByteArray := prog_10_method_37_code
def yX8_product : MethodName := ⟨RX8, "product", "()I"⟩
abbrev cX8_sum : ByteArray := prog_10_method_38_code
def yX8_sum : MethodName := ⟨RX8, "sum", "()I"⟩
abbrev cX8_test : ByteArray := prog_10_method_39_code
def yX8_test : MethodName := ⟨RX8, "test", "()I"⟩
abbrev cX8_both : ByteArray := prog_10_method_40_code
def yX8_both : MethodName := ⟨RX8, "both", "()I"⟩
abbrev cX8_any : ByteArray := prog_10_method_41_code
def yX8_any : MethodName := ⟨RX8, "any", "()I"⟩
abbrev cX8_readsText : ByteArray := prog_10_method_42_code
def yX8_readsText : MethodName := ⟨RX8, "readsText", "(IIIIII)I"⟩
abbrev cX8_worked : ByteArray := prog_10_method_43_code
def yX8_worked : MethodName := ⟨RX8, "worked", "(IIII)I"⟩
abbrev cX8_text : ByteArray := prog_10_method_44_code
def yX8_text : MethodName := ⟨RX8, "text", "(I)I"⟩
abbrev cX8_needed : ByteArray := prog_10_method_45_code
def yX8_needed : MethodName := ⟨RX8, "needed", "(III)I"⟩
abbrev cX8_parched : ByteArray := prog_10_method_46_code
def yX8_parched : MethodName := ⟨RX8, "parched", "(III)I"⟩
abbrev cX8_law : ByteArray := prog_10_method_47_code
def yX8_law : MethodName := ⟨RX8, "law", "(IIII)I"⟩
abbrev cX8_drink : ByteArray := prog_10_method_48_code
def yX8_drink : MethodName := ⟨RX8, "drink", "(I)I"⟩
abbrev cX8_thirstBy : ByteArray := prog_10_method_49_code
def yX8_thirstBy : MethodName := ⟨RX8, "thirstBy", "(II)I"⟩
abbrev cX8_dies : ByteArray := prog_10_method_50_code
def yX8_dies : MethodName := ⟨RX8, "dies", "(I)V"⟩
abbrev cX8_go : ByteArray := prog_10_method_51_code
def yX8_go : MethodName := ⟨RX8, "go", "(II)I"⟩
abbrev cX8_pay : ByteArray := prog_10_method_52_code
def yX8_pay : MethodName := ⟨RX8, "pay", "(III)I"⟩
abbrev cX8_day : ByteArray := prog_10_method_53_code
def yX8_day : MethodName := ⟨RX8, "day", "()V"⟩
abbrev cX8_dead : ByteArray := prog_10_method_54_code
def yX8_dead : MethodName := ⟨RX8, "dead", "()I"⟩
abbrev cX8_wrongDays : ByteArray := prog_10_method_55_code
def yX8_wrongDays : MethodName := ⟨RX8, "wrongDays", "(II)I"⟩
abbrev cX8_days : ByteArray := prog_10_method_56_code
def yX8_days : MethodName := ⟨RX8, "days", "(I)I"⟩
abbrev cX8_draw : ByteArray := prog_10_method_57_code
def yX8_draw : MethodName := ⟨RX8, "draw", "()I"⟩
abbrev cX8_loose : ByteArray := prog_10_method_58_code
def yX8_loose : MethodName := ⟨RX8, "loose", "(I)I"⟩
abbrev cX8_same : ByteArray := prog_10_method_59_code
def yX8_same : MethodName := ⟨RX8, "same", "()I"⟩
abbrev cX8_ones : ByteArray := prog_10_method_60_code
def yX8_ones : MethodName := ⟨RX8, "ones", "(I)I"⟩
abbrev cX8_mayDrink : ByteArray := prog_10_method_61_code
def yX8_mayDrink : MethodName := ⟨RX8, "mayDrink", "(III)Z"⟩
abbrev cX8_lessens : ByteArray := prog_10_method_62_code
def yX8_lessens : MethodName := ⟨RX8, "lessens", "(III)Z"⟩
abbrev cX8_spreads : ByteArray := prog_10_method_63_code
def yX8_spreads : MethodName := ⟨RX8, "spreads", "(IIZ)V"⟩
abbrev cX8_leastAt : ByteArray := prog_10_method_64_code
def yX8_leastAt : MethodName := ⟨RX8, "leastAt", "(I)I"⟩
abbrev cX8_wrongWay : ByteArray := prog_10_method_65_code
def yX8_wrongWay : MethodName := ⟨RX8, "wrongWay", "(IZ)I"⟩
abbrev cX8_way : ByteArray := prog_10_method_66_code
def yX8_way : MethodName := ⟨RX8, "way", "(IIIZ)I"⟩
abbrev cX8_soonest : ByteArray := prog_10_method_67_code
def yX8_soonest : MethodName := ⟨RX8, "soonest", "(III)I"⟩
abbrev cX8_drinks : ByteArray := prog_10_method_68_code
def yX8_drinks : MethodName := ⟨RX8, "drinks", "(III)I"⟩
abbrev cX8_reached : ByteArray := prog_10_method_69_code
def yX8_reached : MethodName := ⟨RX8, "reached", "(II)I"⟩
abbrev cX8_reach : ByteArray := prog_10_method_70_code
def yX8_reach : MethodName := ⟨RX8, "reach", "(III)I"⟩
abbrev cX8_dry : ByteArray := prog_10_method_71_code
def yX8_dry : MethodName := ⟨RX8, "dry", "(II)I"⟩
abbrev cX8_net : ByteArray := prog_10_method_72_code
def yX8_net : MethodName := ⟨RX8, "net", "()I"⟩
abbrev cX8_shortest : ByteArray := prog_10_method_73_code
def yX8_shortest : MethodName := ⟨RX8, "shortest", "(II)I"⟩
abbrev cX8_isWalk : ByteArray := prog_10_method_74_code
def yX8_isWalk : MethodName := ⟨RX8, "isWalk", "(I)Z"⟩
abbrev cX8_walked : ByteArray := prog_10_method_75_code
def yX8_walked : MethodName := ⟨RX8, "walked", "(I)I"⟩
abbrev cX8_alive : ByteArray := prog_10_method_76_code
def yX8_alive : MethodName := ⟨RX8, "alive", "(III)I"⟩
abbrev cX8_grown : ByteArray := prog_10_method_77_code
def yX8_grown : MethodName := ⟨RX8, "grown", "(III)I"⟩
abbrev cX8_seed : ByteArray := prog_10_method_78_code
def yX8_seed : MethodName := ⟨RX8, "seed", "(I)I"⟩
abbrev cX8_ran : ByteArray := prog_10_method_79_code
def yX8_ran : MethodName := ⟨RX8, "ran", "(I)V"⟩
abbrev cX8_plainReads : ByteArray := prog_10_method_80_code
def yX8_plainReads : MethodName := ⟨RX8, "plainReads", "(I)I"⟩
abbrev cX8_readsBy : ByteArray := prog_10_method_81_code
def yX8_readsBy : MethodName := ⟨RX8, "readsBy", "(I)I"⟩
abbrev cX8_plainTakes : ByteArray := prog_10_method_82_code
def yX8_plainTakes : MethodName := ⟨RX8, "plainTakes", "(I)I"⟩
abbrev cX8_lawTakes : ByteArray := prog_10_method_83_code
def yX8_lawTakes : MethodName := ⟨RX8, "lawTakes", "(I)I"⟩
abbrev cX8_takesBy : ByteArray := prog_10_method_84_code
def yX8_takesBy : MethodName := ⟨RX8, "takesBy", "(I)I"⟩
abbrev cX8_plainGives : ByteArray := prog_10_method_85_code
def yX8_plainGives : MethodName := ⟨RX8, "plainGives", "(I)I"⟩
abbrev cX8_poemGives : ByteArray := prog_10_method_86_code
def yX8_poemGives : MethodName := ⟨RX8, "poemGives", "(I)I"⟩
abbrev cX8_givesBy : ByteArray := prog_10_method_87_code
def yX8_givesBy : MethodName := ⟨RX8, "givesBy", "(I)I"⟩
abbrev cX8_plainTells : ByteArray := prog_10_method_88_code
def yX8_plainTells : MethodName := ⟨RX8, "plainTells", "(I)I"⟩
abbrev cX8_tellsBy : ByteArray := prog_10_method_89_code
def yX8_tellsBy : MethodName := ⟨RX8, "tellsBy", "(I)I"⟩
abbrev cX8_voice : ByteArray := prog_10_method_90_code
def yX8_voice : MethodName := ⟨RX8, "voice", "(III)I"⟩
abbrev cX8_trace : ByteArray := prog_10_method_91_code
def yX8_trace : MethodName := ⟨RX8, "trace", "(I)I"⟩
abbrev cX8_isSheet : ByteArray := prog_10_method_92_code
def yX8_isSheet : MethodName := ⟨RX8, "isSheet", "(I)Z"⟩
abbrev cX8_sheet : ByteArray := prog_10_method_93_code
def yX8_sheet : MethodName := ⟨RX8, "sheet", "(III)I"⟩
abbrev cX8_wrong : ByteArray := prog_10_method_94_code
def yX8_wrong : MethodName := ⟨RX8, "wrong", "(I)I"⟩
abbrev cX8_put : ByteArray := prog_10_method_95_code
def yX8_put : MethodName := ⟨RX8, "put", "(III)I"⟩
abbrev cX8_move : ByteArray := prog_10_method_96_code
def yX8_move : MethodName := ⟨RX8, "move", "(IIIII)I"⟩
abbrev cX8_waters : ByteArray := prog_10_method_97_code
def yX8_waters : MethodName := ⟨RX8, "waters", "(I)I"⟩
abbrev cX8_judge : ByteArray := prog_10_method_98_code
def yX8_judge : MethodName := ⟨RX8, "judge", "(I)I"⟩
abbrev cX8_image : ByteArray := prog_10_method_99_code
def yX8_image : MethodName := ⟨RX8, "image", "()I"⟩
abbrev cX8_restore : ByteArray := prog_10_method_100_code
def yX8_restore : MethodName := ⟨RX8, "restore", "()I"⟩
abbrev cX8_tell : ByteArray := prog_10_method_101_code
def yX8_tell : MethodName := ⟨RX8, "tell", "(I)I"⟩
abbrev cX8_check : ByteArray := prog_10_method_102_code
def yX8_check : MethodName := ⟨RX8, "check", "()I"⟩
abbrev cX8_sum_ : ByteArray := prog_10_method_103_code
def yX8_sum_ : MethodName := ⟨RX8, "sum", "(II)I"⟩
abbrev cX8_count : ByteArray := prog_10_method_104_code
def yX8_count : MethodName := ⟨RX8, "count", "(I)I"⟩
abbrev cX8_told : ByteArray := prog_10_method_105_code
def yX8_told : MethodName := ⟨RX8, "told", "(I)I"⟩
def RJ6 : String := "java/lang/Integer"
abbrev cJ6_bitCount_0f7a4 : ByteArray := prog_11_method_49_code
def yJ6_bitCount_0f7a4 : MethodName := ⟨RJ6, "bitCount", "(I)I"⟩
def RJ9 : String := "java/lang/Math"
abbrev cJ9_max_7cf53 : ByteArray := prog_12_method_65_code
def yJ9_max_7cf53 : MethodName := ⟨RJ9, "max", "(II)I"⟩
abbrev cJ9_min_7cf53 : ByteArray := prog_12_method_69_code
def yJ9_min_7cf53 : MethodName := ⟨RJ9, "min", "(II)I"⟩
def RJ10 : String := "java/lang/System"
def RJ7 : String := "java/util/Arrays"
abbrev cJ7_fill_53178 : ByteArray := prog_14_method_103_code
def yJ7_fill_53178 : MethodName := ⟨RJ7, "fill", "([II)V"⟩
def RL : String := "WellNamesLaw"
abbrev cL_law : ByteArray := code
def yL_law : MethodName := ⟨RL, "law", "([I)Z"⟩
theorem dX0_init_0 : decode cX0_init 0 = .ok (.aload_n 0, 1) := by decide +kernel
theorem dX0_init_1 : decode cX0_init 1 = .ok (.invokespecial 3, 3) := by decide +kernel
theorem dX0_init_4 : decode cX0_init 4 = .ok (.aload_n 0, 1) := by decide +kernel
theorem dX0_init_5 : decode cX0_init 5 = .ok (.bipush 50, 2) := by decide +kernel
theorem dX0_init_7 : decode cX0_init 7 = .ok (.newarray .int, 2) := by decide +kernel
theorem dX0_init_9 : decode cX0_init 9 = .ok (.putfield 9, 3) := by decide +kernel
theorem dX0_init_12 : decode cX0_init 12 = .ok (.aload_n 0, 1) := by decide +kernel
theorem dX0_init_13 : decode cX0_init 13 = .ok (.bipush 50, 2) := by decide +kernel
theorem dX0_init_15 : decode cX0_init 15 = .ok (.newarray .int, 2) := by decide +kernel
theorem dX0_init_17 : decode cX0_init 17 = .ok (.putfield 15, 3) := by decide +kernel
theorem dX0_init_20 : decode cX0_init 20 = .ok (.aload_n 0, 1) := by decide +kernel
theorem dX0_init_21 : decode cX0_init 21 = .ok (.iload_n 1, 1) := by decide +kernel
theorem dX0_init_22 : decode cX0_init 22 = .ok (.putfield 18, 3) := by decide +kernel
theorem dX0_init_25 : decode cX0_init 25 = .ok (.return_, 1) := by decide +kernel
theorem dX0_take_0 : decode cX0_take 0 = .ok (.aload_n 0, 1) := by decide +kernel
theorem dX0_take_1 : decode cX0_take 1 = .ok (.iload_n 2, 1) := by decide +kernel
theorem dX0_take_2 : decode cX0_take 2 = .ok (.bipush 50, 2) := by decide +kernel
theorem dX0_take_4 : decode cX0_take 4 = .ok (.invokestatic 22, 3) := by decide +kernel
theorem dX0_take_7 : decode cX0_take 7 = .ok (.putfield 28, 3) := by decide +kernel
theorem dX0_take_10 : decode cX0_take 10 = .ok (.aload_n 1, 1) := by decide +kernel
theorem dX0_take_11 : decode cX0_take 11 = .ok (.iconst 0, 1) := by decide +kernel
theorem dX0_take_12 : decode cX0_take 12 = .ok (.aload_n 0, 1) := by decide +kernel
theorem dX0_take_13 : decode cX0_take 13 = .ok (.getfield 9, 3) := by decide +kernel
theorem dX0_take_16 : decode cX0_take 16 = .ok (.iconst 0, 1) := by decide +kernel
theorem dX0_take_17 : decode cX0_take 17 = .ok (.aload_n 0, 1) := by decide +kernel
theorem dX0_take_18 : decode cX0_take 18 = .ok (.getfield 28, 3) := by decide +kernel
theorem dX0_take_21 : decode cX0_take 21 = .ok (.invokestatic 31, 3) := by decide +kernel
theorem dX0_take_24 : decode cX0_take 24 = .ok (.return_, 1) := by decide +kernel
theorem dX0_gives_0 : decode cX0_gives 0 = .ok (.aload_n 0, 1) := by decide +kernel
theorem dX0_gives_1 : decode cX0_gives 1 = .ok (.getfield 28, 3) := by decide +kernel
theorem dX0_gives_4 : decode cX0_gives 4 = .ok (.ifCond .ne 12, 3) := by decide +kernel
theorem dX0_gives_7 : decode cX0_gives 7 = .ok (.aload_n 0, 1) := by decide +kernel
theorem dX0_gives_8 : decode cX0_gives 8 = .ok (.iload_n 1, 1) := by decide +kernel
theorem dX0_gives_9 : decode cX0_gives 9 = .ok (.iload_n 2, 1) := by decide +kernel
theorem dX0_gives_10 : decode cX0_gives 10 = .ok (.invokevirtual 37, 3) := by decide +kernel
theorem dX0_gives_13 : decode cX0_gives 13 = .ok (.goto 10, 3) := by decide +kernel
theorem dX0_gives_16 : decode cX0_gives 16 = .ok (.aload_n 0, 1) := by decide +kernel
theorem dX0_gives_17 : decode cX0_gives 17 = .ok (.iload_n 1, 1) := by decide +kernel
theorem dX0_gives_18 : decode cX0_gives 18 = .ok (.iload_n 2, 1) := by decide +kernel
theorem dX0_gives_19 : decode cX0_gives 19 = .ok (.iload_n 3, 1) := by decide +kernel
theorem dX0_gives_20 : decode cX0_gives 20 = .ok (.invokevirtual 40, 3) := by decide +kernel
theorem dX0_gives_23 : decode cX0_gives 23 = .ok (.istore 4, 2) := by decide +kernel
theorem dX0_gives_25 : decode cX0_gives 25 = .ok (.iconst 0, 1) := by decide +kernel
theorem dX0_gives_26 : decode cX0_gives 26 = .ok (.bipush 99, 2) := by decide +kernel
theorem dX0_gives_28 : decode cX0_gives 28 = .ok (.iload 4, 2) := by decide +kernel
theorem dX0_gives_30 : decode cX0_gives 30 = .ok (.invokestatic 22, 3) := by decide +kernel
theorem dX0_gives_33 : decode cX0_gives 33 = .ok (.invokestatic 44, 3) := by decide +kernel
theorem dX0_gives_36 : decode cX0_gives 36 = .ok (.ireturn, 1) := by decide +kernel
theorem dX0_withoutText_0 : decode cX0_withoutText 0 = .ok (.aload_n 0, 1) := by decide +kernel
theorem dX0_withoutText_1 : decode cX0_withoutText 1 = .ok (.getfield 18, 3) := by decide +kernel
theorem dX0_withoutText_4 : decode cX0_withoutText 4 = .ok (.ifCond .ne 11, 3) := by decide +kernel
theorem dX0_withoutText_7 : decode cX0_withoutText 7 = .ok (.iconst 1, 1) := by decide +kernel
theorem dX0_withoutText_8 : decode cX0_withoutText 8 = .ok (.iload_n 2, 1) := by decide +kernel
theorem dX0_withoutText_9 : decode cX0_withoutText 9 = .ok (.iconst 4, 1) := by decide +kernel
theorem dX0_withoutText_10 : decode cX0_withoutText 10 = .ok (.idiv, 1) := by decide +kernel
theorem dX0_withoutText_11 : decode cX0_withoutText 11 = .ok (.iadd, 1) := by decide +kernel
theorem dX0_withoutText_12 : decode cX0_withoutText 12 = .ok (.goto 4, 3) := by decide +kernel
theorem dX0_withoutText_15 : decode cX0_withoutText 15 = .ok (.iload_n 1, 1) := by decide +kernel
theorem dX0_withoutText_16 : decode cX0_withoutText 16 = .ok (.ireturn, 1) := by decide +kernel
theorem dX0_worked_0 : decode cX0_worked 0 = .ok (.iconst 0, 1) := by decide +kernel
theorem dX0_worked_1 : decode cX0_worked 1 = .ok (.istore 4, 2) := by decide +kernel
theorem dX0_worked_3 : decode cX0_worked 3 = .ok (.iconst 0, 1) := by decide +kernel
theorem dX0_worked_4 : decode cX0_worked 4 = .ok (.istore 5, 2) := by decide +kernel
theorem dX0_worked_6 : decode cX0_worked 6 = .ok (.iload 5, 2) := by decide +kernel
theorem dX0_worked_8 : decode cX0_worked 8 = .ok (.aload_n 0, 1) := by decide +kernel
theorem dX0_worked_9 : decode cX0_worked 9 = .ok (.getfield 28, 3) := by decide +kernel
theorem dX0_worked_12 : decode cX0_worked 12 = .ok (.if_icmp .ge 132, 3) := by decide +kernel
theorem dX0_worked_15 : decode cX0_worked 15 = .ok (.aload_n 0, 1) := by decide +kernel
theorem dX0_worked_16 : decode cX0_worked 16 = .ok (.getfield 9, 3) := by decide +kernel
theorem dX0_worked_19 : decode cX0_worked 19 = .ok (.iload 5, 2) := by decide +kernel
theorem dX0_worked_21 : decode cX0_worked 21 = .ok (.iaload, 1) := by decide +kernel
theorem dX0_worked_22 : decode cX0_worked 22 = .ok (.istore 6, 2) := by decide +kernel
theorem dX0_worked_24 : decode cX0_worked 24 = .ok (.iload 6, 2) := by decide +kernel
theorem dX0_worked_26 : decode cX0_worked 26 = .ok (.ifCond .lt 31, 3) := by decide +kernel
theorem dX0_worked_29 : decode cX0_worked 29 = .ok (.iload 4, 2) := by decide +kernel
theorem dX0_worked_31 : decode cX0_worked 31 = .ok (.bipush 50, 2) := by decide +kernel
theorem dX0_worked_33 : decode cX0_worked 33 = .ok (.if_icmp .ge 24, 3) := by decide +kernel
theorem dX0_worked_36 : decode cX0_worked 36 = .ok (.aload_n 0, 1) := by decide +kernel
theorem dX0_worked_37 : decode cX0_worked 37 = .ok (.getfield 15, 3) := by decide +kernel
theorem dX0_worked_40 : decode cX0_worked 40 = .ok (.iload 4, 2) := by decide +kernel
theorem dX0_worked_42 : decode cX0_worked 42 = .ok (.iload 6, 2) := by decide +kernel
theorem dX0_worked_44 : decode cX0_worked 44 = .ok (.iload_n 1, 1) := by decide +kernel
theorem dX0_worked_45 : decode cX0_worked 45 = .ok (.iload_n 2, 1) := by decide +kernel
theorem dX0_worked_46 : decode cX0_worked 46 = .ok (.iload_n 3, 1) := by decide +kernel
theorem dX0_worked_47 : decode cX0_worked 47 = .ok (.invokestatic 47, 3) := by decide +kernel
theorem dX0_worked_50 : decode cX0_worked 50 = .ok (.iastore, 1) := by decide +kernel
theorem dX0_worked_51 : decode cX0_worked 51 = .ok (.iinc 4 1, 3) := by decide +kernel
theorem dX0_worked_54 : decode cX0_worked 54 = .ok (.goto 84, 3) := by decide +kernel
theorem dX0_worked_57 : decode cX0_worked 57 = .ok (.iload 6, 2) := by decide +kernel
theorem dX0_worked_59 : decode cX0_worked 59 = .ok (.bipush (-33), 2) := by decide +kernel
theorem dX0_worked_61 : decode cX0_worked 61 = .ok (.if_icmp .ne 37, 3) := by decide +kernel
theorem dX0_worked_64 : decode cX0_worked 64 = .ok (.iload 4, 2) := by decide +kernel
theorem dX0_worked_66 : decode cX0_worked 66 = .ok (.ifCond .le 32, 3) := by decide +kernel
theorem dX0_worked_69 : decode cX0_worked 69 = .ok (.aload_n 0, 1) := by decide +kernel
theorem dX0_worked_70 : decode cX0_worked 70 = .ok (.getfield 15, 3) := by decide +kernel
theorem dX0_worked_73 : decode cX0_worked 73 = .ok (.iload 4, 2) := by decide +kernel
theorem dX0_worked_75 : decode cX0_worked 75 = .ok (.iconst 1, 1) := by decide +kernel
theorem dX0_worked_76 : decode cX0_worked 76 = .ok (.isub, 1) := by decide +kernel
theorem dX0_worked_77 : decode cX0_worked 77 = .ok (.aload_n 0, 1) := by decide +kernel
theorem dX0_worked_78 : decode cX0_worked 78 = .ok (.getfield 15, 3) := by decide +kernel
theorem dX0_worked_81 : decode cX0_worked 81 = .ok (.iload 4, 2) := by decide +kernel
theorem dX0_worked_83 : decode cX0_worked 83 = .ok (.iconst 1, 1) := by decide +kernel
theorem dX0_worked_84 : decode cX0_worked 84 = .ok (.isub, 1) := by decide +kernel
theorem dX0_worked_85 : decode cX0_worked 85 = .ok (.iaload, 1) := by decide +kernel
theorem dX0_worked_86 : decode cX0_worked 86 = .ok (.ifCond .ne 7, 3) := by decide +kernel
theorem dX0_worked_89 : decode cX0_worked 89 = .ok (.iconst 1, 1) := by decide +kernel
theorem dX0_worked_90 : decode cX0_worked 90 = .ok (.goto 4, 3) := by decide +kernel
theorem dX0_worked_93 : decode cX0_worked 93 = .ok (.iconst 0, 1) := by decide +kernel
theorem dX0_worked_94 : decode cX0_worked 94 = .ok (.iastore, 1) := by decide +kernel
theorem dX0_worked_95 : decode cX0_worked 95 = .ok (.goto 43, 3) := by decide +kernel
theorem dX0_worked_98 : decode cX0_worked 98 = .ok (.iload 4, 2) := by decide +kernel
theorem dX0_worked_100 : decode cX0_worked 100 = .ok (.iconst 1, 1) := by decide +kernel
theorem dX0_worked_101 : decode cX0_worked 101 = .ok (.if_icmp .le 37, 3) := by decide +kernel
theorem dX0_worked_104 : decode cX0_worked 104 = .ok (.iinc 4 (-1), 3) := by decide +kernel
theorem dX0_worked_107 : decode cX0_worked 107 = .ok (.aload_n 0, 1) := by decide +kernel
theorem dX0_worked_108 : decode cX0_worked 108 = .ok (.getfield 15, 3) := by decide +kernel
theorem dX0_worked_111 : decode cX0_worked 111 = .ok (.iload 4, 2) := by decide +kernel
theorem dX0_worked_113 : decode cX0_worked 113 = .ok (.iconst 1, 1) := by decide +kernel
theorem dX0_worked_114 : decode cX0_worked 114 = .ok (.isub, 1) := by decide +kernel
theorem dX0_worked_115 : decode cX0_worked 115 = .ok (.iload 6, 2) := by decide +kernel
theorem dX0_worked_117 : decode cX0_worked 117 = .ok (.ineg, 1) := by decide +kernel
theorem dX0_worked_118 : decode cX0_worked 118 = .ok (.aload_n 0, 1) := by decide +kernel
theorem dX0_worked_119 : decode cX0_worked 119 = .ok (.getfield 15, 3) := by decide +kernel
theorem dX0_worked_122 : decode cX0_worked 122 = .ok (.iload 4, 2) := by decide +kernel
theorem dX0_worked_124 : decode cX0_worked 124 = .ok (.iconst 1, 1) := by decide +kernel
theorem dX0_worked_125 : decode cX0_worked 125 = .ok (.isub, 1) := by decide +kernel
theorem dX0_worked_126 : decode cX0_worked 126 = .ok (.iaload, 1) := by decide +kernel
theorem dX0_worked_127 : decode cX0_worked 127 = .ok (.aload_n 0, 1) := by decide +kernel
theorem dX0_worked_128 : decode cX0_worked 128 = .ok (.getfield 15, 3) := by decide +kernel
theorem dX0_worked_131 : decode cX0_worked 131 = .ok (.iload 4, 2) := by decide +kernel
theorem dX0_worked_133 : decode cX0_worked 133 = .ok (.iaload, 1) := by decide +kernel
theorem dX0_worked_134 : decode cX0_worked 134 = .ok (.invokestatic 51, 3) := by decide +kernel
theorem dX0_worked_137 : decode cX0_worked 137 = .ok (.iastore, 1) := by decide +kernel
theorem dX0_worked_138 : decode cX0_worked 138 = .ok (.iinc 5 1, 3) := by decide +kernel
theorem dX0_worked_141 : decode cX0_worked 141 = .ok (.goto (-135), 3) := by decide +kernel
theorem dX0_worked_144 : decode cX0_worked 144 = .ok (.aload_n 0, 1) := by decide +kernel
theorem dX0_worked_145 : decode cX0_worked 145 = .ok (.getfield 15, 3) := by decide +kernel
theorem dX0_worked_148 : decode cX0_worked 148 = .ok (.iconst 0, 1) := by decide +kernel
theorem dX0_worked_149 : decode cX0_worked 149 = .ok (.iaload, 1) := by decide +kernel
theorem dX0_worked_150 : decode cX0_worked 150 = .ok (.ireturn, 1) := by decide +kernel
theorem dX0_plain_0 : decode cX0_plain 0 = .ok (.iload_n 0, 1) := by decide +kernel
theorem dX0_plain_1 : decode cX0_plain 1 = .ok (.sipush 10000, 3) := by decide +kernel
theorem dX0_plain_4 : decode cX0_plain 4 = .ok (.isub, 1) := by decide +kernel
theorem dX0_plain_5 : decode cX0_plain 5 = .ok (.tableswitch 33 0 2 #[27, 29, 31], 27) := by decide +kernel
theorem dX0_plain_32 : decode cX0_plain 32 = .ok (.iload_n 1, 1) := by decide +kernel
theorem dX0_plain_33 : decode cX0_plain 33 = .ok (.ireturn, 1) := by decide +kernel
theorem dX0_plain_34 : decode cX0_plain 34 = .ok (.iload_n 2, 1) := by decide +kernel
theorem dX0_plain_35 : decode cX0_plain 35 = .ok (.ireturn, 1) := by decide +kernel
theorem dX0_plain_36 : decode cX0_plain 36 = .ok (.iload_n 3, 1) := by decide +kernel
theorem dX0_plain_37 : decode cX0_plain 37 = .ok (.ireturn, 1) := by decide +kernel
theorem dX0_plain_38 : decode cX0_plain 38 = .ok (.iload_n 0, 1) := by decide +kernel
theorem dX0_plain_39 : decode cX0_plain 39 = .ok (.ireturn, 1) := by decide +kernel
theorem dX0_joined_0 : decode cX0_joined 0 = .ok (.iload_n 0, 1) := by decide +kernel
theorem dX0_joined_1 : decode cX0_joined 1 = .ok (.lookupswitch 168 #[(38, 97), (42, 152), (43, 144), (45, 148), (47, 156), (60, 111), (61, 122), (62, 133), (124, 83)], 83) := by decide +kernel
theorem dX0_joined_84 : decode cX0_joined 84 = .ok (.iload_n 1, 1) := by decide +kernel
theorem dX0_joined_85 : decode cX0_joined 85 = .ok (.ifCond .ne 7, 3) := by decide +kernel
theorem dX0_joined_88 : decode cX0_joined 88 = .ok (.iload_n 2, 1) := by decide +kernel
theorem dX0_joined_89 : decode cX0_joined 89 = .ok (.ifCond .eq 7, 3) := by decide +kernel
theorem dX0_joined_92 : decode cX0_joined 92 = .ok (.iconst 1, 1) := by decide +kernel
theorem dX0_joined_93 : decode cX0_joined 93 = .ok (.goto 4, 3) := by decide +kernel
theorem dX0_joined_96 : decode cX0_joined 96 = .ok (.iconst 0, 1) := by decide +kernel
theorem dX0_joined_97 : decode cX0_joined 97 = .ok (.ireturn, 1) := by decide +kernel
theorem dX0_joined_98 : decode cX0_joined 98 = .ok (.iload_n 1, 1) := by decide +kernel
theorem dX0_joined_99 : decode cX0_joined 99 = .ok (.ifCond .eq 11, 3) := by decide +kernel
theorem dX0_joined_102 : decode cX0_joined 102 = .ok (.iload_n 2, 1) := by decide +kernel
theorem dX0_joined_103 : decode cX0_joined 103 = .ok (.ifCond .eq 7, 3) := by decide +kernel
theorem dX0_joined_106 : decode cX0_joined 106 = .ok (.iconst 1, 1) := by decide +kernel
theorem dX0_joined_107 : decode cX0_joined 107 = .ok (.goto 4, 3) := by decide +kernel
theorem dX0_joined_110 : decode cX0_joined 110 = .ok (.iconst 0, 1) := by decide +kernel
theorem dX0_joined_111 : decode cX0_joined 111 = .ok (.ireturn, 1) := by decide +kernel
theorem dX0_joined_112 : decode cX0_joined 112 = .ok (.iload_n 1, 1) := by decide +kernel
theorem dX0_joined_113 : decode cX0_joined 113 = .ok (.iload_n 2, 1) := by decide +kernel
theorem dX0_joined_114 : decode cX0_joined 114 = .ok (.if_icmp .ge 7, 3) := by decide +kernel
theorem dX0_joined_117 : decode cX0_joined 117 = .ok (.iconst 1, 1) := by decide +kernel
theorem dX0_joined_118 : decode cX0_joined 118 = .ok (.goto 4, 3) := by decide +kernel
theorem dX0_joined_121 : decode cX0_joined 121 = .ok (.iconst 0, 1) := by decide +kernel
theorem dX0_joined_122 : decode cX0_joined 122 = .ok (.ireturn, 1) := by decide +kernel
theorem dX0_joined_123 : decode cX0_joined 123 = .ok (.iload_n 1, 1) := by decide +kernel
theorem dX0_joined_124 : decode cX0_joined 124 = .ok (.iload_n 2, 1) := by decide +kernel
theorem dX0_joined_125 : decode cX0_joined 125 = .ok (.if_icmp .ne 7, 3) := by decide +kernel
theorem dX0_joined_128 : decode cX0_joined 128 = .ok (.iconst 1, 1) := by decide +kernel
theorem dX0_joined_129 : decode cX0_joined 129 = .ok (.goto 4, 3) := by decide +kernel
theorem dX0_joined_132 : decode cX0_joined 132 = .ok (.iconst 0, 1) := by decide +kernel
theorem dX0_joined_133 : decode cX0_joined 133 = .ok (.ireturn, 1) := by decide +kernel
theorem dX0_joined_134 : decode cX0_joined 134 = .ok (.iload_n 1, 1) := by decide +kernel
theorem dX0_joined_135 : decode cX0_joined 135 = .ok (.iload_n 2, 1) := by decide +kernel
theorem dX0_joined_136 : decode cX0_joined 136 = .ok (.if_icmp .le 7, 3) := by decide +kernel
theorem dX0_joined_139 : decode cX0_joined 139 = .ok (.iconst 1, 1) := by decide +kernel
theorem dX0_joined_140 : decode cX0_joined 140 = .ok (.goto 4, 3) := by decide +kernel
theorem dX0_joined_143 : decode cX0_joined 143 = .ok (.iconst 0, 1) := by decide +kernel
theorem dX0_joined_144 : decode cX0_joined 144 = .ok (.ireturn, 1) := by decide +kernel
theorem dX0_joined_145 : decode cX0_joined 145 = .ok (.iload_n 1, 1) := by decide +kernel
theorem dX0_joined_146 : decode cX0_joined 146 = .ok (.iload_n 2, 1) := by decide +kernel
theorem dX0_joined_147 : decode cX0_joined 147 = .ok (.iadd, 1) := by decide +kernel
theorem dX0_joined_148 : decode cX0_joined 148 = .ok (.ireturn, 1) := by decide +kernel
theorem dX0_joined_149 : decode cX0_joined 149 = .ok (.iload_n 1, 1) := by decide +kernel
theorem dX0_joined_150 : decode cX0_joined 150 = .ok (.iload_n 2, 1) := by decide +kernel
theorem dX0_joined_151 : decode cX0_joined 151 = .ok (.isub, 1) := by decide +kernel
theorem dX0_joined_152 : decode cX0_joined 152 = .ok (.ireturn, 1) := by decide +kernel
theorem dX0_joined_153 : decode cX0_joined 153 = .ok (.iload_n 1, 1) := by decide +kernel
theorem dX0_joined_154 : decode cX0_joined 154 = .ok (.iload_n 2, 1) := by decide +kernel
theorem dX0_joined_155 : decode cX0_joined 155 = .ok (.imul, 1) := by decide +kernel
theorem dX0_joined_156 : decode cX0_joined 156 = .ok (.ireturn, 1) := by decide +kernel
theorem dX0_joined_157 : decode cX0_joined 157 = .ok (.iload_n 2, 1) := by decide +kernel
theorem dX0_joined_158 : decode cX0_joined 158 = .ok (.ifCond .ne 7, 3) := by decide +kernel
theorem dX0_joined_161 : decode cX0_joined 161 = .ok (.iconst 0, 1) := by decide +kernel
theorem dX0_joined_162 : decode cX0_joined 162 = .ok (.goto 6, 3) := by decide +kernel
theorem dX0_joined_165 : decode cX0_joined 165 = .ok (.iload_n 1, 1) := by decide +kernel
theorem dX0_joined_166 : decode cX0_joined 166 = .ok (.iload_n 2, 1) := by decide +kernel
theorem dX0_joined_167 : decode cX0_joined 167 = .ok (.idiv, 1) := by decide +kernel
theorem dX0_joined_168 : decode cX0_joined 168 = .ok (.ireturn, 1) := by decide +kernel
theorem dX0_joined_169 : decode cX0_joined 169 = .ok (.iload_n 2, 1) := by decide +kernel
theorem dX0_joined_170 : decode cX0_joined 170 = .ok (.ifCond .ne 7, 3) := by decide +kernel
theorem dX0_joined_173 : decode cX0_joined 173 = .ok (.iconst 0, 1) := by decide +kernel
theorem dX0_joined_174 : decode cX0_joined 174 = .ok (.goto 6, 3) := by decide +kernel
theorem dX0_joined_177 : decode cX0_joined 177 = .ok (.iload_n 1, 1) := by decide +kernel
theorem dX0_joined_178 : decode cX0_joined 178 = .ok (.iload_n 2, 1) := by decide +kernel
theorem dX0_joined_179 : decode cX0_joined 179 = .ok (.irem, 1) := by decide +kernel
theorem dX0_joined_180 : decode cX0_joined 180 = .ok (.ireturn, 1) := by decide +kernel
theorem dX1_init_0 : decode cX1_init 0 = .ok (.aload_n 0, 1) := by decide +kernel
theorem dX1_init_1 : decode cX1_init 1 = .ok (.invokespecial 3, 3) := by decide +kernel
theorem dX1_init_4 : decode cX1_init 4 = .ok (.aload_n 0, 1) := by decide +kernel
theorem dX1_init_5 : decode cX1_init 5 = .ok (.iconst (-1), 1) := by decide +kernel
theorem dX1_init_6 : decode cX1_init 6 = .ok (.putfield 9, 3) := by decide +kernel
theorem dX1_init_9 : decode cX1_init 9 = .ok (.return_, 1) := by decide +kernel
theorem dX1_begin_0 : decode cX1_begin 0 = .ok (.aload_n 0, 1) := by decide +kernel
theorem dX1_begin_1 : decode cX1_begin 1 = .ok (.iload_n 1, 1) := by decide +kernel
theorem dX1_begin_2 : decode cX1_begin 2 = .ok (.putfield 15, 3) := by decide +kernel
theorem dX1_begin_5 : decode cX1_begin 5 = .ok (.aload_n 0, 1) := by decide +kernel
theorem dX1_begin_6 : decode cX1_begin 6 = .ok (.iload_n 2, 1) := by decide +kernel
theorem dX1_begin_7 : decode cX1_begin 7 = .ok (.putfield 18, 3) := by decide +kernel
theorem dX1_begin_10 : decode cX1_begin 10 = .ok (.aload_n 0, 1) := by decide +kernel
theorem dX1_begin_11 : decode cX1_begin 11 = .ok (.iload_n 3, 1) := by decide +kernel
theorem dX1_begin_12 : decode cX1_begin 12 = .ok (.putfield 21, 3) := by decide +kernel
theorem dX1_begin_15 : decode cX1_begin 15 = .ok (.aload_n 0, 1) := by decide +kernel
theorem dX1_begin_16 : decode cX1_begin 16 = .ok (.iconst (-1), 1) := by decide +kernel
theorem dX1_begin_17 : decode cX1_begin 17 = .ok (.putfield 9, 3) := by decide +kernel
theorem dX1_begin_20 : decode cX1_begin 20 = .ok (.aload_n 0, 1) := by decide +kernel
theorem dX1_begin_21 : decode cX1_begin 21 = .ok (.iconst 0, 1) := by decide +kernel
theorem dX1_begin_22 : decode cX1_begin 22 = .ok (.putfield 24, 3) := by decide +kernel
theorem dX1_begin_25 : decode cX1_begin 25 = .ok (.aload_n 0, 1) := by decide +kernel
theorem dX1_begin_26 : decode cX1_begin 26 = .ok (.iconst 0, 1) := by decide +kernel
theorem dX1_begin_27 : decode cX1_begin 27 = .ok (.putfield 27, 3) := by decide +kernel
theorem dX1_begin_30 : decode cX1_begin 30 = .ok (.return_, 1) := by decide +kernel
theorem dX1_copyFrom_0 : decode cX1_copyFrom 0 = .ok (.aload_n 0, 1) := by decide +kernel
theorem dX1_copyFrom_1 : decode cX1_copyFrom 1 = .ok (.aload_n 1, 1) := by decide +kernel
theorem dX1_copyFrom_2 : decode cX1_copyFrom 2 = .ok (.getfield 15, 3) := by decide +kernel
theorem dX1_copyFrom_5 : decode cX1_copyFrom 5 = .ok (.putfield 15, 3) := by decide +kernel
theorem dX1_copyFrom_8 : decode cX1_copyFrom 8 = .ok (.aload_n 0, 1) := by decide +kernel
theorem dX1_copyFrom_9 : decode cX1_copyFrom 9 = .ok (.aload_n 1, 1) := by decide +kernel
theorem dX1_copyFrom_10 : decode cX1_copyFrom 10 = .ok (.getfield 18, 3) := by decide +kernel
theorem dX1_copyFrom_13 : decode cX1_copyFrom 13 = .ok (.putfield 18, 3) := by decide +kernel
theorem dX1_copyFrom_16 : decode cX1_copyFrom 16 = .ok (.aload_n 0, 1) := by decide +kernel
theorem dX1_copyFrom_17 : decode cX1_copyFrom 17 = .ok (.aload_n 1, 1) := by decide +kernel
theorem dX1_copyFrom_18 : decode cX1_copyFrom 18 = .ok (.getfield 21, 3) := by decide +kernel
theorem dX1_copyFrom_21 : decode cX1_copyFrom 21 = .ok (.putfield 21, 3) := by decide +kernel
theorem dX1_copyFrom_24 : decode cX1_copyFrom 24 = .ok (.aload_n 0, 1) := by decide +kernel
theorem dX1_copyFrom_25 : decode cX1_copyFrom 25 = .ok (.aload_n 1, 1) := by decide +kernel
theorem dX1_copyFrom_26 : decode cX1_copyFrom 26 = .ok (.getfield 9, 3) := by decide +kernel
theorem dX1_copyFrom_29 : decode cX1_copyFrom 29 = .ok (.putfield 9, 3) := by decide +kernel
theorem dX1_copyFrom_32 : decode cX1_copyFrom 32 = .ok (.aload_n 0, 1) := by decide +kernel
theorem dX1_copyFrom_33 : decode cX1_copyFrom 33 = .ok (.aload_n 1, 1) := by decide +kernel
theorem dX1_copyFrom_34 : decode cX1_copyFrom 34 = .ok (.getfield 24, 3) := by decide +kernel
theorem dX1_copyFrom_37 : decode cX1_copyFrom 37 = .ok (.putfield 24, 3) := by decide +kernel
theorem dX1_copyFrom_40 : decode cX1_copyFrom 40 = .ok (.aload_n 0, 1) := by decide +kernel
theorem dX1_copyFrom_41 : decode cX1_copyFrom 41 = .ok (.aload_n 1, 1) := by decide +kernel
theorem dX1_copyFrom_42 : decode cX1_copyFrom 42 = .ok (.getfield 27, 3) := by decide +kernel
theorem dX1_copyFrom_45 : decode cX1_copyFrom 45 = .ok (.putfield 27, 3) := by decide +kernel
theorem dX1_copyFrom_48 : decode cX1_copyFrom 48 = .ok (.return_, 1) := by decide +kernel
theorem dX1_isOf_0 : decode cX1_isOf 0 = .ok (.aload_n 0, 1) := by decide +kernel
theorem dX1_isOf_1 : decode cX1_isOf 1 = .ok (.getfield 15, 3) := by decide +kernel
theorem dX1_isOf_4 : decode cX1_isOf 4 = .ok (.istore_n 2, 1) := by decide +kernel
theorem dX1_isOf_5 : decode cX1_isOf 5 = .ok (.iconst 0, 1) := by decide +kernel
theorem dX1_isOf_6 : decode cX1_isOf 6 = .ok (.istore_n 3, 1) := by decide +kernel
theorem dX1_isOf_7 : decode cX1_isOf 7 = .ok (.iload_n 3, 1) := by decide +kernel
theorem dX1_isOf_8 : decode cX1_isOf 8 = .ok (.bipush 7, 2) := by decide +kernel
theorem dX1_isOf_10 : decode cX1_isOf 10 = .ok (.if_icmp .ge 32, 3) := by decide +kernel
theorem dX1_isOf_13 : decode cX1_isOf 13 = .ok (.iload_n 2, 1) := by decide +kernel
theorem dX1_isOf_14 : decode cX1_isOf 14 = .ok (.iconst 0, 1) := by decide +kernel
theorem dX1_isOf_15 : decode cX1_isOf 15 = .ok (.bipush 6, 2) := by decide +kernel
theorem dX1_isOf_17 : decode cX1_isOf 17 = .ok (.invokestatic 31, 3) := by decide +kernel
theorem dX1_isOf_20 : decode cX1_isOf 20 = .ok (.ifCond .eq 22, 3) := by decide +kernel
theorem dX1_isOf_23 : decode cX1_isOf 23 = .ok (.iload_n 2, 1) := by decide +kernel
theorem dX1_isOf_24 : decode cX1_isOf 24 = .ok (.iload_n 1, 1) := by decide +kernel
theorem dX1_isOf_25 : decode cX1_isOf 25 = .ok (.if_icmp .ne 5, 3) := by decide +kernel
theorem dX1_isOf_28 : decode cX1_isOf 28 = .ok (.iconst 1, 1) := by decide +kernel
theorem dX1_isOf_29 : decode cX1_isOf 29 = .ok (.ireturn, 1) := by decide +kernel
theorem dX1_isOf_30 : decode cX1_isOf 30 = .ok (.getstatic 35, 3) := by decide +kernel
theorem dX1_isOf_33 : decode cX1_isOf 33 = .ok (.iload_n 2, 1) := by decide +kernel
theorem dX1_isOf_34 : decode cX1_isOf 34 = .ok (.iaload, 1) := by decide +kernel
theorem dX1_isOf_35 : decode cX1_isOf 35 = .ok (.istore_n 2, 1) := by decide +kernel
theorem dX1_isOf_36 : decode cX1_isOf 36 = .ok (.iinc 3 1, 3) := by decide +kernel
theorem dX1_isOf_39 : decode cX1_isOf 39 = .ok (.goto (-32), 3) := by decide +kernel
theorem dX1_isOf_42 : decode cX1_isOf 42 = .ok (.iconst 0, 1) := by decide +kernel
theorem dX1_isOf_43 : decode cX1_isOf 43 = .ok (.ireturn, 1) := by decide +kernel
theorem dX1_limit_0 : decode cX1_limit 0 = .ok (.aload_n 0, 1) := by decide +kernel
theorem dX1_limit_1 : decode cX1_limit 1 = .ok (.getfield 15, 3) := by decide +kernel
theorem dX1_limit_4 : decode cX1_limit 4 = .ok (.tableswitch 64 1 6 #[40, 48, 61, 40, 51, 61], 40) := by decide +kernel
theorem dX1_limit_44 : decode cX1_limit 44 = .ok (.bipush 12, 2) := by decide +kernel
theorem dX1_limit_46 : decode cX1_limit 46 = .ok (.aload_n 0, 1) := by decide +kernel
theorem dX1_limit_47 : decode cX1_limit 47 = .ok (.getfield 18, 3) := by decide +kernel
theorem dX1_limit_50 : decode cX1_limit 50 = .ok (.iadd, 1) := by decide +kernel
theorem dX1_limit_51 : decode cX1_limit 51 = .ok (.ireturn, 1) := by decide +kernel
theorem dX1_limit_52 : decode cX1_limit 52 = .ok (.bipush 8, 2) := by decide +kernel
theorem dX1_limit_54 : decode cX1_limit 54 = .ok (.ireturn, 1) := by decide +kernel
theorem dX1_limit_55 : decode cX1_limit 55 = .ok (.bipush 8, 2) := by decide +kernel
theorem dX1_limit_57 : decode cX1_limit 57 = .ok (.aload_n 0, 1) := by decide +kernel
theorem dX1_limit_58 : decode cX1_limit 58 = .ok (.getfield 18, 3) := by decide +kernel
theorem dX1_limit_61 : decode cX1_limit 61 = .ok (.iconst 2, 1) := by decide +kernel
theorem dX1_limit_62 : decode cX1_limit 62 = .ok (.idiv, 1) := by decide +kernel
theorem dX1_limit_63 : decode cX1_limit 63 = .ok (.iadd, 1) := by decide +kernel
theorem dX1_limit_64 : decode cX1_limit 64 = .ok (.ireturn, 1) := by decide +kernel
theorem dX1_limit_65 : decode cX1_limit 65 = .ok (.bipush 36, 2) := by decide +kernel
theorem dX1_limit_67 : decode cX1_limit 67 = .ok (.ireturn, 1) := by decide +kernel
theorem dX1_limit_68 : decode cX1_limit 68 = .ok (.bipush 12, 2) := by decide +kernel
theorem dX1_limit_70 : decode cX1_limit 70 = .ok (.ireturn, 1) := by decide +kernel
theorem dX1_called_0 : decode cX1_called 0 = .ok (.aload_n 0, 1) := by decide +kernel
theorem dX1_called_1 : decode cX1_called 1 = .ok (.getfield 15, 3) := by decide +kernel
theorem dX1_called_4 : decode cX1_called 4 = .ok (.tableswitch 90 3 6 #[52, 32, 70, 52], 32) := by decide +kernel
theorem dX1_called_36 : decode cX1_called 36 = .ok (.aload_n 0, 1) := by decide +kernel
theorem dX1_called_37 : decode cX1_called 37 = .ok (.getfield 9, 3) := by decide +kernel
theorem dX1_called_40 : decode cX1_called 40 = .ok (.iconst (-1), 1) := by decide +kernel
theorem dX1_called_41 : decode cX1_called 41 = .ok (.if_icmp .ne 10, 3) := by decide +kernel
theorem dX1_called_44 : decode cX1_called 44 = .ok (.aload_n 0, 1) := by decide +kernel
theorem dX1_called_45 : decode cX1_called 45 = .ok (.getfield 21, 3) := by decide +kernel
theorem dX1_called_48 : decode cX1_called 48 = .ok (.goto 7, 3) := by decide +kernel
theorem dX1_called_51 : decode cX1_called 51 = .ok (.aload_n 0, 1) := by decide +kernel
theorem dX1_called_52 : decode cX1_called 52 = .ok (.getfield 9, 3) := by decide +kernel
theorem dX1_called_55 : decode cX1_called 55 = .ok (.ireturn, 1) := by decide +kernel
theorem dX1_called_56 : decode cX1_called 56 = .ok (.iload_n 1, 1) := by decide +kernel
theorem dX1_called_57 : decode cX1_called 57 = .ok (.iconst 2, 1) := by decide +kernel
theorem dX1_called_58 : decode cX1_called 58 = .ok (.irem, 1) := by decide +kernel
theorem dX1_called_59 : decode cX1_called 59 = .ok (.ifCond .ne 10, 3) := by decide +kernel
theorem dX1_called_62 : decode cX1_called 62 = .ok (.aload_n 0, 1) := by decide +kernel
theorem dX1_called_63 : decode cX1_called 63 = .ok (.getfield 21, 3) := by decide +kernel
theorem dX1_called_66 : decode cX1_called 66 = .ok (.goto 7, 3) := by decide +kernel
theorem dX1_called_69 : decode cX1_called 69 = .ok (.aload_n 0, 1) := by decide +kernel
theorem dX1_called_70 : decode cX1_called 70 = .ok (.getfield 9, 3) := by decide +kernel
theorem dX1_called_73 : decode cX1_called 73 = .ok (.ireturn, 1) := by decide +kernel
theorem dX1_called_74 : decode cX1_called 74 = .ok (.aload_n 0, 1) := by decide +kernel
theorem dX1_called_75 : decode cX1_called 75 = .ok (.getfield 9, 3) := by decide +kernel
theorem dX1_called_78 : decode cX1_called 78 = .ok (.aload_n 0, 1) := by decide +kernel
theorem dX1_called_79 : decode cX1_called 79 = .ok (.getfield 21, 3) := by decide +kernel
theorem dX1_called_82 : decode cX1_called 82 = .ok (.if_icmp .ne 7, 3) := by decide +kernel
theorem dX1_called_85 : decode cX1_called 85 = .ok (.iconst (-1), 1) := by decide +kernel
theorem dX1_called_86 : decode cX1_called 86 = .ok (.goto 7, 3) := by decide +kernel
theorem dX1_called_89 : decode cX1_called 89 = .ok (.aload_n 0, 1) := by decide +kernel
theorem dX1_called_90 : decode cX1_called 90 = .ok (.getfield 21, 3) := by decide +kernel
theorem dX1_called_93 : decode cX1_called 93 = .ok (.ireturn, 1) := by decide +kernel
theorem dX1_called_94 : decode cX1_called 94 = .ok (.aload_n 0, 1) := by decide +kernel
theorem dX1_called_95 : decode cX1_called 95 = .ok (.getfield 21, 3) := by decide +kernel
theorem dX1_called_98 : decode cX1_called 98 = .ok (.ireturn, 1) := by decide +kernel
theorem dX1_thirsts_0 : decode cX1_thirsts 0 = .ok (.aload_n 0, 1) := by decide +kernel
theorem dX1_thirsts_1 : decode cX1_thirsts 1 = .ok (.dup, 1) := by decide +kernel
theorem dX1_thirsts_2 : decode cX1_thirsts 2 = .ok (.getfield 24, 3) := by decide +kernel
theorem dX1_thirsts_5 : decode cX1_thirsts 5 = .ok (.iload_n 1, 1) := by decide +kernel
theorem dX1_thirsts_6 : decode cX1_thirsts 6 = .ok (.iadd, 1) := by decide +kernel
theorem dX1_thirsts_7 : decode cX1_thirsts 7 = .ok (.putfield 24, 3) := by decide +kernel
theorem dX1_thirsts_10 : decode cX1_thirsts 10 = .ok (.aload_n 0, 1) := by decide +kernel
theorem dX1_thirsts_11 : decode cX1_thirsts 11 = .ok (.getfield 24, 3) := by decide +kernel
theorem dX1_thirsts_14 : decode cX1_thirsts 14 = .ok (.aload_n 0, 1) := by decide +kernel
theorem dX1_thirsts_15 : decode cX1_thirsts 15 = .ok (.invokevirtual 39, 3) := by decide +kernel
theorem dX1_thirsts_18 : decode cX1_thirsts 18 = .ok (.if_icmp .le 8, 3) := by decide +kernel
theorem dX1_thirsts_21 : decode cX1_thirsts 21 = .ok (.aload_n 0, 1) := by decide +kernel
theorem dX1_thirsts_22 : decode cX1_thirsts 22 = .ok (.iconst 1, 1) := by decide +kernel
theorem dX1_thirsts_23 : decode cX1_thirsts 23 = .ok (.putfield 27, 3) := by decide +kernel
theorem dX1_thirsts_26 : decode cX1_thirsts 26 = .ok (.return_, 1) := by decide +kernel
theorem dX2_init_0 : decode cX2_init 0 = .ok (.aload_n 0, 1) := by decide +kernel
theorem dX2_init_1 : decode cX2_init 1 = .ok (.invokespecial 3, 3) := by decide +kernel
theorem dX2_init_4 : decode cX2_init 4 = .ok (.aload_n 0, 1) := by decide +kernel
theorem dX2_init_5 : decode cX2_init 5 = .ok (.bipush 50, 2) := by decide +kernel
theorem dX2_init_7 : decode cX2_init 7 = .ok (.newarray .int, 2) := by decide +kernel
theorem dX2_init_9 : decode cX2_init 9 = .ok (.putfield 9, 3) := by decide +kernel
theorem dX2_init_12 : decode cX2_init 12 = .ok (.aload_n 0, 1) := by decide +kernel
theorem dX2_init_13 : decode cX2_init 13 = .ok (.bipush 50, 2) := by decide +kernel
theorem dX2_init_15 : decode cX2_init 15 = .ok (.newarray .int, 2) := by decide +kernel
theorem dX2_init_17 : decode cX2_init 17 = .ok (.putfield 15, 3) := by decide +kernel
theorem dX2_init_20 : decode cX2_init 20 = .ok (.return_, 1) := by decide +kernel
theorem dX2_read_0 : decode cX2_read 0 = .ok (.aload_n 0, 1) := by decide +kernel
theorem dX2_read_1 : decode cX2_read 1 = .ok (.iload_n 2, 1) := by decide +kernel
theorem dX2_read_2 : decode cX2_read 2 = .ok (.bipush 50, 2) := by decide +kernel
theorem dX2_read_4 : decode cX2_read 4 = .ok (.invokestatic 18, 3) := by decide +kernel
theorem dX2_read_7 : decode cX2_read 7 = .ok (.putfield 24, 3) := by decide +kernel
theorem dX2_read_10 : decode cX2_read 10 = .ok (.aload_n 1, 1) := by decide +kernel
theorem dX2_read_11 : decode cX2_read 11 = .ok (.iconst 0, 1) := by decide +kernel
theorem dX2_read_12 : decode cX2_read 12 = .ok (.aload_n 0, 1) := by decide +kernel
theorem dX2_read_13 : decode cX2_read 13 = .ok (.getfield 15, 3) := by decide +kernel
theorem dX2_read_16 : decode cX2_read 16 = .ok (.iconst 0, 1) := by decide +kernel
theorem dX2_read_17 : decode cX2_read 17 = .ok (.aload_n 0, 1) := by decide +kernel
theorem dX2_read_18 : decode cX2_read 18 = .ok (.getfield 24, 3) := by decide +kernel
theorem dX2_read_21 : decode cX2_read 21 = .ok (.invokestatic 28, 3) := by decide +kernel
theorem dX2_read_24 : decode cX2_read 24 = .ok (.aload_n 0, 1) := by decide +kernel
theorem dX2_read_25 : decode cX2_read 25 = .ok (.iload_n 3, 1) := by decide +kernel
theorem dX2_read_26 : decode cX2_read 26 = .ok (.putfield 34, 3) := by decide +kernel
theorem dX2_read_29 : decode cX2_read 29 = .ok (.aload_n 0, 1) := by decide +kernel
theorem dX2_read_30 : decode cX2_read 30 = .ok (.iconst 0, 1) := by decide +kernel
theorem dX2_read_31 : decode cX2_read 31 = .ok (.putfield 37, 3) := by decide +kernel
theorem dX2_read_34 : decode cX2_read 34 = .ok (.aload_n 0, 1) := by decide +kernel
theorem dX2_read_35 : decode cX2_read 35 = .ok (.iconst 0, 1) := by decide +kernel
theorem dX2_read_36 : decode cX2_read 36 = .ok (.putfield 40, 3) := by decide +kernel
theorem dX2_read_39 : decode cX2_read 39 = .ok (.aload_n 0, 1) := by decide +kernel
theorem dX2_read_40 : decode cX2_read 40 = .ok (.iconst 0, 1) := by decide +kernel
theorem dX2_read_41 : decode cX2_read 41 = .ok (.putfield 43, 3) := by decide +kernel
theorem dX2_read_44 : decode cX2_read 44 = .ok (.aload_n 0, 1) := by decide +kernel
theorem dX2_read_45 : decode cX2_read 45 = .ok (.iconst 0, 1) := by decide +kernel
theorem dX2_read_46 : decode cX2_read 46 = .ok (.putfield 46, 3) := by decide +kernel
theorem dX2_read_49 : decode cX2_read 49 = .ok (.aload_n 0, 1) := by decide +kernel
theorem dX2_read_50 : decode cX2_read 50 = .ok (.iconst 0, 1) := by decide +kernel
theorem dX2_read_51 : decode cX2_read 51 = .ok (.invokevirtual 50, 3) := by decide +kernel
theorem dX2_read_54 : decode cX2_read 54 = .ok (.aload_n 0, 1) := by decide +kernel
theorem dX2_read_55 : decode cX2_read 55 = .ok (.getfield 46, 3) := by decide +kernel
theorem dX2_read_58 : decode cX2_read 58 = .ok (.ifCond .ne 14, 3) := by decide +kernel
theorem dX2_read_61 : decode cX2_read 61 = .ok (.aload_n 0, 1) := by decide +kernel
theorem dX2_read_62 : decode cX2_read 62 = .ok (.getfield 37, 3) := by decide +kernel
theorem dX2_read_65 : decode cX2_read 65 = .ok (.aload_n 0, 1) := by decide +kernel
theorem dX2_read_66 : decode cX2_read 66 = .ok (.getfield 24, 3) := by decide +kernel
theorem dX2_read_69 : decode cX2_read 69 = .ok (.if_icmp .ge 10, 3) := by decide +kernel
theorem dX2_read_72 : decode cX2_read 72 = .ok (.aload_n 0, 1) := by decide +kernel
theorem dX2_read_73 : decode cX2_read 73 = .ok (.getfield 37, 3) := by decide +kernel
theorem dX2_read_76 : decode cX2_read 76 = .ok (.goto 4, 3) := by decide +kernel
theorem dX2_read_79 : decode cX2_read 79 = .ok (.iconst (-1), 1) := by decide +kernel
theorem dX2_read_80 : decode cX2_read 80 = .ok (.ireturn, 1) := by decide +kernel
theorem dX2_readJoined_0 : decode cX2_readJoined 0 = .ok (.iload_n 1, 1) := by decide +kernel
theorem dX2_readJoined_1 : decode cX2_readJoined 1 = .ok (.iconst 5, 1) := by decide +kernel
theorem dX2_readJoined_2 : decode cX2_readJoined 2 = .ok (.if_icmp .lt 8, 3) := by decide +kernel
theorem dX2_readJoined_5 : decode cX2_readJoined 5 = .ok (.aload_n 0, 1) := by decide +kernel
theorem dX2_readJoined_6 : decode cX2_readJoined 6 = .ok (.invokevirtual 54, 3) := by decide +kernel
theorem dX2_readJoined_9 : decode cX2_readJoined 9 = .ok (.return_, 1) := by decide +kernel
theorem dX2_readJoined_10 : decode cX2_readJoined 10 = .ok (.aload_n 0, 1) := by decide +kernel
theorem dX2_readJoined_11 : decode cX2_readJoined 11 = .ok (.iload_n 1, 1) := by decide +kernel
theorem dX2_readJoined_12 : decode cX2_readJoined 12 = .ok (.iconst 1, 1) := by decide +kernel
theorem dX2_readJoined_13 : decode cX2_readJoined 13 = .ok (.iadd, 1) := by decide +kernel
theorem dX2_readJoined_14 : decode cX2_readJoined 14 = .ok (.invokevirtual 50, 3) := by decide +kernel
theorem dX2_readJoined_17 : decode cX2_readJoined 17 = .ok (.iload_n 1, 1) := by decide +kernel
theorem dX2_readJoined_18 : decode cX2_readJoined 18 = .ok (.iconst 2, 1) := by decide +kernel
theorem dX2_readJoined_19 : decode cX2_readJoined 19 = .ok (.if_icmp .ne 7, 3) := by decide +kernel
theorem dX2_readJoined_22 : decode cX2_readJoined 22 = .ok (.iconst 1, 1) := by decide +kernel
theorem dX2_readJoined_23 : decode cX2_readJoined 23 = .ok (.goto 5, 3) := by decide +kernel
theorem dX2_readJoined_26 : decode cX2_readJoined 26 = .ok (.bipush 50, 2) := by decide +kernel
theorem dX2_readJoined_28 : decode cX2_readJoined 28 = .ok (.istore_n 2, 1) := by decide +kernel
theorem dX2_readJoined_29 : decode cX2_readJoined 29 = .ok (.iconst 0, 1) := by decide +kernel
theorem dX2_readJoined_30 : decode cX2_readJoined 30 = .ok (.istore_n 3, 1) := by decide +kernel
theorem dX2_readJoined_31 : decode cX2_readJoined 31 = .ok (.iload_n 3, 1) := by decide +kernel
theorem dX2_readJoined_32 : decode cX2_readJoined 32 = .ok (.iload_n 2, 1) := by decide +kernel
theorem dX2_readJoined_33 : decode cX2_readJoined 33 = .ok (.if_icmp .ge 57, 3) := by decide +kernel
theorem dX2_readJoined_36 : decode cX2_readJoined 36 = .ok (.aload_n 0, 1) := by decide +kernel
theorem dX2_readJoined_37 : decode cX2_readJoined 37 = .ok (.getfield 46, 3) := by decide +kernel
theorem dX2_readJoined_40 : decode cX2_readJoined 40 = .ok (.ifCond .ne 50, 3) := by decide +kernel
theorem dX2_readJoined_43 : decode cX2_readJoined 43 = .ok (.aload_n 0, 1) := by decide +kernel
theorem dX2_readJoined_44 : decode cX2_readJoined 44 = .ok (.invokevirtual 57, 3) := by decide +kernel
theorem dX2_readJoined_47 : decode cX2_readJoined 47 = .ok (.invokestatic 61, 3) := by decide +kernel
theorem dX2_readJoined_50 : decode cX2_readJoined 50 = .ok (.iload_n 1, 1) := by decide +kernel
theorem dX2_readJoined_51 : decode cX2_readJoined 51 = .ok (.if_icmp .ne 39, 3) := by decide +kernel
theorem dX2_readJoined_54 : decode cX2_readJoined 54 = .ok (.aload_n 0, 1) := by decide +kernel
theorem dX2_readJoined_55 : decode cX2_readJoined 55 = .ok (.invokevirtual 57, 3) := by decide +kernel
theorem dX2_readJoined_58 : decode cX2_readJoined 58 = .ok (.istore 4, 2) := by decide +kernel
theorem dX2_readJoined_60 : decode cX2_readJoined 60 = .ok (.aload_n 0, 1) := by decide +kernel
theorem dX2_readJoined_61 : decode cX2_readJoined 61 = .ok (.dup, 1) := by decide +kernel
theorem dX2_readJoined_62 : decode cX2_readJoined 62 = .ok (.getfield 37, 3) := by decide +kernel
theorem dX2_readJoined_65 : decode cX2_readJoined 65 = .ok (.iconst 1, 1) := by decide +kernel
theorem dX2_readJoined_66 : decode cX2_readJoined 66 = .ok (.iadd, 1) := by decide +kernel
theorem dX2_readJoined_67 : decode cX2_readJoined 67 = .ok (.putfield 37, 3) := by decide +kernel
theorem dX2_readJoined_70 : decode cX2_readJoined 70 = .ok (.aload_n 0, 1) := by decide +kernel
theorem dX2_readJoined_71 : decode cX2_readJoined 71 = .ok (.iload_n 1, 1) := by decide +kernel
theorem dX2_readJoined_72 : decode cX2_readJoined 72 = .ok (.iconst 1, 1) := by decide +kernel
theorem dX2_readJoined_73 : decode cX2_readJoined 73 = .ok (.iadd, 1) := by decide +kernel
theorem dX2_readJoined_74 : decode cX2_readJoined 74 = .ok (.invokevirtual 50, 3) := by decide +kernel
theorem dX2_readJoined_77 : decode cX2_readJoined 77 = .ok (.aload_n 0, 1) := by decide +kernel
theorem dX2_readJoined_78 : decode cX2_readJoined 78 = .ok (.iload 4, 2) := by decide +kernel
theorem dX2_readJoined_80 : decode cX2_readJoined 80 = .ok (.ineg, 1) := by decide +kernel
theorem dX2_readJoined_81 : decode cX2_readJoined 81 = .ok (.invokevirtual 65, 3) := by decide +kernel
theorem dX2_readJoined_84 : decode cX2_readJoined 84 = .ok (.iinc 3 1, 3) := by decide +kernel
theorem dX2_readJoined_87 : decode cX2_readJoined 87 = .ok (.goto (-56), 3) := by decide +kernel
theorem dX2_readJoined_90 : decode cX2_readJoined 90 = .ok (.return_, 1) := by decide +kernel
theorem dX2_readSingle_0 : decode cX2_readSingle 0 = .ok (.aload_n 0, 1) := by decide +kernel
theorem dX2_readSingle_1 : decode cX2_readSingle 1 = .ok (.invokevirtual 57, 3) := by decide +kernel
theorem dX2_readSingle_4 : decode cX2_readSingle 4 = .ok (.istore_n 1, 1) := by decide +kernel
theorem dX2_readSingle_5 : decode cX2_readSingle 5 = .ok (.aload_n 0, 1) := by decide +kernel
theorem dX2_readSingle_6 : decode cX2_readSingle 6 = .ok (.iload_n 1, 1) := by decide +kernel
theorem dX2_readSingle_7 : decode cX2_readSingle 7 = .ok (.invokevirtual 68, 3) := by decide +kernel
theorem dX2_readSingle_10 : decode cX2_readSingle 10 = .ok (.istore_n 2, 1) := by decide +kernel
theorem dX2_readSingle_11 : decode cX2_readSingle 11 = .ok (.iload_n 1, 1) := by decide +kernel
theorem dX2_readSingle_12 : decode cX2_readSingle 12 = .ok (.invokestatic 71, 3) := by decide +kernel
theorem dX2_readSingle_15 : decode cX2_readSingle 15 = .ok (.ifCond .eq 10, 3) := by decide +kernel
theorem dX2_readSingle_18 : decode cX2_readSingle 18 = .ok (.aload_n 0, 1) := by decide +kernel
theorem dX2_readSingle_19 : decode cX2_readSingle 19 = .ok (.invokevirtual 75, 3) := by decide +kernel
theorem dX2_readSingle_22 : decode cX2_readSingle 22 = .ok (.goto 62, 3) := by decide +kernel
theorem dX2_readSingle_25 : decode cX2_readSingle 25 = .ok (.iload_n 2, 1) := by decide +kernel
theorem dX2_readSingle_26 : decode cX2_readSingle 26 = .ok (.ifCond .lt 25, 3) := by decide +kernel
theorem dX2_readSingle_29 : decode cX2_readSingle 29 = .ok (.aload_n 0, 1) := by decide +kernel
theorem dX2_readSingle_30 : decode cX2_readSingle 30 = .ok (.dup, 1) := by decide +kernel
theorem dX2_readSingle_31 : decode cX2_readSingle 31 = .ok (.getfield 37, 3) := by decide +kernel
theorem dX2_readSingle_34 : decode cX2_readSingle 34 = .ok (.iconst 1, 1) := by decide +kernel
theorem dX2_readSingle_35 : decode cX2_readSingle 35 = .ok (.iadd, 1) := by decide +kernel
theorem dX2_readSingle_36 : decode cX2_readSingle 36 = .ok (.putfield 37, 3) := by decide +kernel
theorem dX2_readSingle_39 : decode cX2_readSingle 39 = .ok (.aload_n 0, 1) := by decide +kernel
theorem dX2_readSingle_40 : decode cX2_readSingle 40 = .ok (.sipush 10000, 3) := by decide +kernel
theorem dX2_readSingle_43 : decode cX2_readSingle 43 = .ok (.iload_n 2, 1) := by decide +kernel
theorem dX2_readSingle_44 : decode cX2_readSingle 44 = .ok (.iadd, 1) := by decide +kernel
theorem dX2_readSingle_45 : decode cX2_readSingle 45 = .ok (.invokevirtual 65, 3) := by decide +kernel
theorem dX2_readSingle_48 : decode cX2_readSingle 48 = .ok (.goto 36, 3) := by decide +kernel
theorem dX2_readSingle_51 : decode cX2_readSingle 51 = .ok (.iload_n 1, 1) := by decide +kernel
theorem dX2_readSingle_52 : decode cX2_readSingle 52 = .ok (.bipush 33, 2) := by decide +kernel
theorem dX2_readSingle_54 : decode cX2_readSingle 54 = .ok (.if_icmp .eq 9, 3) := by decide +kernel
theorem dX2_readSingle_57 : decode cX2_readSingle 57 = .ok (.iload_n 1, 1) := by decide +kernel
theorem dX2_readSingle_58 : decode cX2_readSingle 58 = .ok (.bipush 40, 2) := by decide +kernel
theorem dX2_readSingle_60 : decode cX2_readSingle 60 = .ok (.if_icmp .ne 19, 3) := by decide +kernel
theorem dX2_readSingle_63 : decode cX2_readSingle 63 = .ok (.aload_n 0, 1) := by decide +kernel
theorem dX2_readSingle_64 : decode cX2_readSingle 64 = .ok (.getfield 40, 3) := by decide +kernel
theorem dX2_readSingle_67 : decode cX2_readSingle 67 = .ok (.iconst 5, 1) := by decide +kernel
theorem dX2_readSingle_68 : decode cX2_readSingle 68 = .ok (.if_icmp .ge 11, 3) := by decide +kernel
theorem dX2_readSingle_71 : decode cX2_readSingle 71 = .ok (.aload_n 0, 1) := by decide +kernel
theorem dX2_readSingle_72 : decode cX2_readSingle 72 = .ok (.iload_n 1, 1) := by decide +kernel
theorem dX2_readSingle_73 : decode cX2_readSingle 73 = .ok (.invokevirtual 80, 3) := by decide +kernel
theorem dX2_readSingle_76 : decode cX2_readSingle 76 = .ok (.goto 8, 3) := by decide +kernel
theorem dX2_readSingle_79 : decode cX2_readSingle 79 = .ok (.aload_n 0, 1) := by decide +kernel
theorem dX2_readSingle_80 : decode cX2_readSingle 80 = .ok (.iconst 1, 1) := by decide +kernel
theorem dX2_readSingle_81 : decode cX2_readSingle 81 = .ok (.putfield 46, 3) := by decide +kernel
theorem dX2_readSingle_84 : decode cX2_readSingle 84 = .ok (.return_, 1) := by decide +kernel
theorem dX2_readOpened_0 : decode cX2_readOpened 0 = .ok (.aload_n 0, 1) := by decide +kernel
theorem dX2_readOpened_1 : decode cX2_readOpened 1 = .ok (.dup, 1) := by decide +kernel
theorem dX2_readOpened_2 : decode cX2_readOpened 2 = .ok (.getfield 37, 3) := by decide +kernel
theorem dX2_readOpened_5 : decode cX2_readOpened 5 = .ok (.iconst 1, 1) := by decide +kernel
theorem dX2_readOpened_6 : decode cX2_readOpened 6 = .ok (.iadd, 1) := by decide +kernel
theorem dX2_readOpened_7 : decode cX2_readOpened 7 = .ok (.putfield 37, 3) := by decide +kernel
theorem dX2_readOpened_10 : decode cX2_readOpened 10 = .ok (.aload_n 0, 1) := by decide +kernel
theorem dX2_readOpened_11 : decode cX2_readOpened 11 = .ok (.dup, 1) := by decide +kernel
theorem dX2_readOpened_12 : decode cX2_readOpened 12 = .ok (.getfield 40, 3) := by decide +kernel
theorem dX2_readOpened_15 : decode cX2_readOpened 15 = .ok (.iconst 1, 1) := by decide +kernel
theorem dX2_readOpened_16 : decode cX2_readOpened 16 = .ok (.iadd, 1) := by decide +kernel
theorem dX2_readOpened_17 : decode cX2_readOpened 17 = .ok (.putfield 40, 3) := by decide +kernel
theorem dX2_readOpened_20 : decode cX2_readOpened 20 = .ok (.iload_n 1, 1) := by decide +kernel
theorem dX2_readOpened_21 : decode cX2_readOpened 21 = .ok (.bipush 33, 2) := by decide +kernel
theorem dX2_readOpened_23 : decode cX2_readOpened 23 = .ok (.if_icmp .ne 16, 3) := by decide +kernel
theorem dX2_readOpened_26 : decode cX2_readOpened 26 = .ok (.aload_n 0, 1) := by decide +kernel
theorem dX2_readOpened_27 : decode cX2_readOpened 27 = .ok (.invokevirtual 54, 3) := by decide +kernel
theorem dX2_readOpened_30 : decode cX2_readOpened 30 = .ok (.aload_n 0, 1) := by decide +kernel
theorem dX2_readOpened_31 : decode cX2_readOpened 31 = .ok (.iload_n 1, 1) := by decide +kernel
theorem dX2_readOpened_32 : decode cX2_readOpened 32 = .ok (.ineg, 1) := by decide +kernel
theorem dX2_readOpened_33 : decode cX2_readOpened 33 = .ok (.invokevirtual 65, 3) := by decide +kernel
theorem dX2_readOpened_36 : decode cX2_readOpened 36 = .ok (.goto 42, 3) := by decide +kernel
theorem dX2_readOpened_39 : decode cX2_readOpened 39 = .ok (.aload_n 0, 1) := by decide +kernel
theorem dX2_readOpened_40 : decode cX2_readOpened 40 = .ok (.iconst 0, 1) := by decide +kernel
theorem dX2_readOpened_41 : decode cX2_readOpened 41 = .ok (.invokevirtual 50, 3) := by decide +kernel
theorem dX2_readOpened_44 : decode cX2_readOpened 44 = .ok (.aload_n 0, 1) := by decide +kernel
theorem dX2_readOpened_45 : decode cX2_readOpened 45 = .ok (.getfield 46, 3) := by decide +kernel
theorem dX2_readOpened_48 : decode cX2_readOpened 48 = .ok (.ifCond .ne 25, 3) := by decide +kernel
theorem dX2_readOpened_51 : decode cX2_readOpened 51 = .ok (.aload_n 0, 1) := by decide +kernel
theorem dX2_readOpened_52 : decode cX2_readOpened 52 = .ok (.invokevirtual 57, 3) := by decide +kernel
theorem dX2_readOpened_55 : decode cX2_readOpened 55 = .ok (.bipush 41, 2) := by decide +kernel
theorem dX2_readOpened_57 : decode cX2_readOpened 57 = .ok (.if_icmp .ne 16, 3) := by decide +kernel
theorem dX2_readOpened_60 : decode cX2_readOpened 60 = .ok (.aload_n 0, 1) := by decide +kernel
theorem dX2_readOpened_61 : decode cX2_readOpened 61 = .ok (.dup, 1) := by decide +kernel
theorem dX2_readOpened_62 : decode cX2_readOpened 62 = .ok (.getfield 37, 3) := by decide +kernel
theorem dX2_readOpened_65 : decode cX2_readOpened 65 = .ok (.iconst 1, 1) := by decide +kernel
theorem dX2_readOpened_66 : decode cX2_readOpened 66 = .ok (.iadd, 1) := by decide +kernel
theorem dX2_readOpened_67 : decode cX2_readOpened 67 = .ok (.putfield 37, 3) := by decide +kernel
theorem dX2_readOpened_70 : decode cX2_readOpened 70 = .ok (.goto 8, 3) := by decide +kernel
theorem dX2_readOpened_73 : decode cX2_readOpened 73 = .ok (.aload_n 0, 1) := by decide +kernel
theorem dX2_readOpened_74 : decode cX2_readOpened 74 = .ok (.iconst 1, 1) := by decide +kernel
theorem dX2_readOpened_75 : decode cX2_readOpened 75 = .ok (.putfield 46, 3) := by decide +kernel
theorem dX2_readOpened_78 : decode cX2_readOpened 78 = .ok (.aload_n 0, 1) := by decide +kernel
theorem dX2_readOpened_79 : decode cX2_readOpened 79 = .ok (.dup, 1) := by decide +kernel
theorem dX2_readOpened_80 : decode cX2_readOpened 80 = .ok (.getfield 40, 3) := by decide +kernel
theorem dX2_readOpened_83 : decode cX2_readOpened 83 = .ok (.iconst 1, 1) := by decide +kernel
theorem dX2_readOpened_84 : decode cX2_readOpened 84 = .ok (.isub, 1) := by decide +kernel
theorem dX2_readOpened_85 : decode cX2_readOpened 85 = .ok (.putfield 40, 3) := by decide +kernel
theorem dX2_readOpened_88 : decode cX2_readOpened 88 = .ok (.return_, 1) := by decide +kernel
theorem dX2_readNumber_0 : decode cX2_readNumber 0 = .ok (.iconst 0, 1) := by decide +kernel
theorem dX2_readNumber_1 : decode cX2_readNumber 1 = .ok (.istore_n 1, 1) := by decide +kernel
theorem dX2_readNumber_2 : decode cX2_readNumber 2 = .ok (.iconst 0, 1) := by decide +kernel
theorem dX2_readNumber_3 : decode cX2_readNumber 3 = .ok (.istore_n 2, 1) := by decide +kernel
theorem dX2_readNumber_4 : decode cX2_readNumber 4 = .ok (.iload_n 2, 1) := by decide +kernel
theorem dX2_readNumber_5 : decode cX2_readNumber 5 = .ok (.iconst 4, 1) := by decide +kernel
theorem dX2_readNumber_6 : decode cX2_readNumber 6 = .ok (.if_icmp .ge 42, 3) := by decide +kernel
theorem dX2_readNumber_9 : decode cX2_readNumber 9 = .ok (.aload_n 0, 1) := by decide +kernel
theorem dX2_readNumber_10 : decode cX2_readNumber 10 = .ok (.invokevirtual 57, 3) := by decide +kernel
theorem dX2_readNumber_13 : decode cX2_readNumber 13 = .ok (.invokestatic 71, 3) := by decide +kernel
theorem dX2_readNumber_16 : decode cX2_readNumber 16 = .ok (.ifCond .eq 32, 3) := by decide +kernel
theorem dX2_readNumber_19 : decode cX2_readNumber 19 = .ok (.iload_n 1, 1) := by decide +kernel
theorem dX2_readNumber_20 : decode cX2_readNumber 20 = .ok (.bipush 10, 2) := by decide +kernel
theorem dX2_readNumber_22 : decode cX2_readNumber 22 = .ok (.imul, 1) := by decide +kernel
theorem dX2_readNumber_23 : decode cX2_readNumber 23 = .ok (.aload_n 0, 1) := by decide +kernel
theorem dX2_readNumber_24 : decode cX2_readNumber 24 = .ok (.invokevirtual 57, 3) := by decide +kernel
theorem dX2_readNumber_27 : decode cX2_readNumber 27 = .ok (.iadd, 1) := by decide +kernel
theorem dX2_readNumber_28 : decode cX2_readNumber 28 = .ok (.bipush 48, 2) := by decide +kernel
theorem dX2_readNumber_30 : decode cX2_readNumber 30 = .ok (.isub, 1) := by decide +kernel
theorem dX2_readNumber_31 : decode cX2_readNumber 31 = .ok (.istore_n 1, 1) := by decide +kernel
theorem dX2_readNumber_32 : decode cX2_readNumber 32 = .ok (.aload_n 0, 1) := by decide +kernel
theorem dX2_readNumber_33 : decode cX2_readNumber 33 = .ok (.dup, 1) := by decide +kernel
theorem dX2_readNumber_34 : decode cX2_readNumber 34 = .ok (.getfield 37, 3) := by decide +kernel
theorem dX2_readNumber_37 : decode cX2_readNumber 37 = .ok (.iconst 1, 1) := by decide +kernel
theorem dX2_readNumber_38 : decode cX2_readNumber 38 = .ok (.iadd, 1) := by decide +kernel
theorem dX2_readNumber_39 : decode cX2_readNumber 39 = .ok (.putfield 37, 3) := by decide +kernel
theorem dX2_readNumber_42 : decode cX2_readNumber 42 = .ok (.iinc 2 1, 3) := by decide +kernel
theorem dX2_readNumber_45 : decode cX2_readNumber 45 = .ok (.goto (-41), 3) := by decide +kernel
theorem dX2_readNumber_48 : decode cX2_readNumber 48 = .ok (.aload_n 0, 1) := by decide +kernel
theorem dX2_readNumber_49 : decode cX2_readNumber 49 = .ok (.iload_n 1, 1) := by decide +kernel
theorem dX2_readNumber_50 : decode cX2_readNumber 50 = .ok (.invokevirtual 65, 3) := by decide +kernel
theorem dX2_readNumber_53 : decode cX2_readNumber 53 = .ok (.return_, 1) := by decide +kernel
theorem dX2_next_0 : decode cX2_next 0 = .ok (.aload_n 0, 1) := by decide +kernel
theorem dX2_next_1 : decode cX2_next 1 = .ok (.getfield 37, 3) := by decide +kernel
theorem dX2_next_4 : decode cX2_next 4 = .ok (.ifCond .lt 26, 3) := by decide +kernel
theorem dX2_next_7 : decode cX2_next 7 = .ok (.aload_n 0, 1) := by decide +kernel
theorem dX2_next_8 : decode cX2_next 8 = .ok (.getfield 37, 3) := by decide +kernel
theorem dX2_next_11 : decode cX2_next 11 = .ok (.aload_n 0, 1) := by decide +kernel
theorem dX2_next_12 : decode cX2_next 12 = .ok (.getfield 24, 3) := by decide +kernel
theorem dX2_next_15 : decode cX2_next 15 = .ok (.if_icmp .ge 15, 3) := by decide +kernel
theorem dX2_next_18 : decode cX2_next 18 = .ok (.aload_n 0, 1) := by decide +kernel
theorem dX2_next_19 : decode cX2_next 19 = .ok (.getfield 15, 3) := by decide +kernel
theorem dX2_next_22 : decode cX2_next 22 = .ok (.aload_n 0, 1) := by decide +kernel
theorem dX2_next_23 : decode cX2_next 23 = .ok (.getfield 37, 3) := by decide +kernel
theorem dX2_next_26 : decode cX2_next 26 = .ok (.iaload, 1) := by decide +kernel
theorem dX2_next_27 : decode cX2_next 27 = .ok (.goto 4, 3) := by decide +kernel
theorem dX2_next_30 : decode cX2_next 30 = .ok (.iconst (-1), 1) := by decide +kernel
theorem dX2_next_31 : decode cX2_next 31 = .ok (.ireturn, 1) := by decide +kernel
theorem dX2_emit_0 : decode cX2_emit 0 = .ok (.aload_n 0, 1) := by decide +kernel
theorem dX2_emit_1 : decode cX2_emit 1 = .ok (.getfield 43, 3) := by decide +kernel
theorem dX2_emit_4 : decode cX2_emit 4 = .ok (.bipush 50, 2) := by decide +kernel
theorem dX2_emit_6 : decode cX2_emit 6 = .ok (.if_icmp .ge 23, 3) := by decide +kernel
theorem dX2_emit_9 : decode cX2_emit 9 = .ok (.aload_n 0, 1) := by decide +kernel
theorem dX2_emit_10 : decode cX2_emit 10 = .ok (.getfield 9, 3) := by decide +kernel
theorem dX2_emit_13 : decode cX2_emit 13 = .ok (.aload_n 0, 1) := by decide +kernel
theorem dX2_emit_14 : decode cX2_emit 14 = .ok (.getfield 43, 3) := by decide +kernel
theorem dX2_emit_17 : decode cX2_emit 17 = .ok (.iload_n 1, 1) := by decide +kernel
theorem dX2_emit_18 : decode cX2_emit 18 = .ok (.iastore, 1) := by decide +kernel
theorem dX2_emit_19 : decode cX2_emit 19 = .ok (.aload_n 0, 1) := by decide +kernel
theorem dX2_emit_20 : decode cX2_emit 20 = .ok (.dup, 1) := by decide +kernel
theorem dX2_emit_21 : decode cX2_emit 21 = .ok (.getfield 43, 3) := by decide +kernel
theorem dX2_emit_24 : decode cX2_emit 24 = .ok (.iconst 1, 1) := by decide +kernel
theorem dX2_emit_25 : decode cX2_emit 25 = .ok (.iadd, 1) := by decide +kernel
theorem dX2_emit_26 : decode cX2_emit 26 = .ok (.putfield 43, 3) := by decide +kernel
theorem dX2_emit_29 : decode cX2_emit 29 = .ok (.return_, 1) := by decide +kernel
theorem dX2_isDigit_0 : decode cX2_isDigit 0 = .ok (.iload_n 0, 1) := by decide +kernel
theorem dX2_isDigit_1 : decode cX2_isDigit 1 = .ok (.bipush 48, 2) := by decide +kernel
theorem dX2_isDigit_3 : decode cX2_isDigit 3 = .ok (.if_icmp .lt 13, 3) := by decide +kernel
theorem dX2_isDigit_6 : decode cX2_isDigit 6 = .ok (.iload_n 0, 1) := by decide +kernel
theorem dX2_isDigit_7 : decode cX2_isDigit 7 = .ok (.bipush 57, 2) := by decide +kernel
theorem dX2_isDigit_9 : decode cX2_isDigit 9 = .ok (.if_icmp .gt 7, 3) := by decide +kernel
theorem dX2_isDigit_12 : decode cX2_isDigit 12 = .ok (.iconst 1, 1) := by decide +kernel
theorem dX2_isDigit_13 : decode cX2_isDigit 13 = .ok (.goto 4, 3) := by decide +kernel
theorem dX2_isDigit_16 : decode cX2_isDigit 16 = .ok (.iconst 0, 1) := by decide +kernel
theorem dX2_isDigit_17 : decode cX2_isDigit 17 = .ok (.ireturn, 1) := by decide +kernel
theorem dX2_nameOf_0 : decode cX2_nameOf 0 = .ok (.iload_n 1, 1) := by decide +kernel
theorem dX2_nameOf_1 : decode cX2_nameOf 1 = .ok (.lookupswitch 85 #[(100, 83), (108, 69), (109, 43), (116, 56)], 43) := by decide +kernel
theorem dX2_nameOf_44 : decode cX2_nameOf 44 = .ok (.aload_n 0, 1) := by decide +kernel
theorem dX2_nameOf_45 : decode cX2_nameOf 45 = .ok (.getfield 34, 3) := by decide +kernel
theorem dX2_nameOf_48 : decode cX2_nameOf 48 = .ok (.ifCond .ne 7, 3) := by decide +kernel
theorem dX2_nameOf_51 : decode cX2_nameOf 51 = .ok (.iconst 0, 1) := by decide +kernel
theorem dX2_nameOf_52 : decode cX2_nameOf 52 = .ok (.goto 4, 3) := by decide +kernel
theorem dX2_nameOf_55 : decode cX2_nameOf 55 = .ok (.iconst 1, 1) := by decide +kernel
theorem dX2_nameOf_56 : decode cX2_nameOf 56 = .ok (.ireturn, 1) := by decide +kernel
theorem dX2_nameOf_57 : decode cX2_nameOf 57 = .ok (.aload_n 0, 1) := by decide +kernel
theorem dX2_nameOf_58 : decode cX2_nameOf 58 = .ok (.getfield 34, 3) := by decide +kernel
theorem dX2_nameOf_61 : decode cX2_nameOf 61 = .ok (.ifCond .ne 7, 3) := by decide +kernel
theorem dX2_nameOf_64 : decode cX2_nameOf 64 = .ok (.iconst 1, 1) := by decide +kernel
theorem dX2_nameOf_65 : decode cX2_nameOf 65 = .ok (.goto 4, 3) := by decide +kernel
theorem dX2_nameOf_68 : decode cX2_nameOf 68 = .ok (.iconst (-1), 1) := by decide +kernel
theorem dX2_nameOf_69 : decode cX2_nameOf 69 = .ok (.ireturn, 1) := by decide +kernel
theorem dX2_nameOf_70 : decode cX2_nameOf 70 = .ok (.aload_n 0, 1) := by decide +kernel
theorem dX2_nameOf_71 : decode cX2_nameOf 71 = .ok (.getfield 34, 3) := by decide +kernel
theorem dX2_nameOf_74 : decode cX2_nameOf 74 = .ok (.iconst 1, 1) := by decide +kernel
theorem dX2_nameOf_75 : decode cX2_nameOf 75 = .ok (.if_icmp .ne 7, 3) := by decide +kernel
theorem dX2_nameOf_78 : decode cX2_nameOf 78 = .ok (.iconst 0, 1) := by decide +kernel
theorem dX2_nameOf_79 : decode cX2_nameOf 79 = .ok (.goto 4, 3) := by decide +kernel
theorem dX2_nameOf_82 : decode cX2_nameOf 82 = .ok (.iconst (-1), 1) := by decide +kernel
theorem dX2_nameOf_83 : decode cX2_nameOf 83 = .ok (.ireturn, 1) := by decide +kernel
theorem dX2_nameOf_84 : decode cX2_nameOf 84 = .ok (.iconst 2, 1) := by decide +kernel
theorem dX2_nameOf_85 : decode cX2_nameOf 85 = .ok (.ireturn, 1) := by decide +kernel
theorem dX2_nameOf_86 : decode cX2_nameOf 86 = .ok (.iconst (-1), 1) := by decide +kernel
theorem dX2_nameOf_87 : decode cX2_nameOf 87 = .ok (.ireturn, 1) := by decide +kernel
theorem dX2_rankOf_0 : decode cX2_rankOf 0 = .ok (.iload_n 0, 1) := by decide +kernel
theorem dX2_rankOf_1 : decode cX2_rankOf 1 = .ok (.lookupswitch 101 #[(37, 99), (38, 93), (42, 99), (43, 97), (45, 97), (47, 99), (60, 95), (61, 95), (62, 95), (124, 91)], 91) := by decide +kernel
theorem dX2_rankOf_92 : decode cX2_rankOf 92 = .ok (.iconst 0, 1) := by decide +kernel
theorem dX2_rankOf_93 : decode cX2_rankOf 93 = .ok (.ireturn, 1) := by decide +kernel
theorem dX2_rankOf_94 : decode cX2_rankOf 94 = .ok (.iconst 1, 1) := by decide +kernel
theorem dX2_rankOf_95 : decode cX2_rankOf 95 = .ok (.ireturn, 1) := by decide +kernel
theorem dX2_rankOf_96 : decode cX2_rankOf 96 = .ok (.iconst 2, 1) := by decide +kernel
theorem dX2_rankOf_97 : decode cX2_rankOf 97 = .ok (.ireturn, 1) := by decide +kernel
theorem dX2_rankOf_98 : decode cX2_rankOf 98 = .ok (.iconst 3, 1) := by decide +kernel
theorem dX2_rankOf_99 : decode cX2_rankOf 99 = .ok (.ireturn, 1) := by decide +kernel
theorem dX2_rankOf_100 : decode cX2_rankOf 100 = .ok (.iconst 4, 1) := by decide +kernel
theorem dX2_rankOf_101 : decode cX2_rankOf 101 = .ok (.ireturn, 1) := by decide +kernel
theorem dX2_rankOf_102 : decode cX2_rankOf 102 = .ok (.iconst (-1), 1) := by decide +kernel
theorem dX2_rankOf_103 : decode cX2_rankOf 103 = .ok (.ireturn, 1) := by decide +kernel
theorem dX3_init_0 : decode cX3_init 0 = .ok (.aload_n 0, 1) := by decide +kernel
theorem dX3_init_1 : decode cX3_init 1 = .ok (.invokespecial 3, 3) := by decide +kernel
theorem dX3_init_4 : decode cX3_init 4 = .ok (.aload_n 0, 1) := by decide +kernel
theorem dX3_init_5 : decode cX3_init 5 = .ok (.bipush 40, 2) := by decide +kernel
theorem dX3_init_7 : decode cX3_init 7 = .ok (.newarray .int, 2) := by decide +kernel
theorem dX3_init_9 : decode cX3_init 9 = .ok (.putfield 9, 3) := by decide +kernel
theorem dX3_init_12 : decode cX3_init 12 = .ok (.return_, 1) := by decide +kernel
theorem dX3_begin_0 : decode cX3_begin 0 = .ok (.aload_n 0, 1) := by decide +kernel
theorem dX3_begin_1 : decode cX3_begin 1 = .ok (.iload_n 1, 1) := by decide +kernel
theorem dX3_begin_2 : decode cX3_begin 2 = .ok (.putfield 15, 3) := by decide +kernel
theorem dX3_begin_5 : decode cX3_begin 5 = .ok (.aload_n 0, 1) := by decide +kernel
theorem dX3_begin_6 : decode cX3_begin 6 = .ok (.iload_n 2, 1) := by decide +kernel
theorem dX3_begin_7 : decode cX3_begin 7 = .ok (.putfield 19, 3) := by decide +kernel
theorem dX3_begin_10 : decode cX3_begin 10 = .ok (.aload_n 0, 1) := by decide +kernel
theorem dX3_begin_11 : decode cX3_begin 11 = .ok (.getfield 9, 3) := by decide +kernel
theorem dX3_begin_14 : decode cX3_begin 14 = .ok (.iconst 0, 1) := by decide +kernel
theorem dX3_begin_15 : decode cX3_begin 15 = .ok (.invokestatic 22, 3) := by decide +kernel
theorem dX3_begin_18 : decode cX3_begin 18 = .ok (.return_, 1) := by decide +kernel
theorem dX3_isMissing_0 : decode cX3_isMissing 0 = .ok (.aload_n 0, 1) := by decide +kernel
theorem dX3_isMissing_1 : decode cX3_isMissing 1 = .ok (.getfield 15, 3) := by decide +kernel
theorem dX3_isMissing_4 : decode cX3_isMissing 4 = .ok (.ifCond .ne 7, 3) := by decide +kernel
theorem dX3_isMissing_7 : decode cX3_isMissing 7 = .ok (.iconst 1, 1) := by decide +kernel
theorem dX3_isMissing_8 : decode cX3_isMissing 8 = .ok (.goto 4, 3) := by decide +kernel
theorem dX3_isMissing_11 : decode cX3_isMissing 11 = .ok (.iconst 0, 1) := by decide +kernel
theorem dX3_isMissing_12 : decode cX3_isMissing 12 = .ok (.ireturn, 1) := by decide +kernel
theorem dX3_holds_0 : decode cX3_holds 0 = .ok (.iload_n 1, 1) := by decide +kernel
theorem dX3_holds_1 : decode cX3_holds 1 = .ok (.ifCond .lt 29, 3) := by decide +kernel
theorem dX3_holds_4 : decode cX3_holds 4 = .ok (.iload_n 2, 1) := by decide +kernel
theorem dX3_holds_5 : decode cX3_holds 5 = .ok (.ifCond .lt 25, 3) := by decide +kernel
theorem dX3_holds_8 : decode cX3_holds 8 = .ok (.iload_n 1, 1) := by decide +kernel
theorem dX3_holds_9 : decode cX3_holds 9 = .ok (.aload_n 0, 1) := by decide +kernel
theorem dX3_holds_10 : decode cX3_holds 10 = .ok (.getfield 19, 3) := by decide +kernel
theorem dX3_holds_13 : decode cX3_holds 13 = .ok (.if_icmp .gt 17, 3) := by decide +kernel
theorem dX3_holds_16 : decode cX3_holds 16 = .ok (.iload_n 2, 1) := by decide +kernel
theorem dX3_holds_17 : decode cX3_holds 17 = .ok (.aload_n 0, 1) := by decide +kernel
theorem dX3_holds_18 : decode cX3_holds 18 = .ok (.getfield 19, 3) := by decide +kernel
theorem dX3_holds_21 : decode cX3_holds 21 = .ok (.iload_n 1, 1) := by decide +kernel
theorem dX3_holds_22 : decode cX3_holds 22 = .ok (.isub, 1) := by decide +kernel
theorem dX3_holds_23 : decode cX3_holds 23 = .ok (.if_icmp .gt 7, 3) := by decide +kernel
theorem dX3_holds_26 : decode cX3_holds 26 = .ok (.iconst 1, 1) := by decide +kernel
theorem dX3_holds_27 : decode cX3_holds 27 = .ok (.goto 4, 3) := by decide +kernel
theorem dX3_holds_30 : decode cX3_holds 30 = .ok (.iconst 0, 1) := by decide +kernel
theorem dX3_holds_31 : decode cX3_holds 31 = .ok (.ireturn, 1) := by decide +kernel
theorem dX3_set_0 : decode cX3_set 0 = .ok (.aload_n 0, 1) := by decide +kernel
theorem dX3_set_1 : decode cX3_set 1 = .ok (.getfield 9, 3) := by decide +kernel
theorem dX3_set_4 : decode cX3_set 4 = .ok (.iload_n 1, 1) := by decide +kernel
theorem dX3_set_5 : decode cX3_set 5 = .ok (.aload_n 0, 1) := by decide +kernel
theorem dX3_set_6 : decode cX3_set 6 = .ok (.getfield 15, 3) := by decide +kernel
theorem dX3_set_9 : decode cX3_set 9 = .ok (.bipush 8, 2) := by decide +kernel
theorem dX3_set_11 : decode cX3_set 11 = .ok (.if_icmp .ne 8, 3) := by decide +kernel
theorem dX3_set_14 : decode cX3_set 14 = .ok (.iload_n 2, 1) := by decide +kernel
theorem dX3_set_15 : decode cX3_set 15 = .ok (.i2b, 1) := by decide +kernel
theorem dX3_set_16 : decode cX3_set 16 = .ok (.goto 18, 3) := by decide +kernel
theorem dX3_set_19 : decode cX3_set 19 = .ok (.aload_n 0, 1) := by decide +kernel
theorem dX3_set_20 : decode cX3_set 20 = .ok (.getfield 15, 3) := by decide +kernel
theorem dX3_set_23 : decode cX3_set 23 = .ok (.bipush 16, 2) := by decide +kernel
theorem dX3_set_25 : decode cX3_set 25 = .ok (.if_icmp .ne 8, 3) := by decide +kernel
theorem dX3_set_28 : decode cX3_set 28 = .ok (.iload_n 2, 1) := by decide +kernel
theorem dX3_set_29 : decode cX3_set 29 = .ok (.i2s, 1) := by decide +kernel
theorem dX3_set_30 : decode cX3_set 30 = .ok (.goto 4, 3) := by decide +kernel
theorem dX3_set_33 : decode cX3_set 33 = .ok (.iload_n 2, 1) := by decide +kernel
theorem dX3_set_34 : decode cX3_set 34 = .ok (.iastore, 1) := by decide +kernel
theorem dX3_set_35 : decode cX3_set 35 = .ok (.return_, 1) := by decide +kernel
theorem dX4_init_0 : decode cX4_init 0 = .ok (.aload_n 0, 1) := by decide +kernel
theorem dX4_init_1 : decode cX4_init 1 = .ok (.invokespecial 3, 3) := by decide +kernel
theorem dX4_init_4 : decode cX4_init 4 = .ok (.aload_n 0, 1) := by decide +kernel
theorem dX4_init_5 : decode cX4_init 5 = .ok (.bipush 40, 2) := by decide +kernel
theorem dX4_init_7 : decode cX4_init 7 = .ok (.newarray .int, 2) := by decide +kernel
theorem dX4_init_9 : decode cX4_init 9 = .ok (.putfield 11, 3) := by decide +kernel
theorem dX4_init_12 : decode cX4_init 12 = .ok (.return_, 1) := by decide +kernel
theorem dX4_speak_0 : decode cX4_speak 0 = .ok (.aload_n 0, 1) := by decide +kernel
theorem dX4_speak_1 : decode cX4_speak 1 = .ok (.iload_n 1, 1) := by decide +kernel
theorem dX4_speak_2 : decode cX4_speak 2 = .ok (.putfield 15, 3) := by decide +kernel
theorem dX4_speak_5 : decode cX4_speak 5 = .ok (.aload_n 0, 1) := by decide +kernel
theorem dX4_speak_6 : decode cX4_speak 6 = .ok (.aload_n 2, 1) := by decide +kernel
theorem dX4_speak_7 : decode cX4_speak 7 = .ok (.getfield 19, 3) := by decide +kernel
theorem dX4_speak_10 : decode cX4_speak 10 = .ok (.putfield 24, 3) := by decide +kernel
theorem dX4_speak_13 : decode cX4_speak 13 = .ok (.aload_n 0, 1) := by decide +kernel
theorem dX4_speak_14 : decode cX4_speak 14 = .ok (.aload_n 2, 1) := by decide +kernel
theorem dX4_speak_15 : decode cX4_speak 15 = .ok (.getfield 25, 3) := by decide +kernel
theorem dX4_speak_18 : decode cX4_speak 18 = .ok (.putfield 28, 3) := by decide +kernel
theorem dX4_speak_21 : decode cX4_speak 21 = .ok (.aload_n 0, 1) := by decide +kernel
theorem dX4_speak_22 : decode cX4_speak 22 = .ok (.iconst 0, 1) := by decide +kernel
theorem dX4_speak_23 : decode cX4_speak 23 = .ok (.putfield 29, 3) := by decide +kernel
theorem dX4_speak_26 : decode cX4_speak 26 = .ok (.aload_n 0, 1) := by decide +kernel
theorem dX4_speak_27 : decode cX4_speak 27 = .ok (.aload_n 0, 1) := by decide +kernel
theorem dX4_speak_28 : decode cX4_speak 28 = .ok (.getfield 28, 3) := by decide +kernel
theorem dX4_speak_31 : decode cX4_speak 31 = .ok (.iload_n 3, 1) := by decide +kernel
theorem dX4_speak_32 : decode cX4_speak 32 = .ok (.iload 4, 2) := by decide +kernel
theorem dX4_speak_34 : decode cX4_speak 34 = .ok (.iconst 0, 1) := by decide +kernel
theorem dX4_speak_35 : decode cX4_speak 35 = .ok (.invokevirtual 32, 3) := by decide +kernel
theorem dX4_speak_38 : decode cX4_speak 38 = .ok (.ireturn, 1) := by decide +kernel
theorem dX4_say_0 : decode cX4_say 0 = .ok (.iload_n 1, 1) := by decide +kernel
theorem dX4_say_1 : decode cX4_say 1 = .ok (.istore 5, 2) := by decide +kernel
theorem dX4_say_3 : decode cX4_say 3 = .ok (.iconst 0, 1) := by decide +kernel
theorem dX4_say_4 : decode cX4_say 4 = .ok (.istore 6, 2) := by decide +kernel
theorem dX4_say_6 : decode cX4_say 6 = .ok (.iload 6, 2) := by decide +kernel
theorem dX4_say_8 : decode cX4_say 8 = .ok (.bipush 7, 2) := by decide +kernel
theorem dX4_say_10 : decode cX4_say 10 = .ok (.if_icmp .ge 74, 3) := by decide +kernel
theorem dX4_say_13 : decode cX4_say 13 = .ok (.iload 5, 2) := by decide +kernel
theorem dX4_say_15 : decode cX4_say 15 = .ok (.iconst 0, 1) := by decide +kernel
theorem dX4_say_16 : decode cX4_say 16 = .ok (.bipush 6, 2) := by decide +kernel
theorem dX4_say_18 : decode cX4_say 18 = .ok (.invokestatic 36, 3) := by decide +kernel
theorem dX4_say_21 : decode cX4_say 21 = .ok (.ifCond .eq 63, 3) := by decide +kernel
theorem dX4_say_24 : decode cX4_say 24 = .ok (.getstatic 40, 3) := by decide +kernel
theorem dX4_say_27 : decode cX4_say 27 = .ok (.iload 5, 2) := by decide +kernel
theorem dX4_say_29 : decode cX4_say 29 = .ok (.iconst 4, 1) := by decide +kernel
theorem dX4_say_30 : decode cX4_say 30 = .ok (.imul, 1) := by decide +kernel
theorem dX4_say_31 : decode cX4_say 31 = .ok (.iload_n 2, 1) := by decide +kernel
theorem dX4_say_32 : decode cX4_say 32 = .ok (.iadd, 1) := by decide +kernel
theorem dX4_say_33 : decode cX4_say 33 = .ok (.iaload, 1) := by decide +kernel
theorem dX4_say_34 : decode cX4_say 34 = .ok (.istore 7, 2) := by decide +kernel
theorem dX4_say_36 : decode cX4_say 36 = .ok (.iload 7, 2) := by decide +kernel
theorem dX4_say_38 : decode cX4_say 38 = .ok (.ifCond .eq 32, 3) := by decide +kernel
theorem dX4_say_41 : decode cX4_say 41 = .ok (.iload 4, 2) := by decide +kernel
theorem dX4_say_43 : decode cX4_say 43 = .ok (.bipush 30, 2) := by decide +kernel
theorem dX4_say_45 : decode cX4_say 45 = .ok (.if_icmp .ge 23, 3) := by decide +kernel
theorem dX4_say_48 : decode cX4_say 48 = .ok (.aload_n 0, 1) := by decide +kernel
theorem dX4_say_49 : decode cX4_say 49 = .ok (.iload 7, 2) := by decide +kernel
theorem dX4_say_51 : decode cX4_say 51 = .ok (.getstatic 43, 3) := by decide +kernel
theorem dX4_say_54 : decode cX4_say 54 = .ok (.iload 5, 2) := by decide +kernel
theorem dX4_say_56 : decode cX4_say 56 = .ok (.iaload, 1) := by decide +kernel
theorem dX4_say_57 : decode cX4_say 57 = .ok (.iload_n 3, 1) := by decide +kernel
theorem dX4_say_58 : decode cX4_say 58 = .ok (.iload 4, 2) := by decide +kernel
theorem dX4_say_60 : decode cX4_say 60 = .ok (.iconst 1, 1) := by decide +kernel
theorem dX4_say_61 : decode cX4_say 61 = .ok (.iadd, 1) := by decide +kernel
theorem dX4_say_62 : decode cX4_say 62 = .ok (.invokevirtual 46, 3) := by decide +kernel
theorem dX4_say_65 : decode cX4_say 65 = .ok (.goto 4, 3) := by decide +kernel
theorem dX4_say_68 : decode cX4_say 68 = .ok (.iconst 0, 1) := by decide +kernel
theorem dX4_say_69 : decode cX4_say 69 = .ok (.ireturn, 1) := by decide +kernel
theorem dX4_say_70 : decode cX4_say 70 = .ok (.getstatic 43, 3) := by decide +kernel
theorem dX4_say_73 : decode cX4_say 73 = .ok (.iload 5, 2) := by decide +kernel
theorem dX4_say_75 : decode cX4_say 75 = .ok (.iaload, 1) := by decide +kernel
theorem dX4_say_76 : decode cX4_say 76 = .ok (.istore 5, 2) := by decide +kernel
theorem dX4_say_78 : decode cX4_say 78 = .ok (.iinc 6 1, 3) := by decide +kernel
theorem dX4_say_81 : decode cX4_say 81 = .ok (.goto (-75), 3) := by decide +kernel
theorem dX4_say_84 : decode cX4_say 84 = .ok (.iconst 0, 1) := by decide +kernel
theorem dX4_say_85 : decode cX4_say 85 = .ok (.ireturn, 1) := by decide +kernel
theorem dX4_run_0 : decode cX4_run 0 = .ok (.aload_n 0, 1) := by decide +kernel
theorem dX4_run_1 : decode cX4_run 1 = .ok (.iload_n 1, 1) := by decide +kernel
theorem dX4_run_2 : decode cX4_run 2 = .ok (.invokevirtual 49, 3) := by decide +kernel
theorem dX4_run_5 : decode cX4_run 5 = .ok (.iload_n 1, 1) := by decide +kernel
theorem dX4_run_6 : decode cX4_run 6 = .ok (.lookupswitch 272 #[(10, 98), (11, 105), (12, 120), (13, 127), (20, 153), (30, 165), (40, 188), (50, 199), (60, 222), (70, 234), (71, 249)], 98) := by decide +kernel
theorem dX4_run_104 : decode cX4_run 104 = .ok (.iload_n 3, 1) := by decide +kernel
theorem dX4_run_105 : decode cX4_run 105 = .ok (.aload_n 0, 1) := by decide +kernel
theorem dX4_run_106 : decode cX4_run 106 = .ok (.getfield 15, 3) := by decide +kernel
theorem dX4_run_109 : decode cX4_run 109 = .ok (.iadd, 1) := by decide +kernel
theorem dX4_run_110 : decode cX4_run 110 = .ok (.ireturn, 1) := by decide +kernel
theorem dX4_run_111 : decode cX4_run 111 = .ok (.aload_n 0, 1) := by decide +kernel
theorem dX4_run_112 : decode cX4_run 112 = .ok (.aload_n 0, 1) := by decide +kernel
theorem dX4_run_113 : decode cX4_run 113 = .ok (.getfield 28, 3) := by decide +kernel
theorem dX4_run_116 : decode cX4_run 116 = .ok (.iconst 0, 1) := by decide +kernel
theorem dX4_run_117 : decode cX4_run 117 = .ok (.iload_n 3, 1) := by decide +kernel
theorem dX4_run_118 : decode cX4_run 118 = .ok (.iload 4, 2) := by decide +kernel
theorem dX4_run_120 : decode cX4_run 120 = .ok (.invokevirtual 32, 3) := by decide +kernel
theorem dX4_run_123 : decode cX4_run 123 = .ok (.iconst 2, 1) := by decide +kernel
theorem dX4_run_124 : decode cX4_run 124 = .ok (.imul, 1) := by decide +kernel
theorem dX4_run_125 : decode cX4_run 125 = .ok (.ireturn, 1) := by decide +kernel
theorem dX4_run_126 : decode cX4_run 126 = .ok (.iload_n 3, 1) := by decide +kernel
theorem dX4_run_127 : decode cX4_run 127 = .ok (.aload_n 0, 1) := by decide +kernel
theorem dX4_run_128 : decode cX4_run 128 = .ok (.getfield 24, 3) := by decide +kernel
theorem dX4_run_131 : decode cX4_run 131 = .ok (.isub, 1) := by decide +kernel
theorem dX4_run_132 : decode cX4_run 132 = .ok (.ireturn, 1) := by decide +kernel
theorem dX4_run_133 : decode cX4_run 133 = .ok (.aload_n 0, 1) := by decide +kernel
theorem dX4_run_134 : decode cX4_run 134 = .ok (.aload_n 0, 1) := by decide +kernel
theorem dX4_run_135 : decode cX4_run 135 = .ok (.getfield 28, 3) := by decide +kernel
theorem dX4_run_138 : decode cX4_run 138 = .ok (.iconst 1, 1) := by decide +kernel
theorem dX4_run_139 : decode cX4_run 139 = .ok (.iload_n 3, 1) := by decide +kernel
theorem dX4_run_140 : decode cX4_run 140 = .ok (.iload 4, 2) := by decide +kernel
theorem dX4_run_142 : decode cX4_run 142 = .ok (.invokevirtual 32, 3) := by decide +kernel
theorem dX4_run_145 : decode cX4_run 145 = .ok (.aload_n 0, 1) := by decide +kernel
theorem dX4_run_146 : decode cX4_run 146 = .ok (.aload_n 0, 1) := by decide +kernel
theorem dX4_run_147 : decode cX4_run 147 = .ok (.getfield 28, 3) := by decide +kernel
theorem dX4_run_150 : decode cX4_run 150 = .ok (.iconst 2, 1) := by decide +kernel
theorem dX4_run_151 : decode cX4_run 151 = .ok (.iload_n 3, 1) := by decide +kernel
theorem dX4_run_152 : decode cX4_run 152 = .ok (.iload 4, 2) := by decide +kernel
theorem dX4_run_154 : decode cX4_run 154 = .ok (.invokevirtual 32, 3) := by decide +kernel
theorem dX4_run_157 : decode cX4_run 157 = .ok (.ixor, 1) := by decide +kernel
theorem dX4_run_158 : decode cX4_run 158 = .ok (.ireturn, 1) := by decide +kernel
theorem dX4_run_159 : decode cX4_run 159 = .ok (.aload_n 0, 1) := by decide +kernel
theorem dX4_run_160 : decode cX4_run 160 = .ok (.iload_n 2, 1) := by decide +kernel
theorem dX4_run_161 : decode cX4_run 161 = .ok (.iconst 0, 1) := by decide +kernel
theorem dX4_run_162 : decode cX4_run 162 = .ok (.iload_n 3, 1) := by decide +kernel
theorem dX4_run_163 : decode cX4_run 163 = .ok (.iload 4, 2) := by decide +kernel
theorem dX4_run_165 : decode cX4_run 165 = .ok (.invokevirtual 32, 3) := by decide +kernel
theorem dX4_run_168 : decode cX4_run 168 = .ok (.iconst 3, 1) := by decide +kernel
theorem dX4_run_169 : decode cX4_run 169 = .ok (.imul, 1) := by decide +kernel
theorem dX4_run_170 : decode cX4_run 170 = .ok (.ireturn, 1) := by decide +kernel
theorem dX4_run_171 : decode cX4_run 171 = .ok (.aload_n 0, 1) := by decide +kernel
theorem dX4_run_172 : decode cX4_run 172 = .ok (.iload_n 2, 1) := by decide +kernel
theorem dX4_run_173 : decode cX4_run 173 = .ok (.iconst 1, 1) := by decide +kernel
theorem dX4_run_174 : decode cX4_run 174 = .ok (.iload_n 3, 1) := by decide +kernel
theorem dX4_run_175 : decode cX4_run 175 = .ok (.iload 4, 2) := by decide +kernel
theorem dX4_run_177 : decode cX4_run 177 = .ok (.invokevirtual 32, 3) := by decide +kernel
theorem dX4_run_180 : decode cX4_run 180 = .ok (.aload_n 0, 1) := by decide +kernel
theorem dX4_run_181 : decode cX4_run 181 = .ok (.aload_n 0, 1) := by decide +kernel
theorem dX4_run_182 : decode cX4_run 182 = .ok (.getfield 28, 3) := by decide +kernel
theorem dX4_run_185 : decode cX4_run 185 = .ok (.iconst 2, 1) := by decide +kernel
theorem dX4_run_186 : decode cX4_run 186 = .ok (.iconst 1, 1) := by decide +kernel
theorem dX4_run_187 : decode cX4_run 187 = .ok (.iload 4, 2) := by decide +kernel
theorem dX4_run_189 : decode cX4_run 189 = .ok (.invokevirtual 32, 3) := by decide +kernel
theorem dX4_run_192 : decode cX4_run 192 = .ok (.isub, 1) := by decide +kernel
theorem dX4_run_193 : decode cX4_run 193 = .ok (.ireturn, 1) := by decide +kernel
theorem dX4_run_194 : decode cX4_run 194 = .ok (.aload_n 0, 1) := by decide +kernel
theorem dX4_run_195 : decode cX4_run 195 = .ok (.iload_n 2, 1) := by decide +kernel
theorem dX4_run_196 : decode cX4_run 196 = .ok (.iconst 2, 1) := by decide +kernel
theorem dX4_run_197 : decode cX4_run 197 = .ok (.iload_n 3, 1) := by decide +kernel
theorem dX4_run_198 : decode cX4_run 198 = .ok (.iload 4, 2) := by decide +kernel
theorem dX4_run_200 : decode cX4_run 200 = .ok (.invokevirtual 32, 3) := by decide +kernel
theorem dX4_run_203 : decode cX4_run 203 = .ok (.ineg, 1) := by decide +kernel
theorem dX4_run_204 : decode cX4_run 204 = .ok (.ireturn, 1) := by decide +kernel
theorem dX4_run_205 : decode cX4_run 205 = .ok (.aload_n 0, 1) := by decide +kernel
theorem dX4_run_206 : decode cX4_run 206 = .ok (.iload_n 2, 1) := by decide +kernel
theorem dX4_run_207 : decode cX4_run 207 = .ok (.iconst 3, 1) := by decide +kernel
theorem dX4_run_208 : decode cX4_run 208 = .ok (.iload_n 3, 1) := by decide +kernel
theorem dX4_run_209 : decode cX4_run 209 = .ok (.iload 4, 2) := by decide +kernel
theorem dX4_run_211 : decode cX4_run 211 = .ok (.invokevirtual 32, 3) := by decide +kernel
theorem dX4_run_214 : decode cX4_run 214 = .ok (.aload_n 0, 1) := by decide +kernel
theorem dX4_run_215 : decode cX4_run 215 = .ok (.aload_n 0, 1) := by decide +kernel
theorem dX4_run_216 : decode cX4_run 216 = .ok (.getfield 28, 3) := by decide +kernel
theorem dX4_run_219 : decode cX4_run 219 = .ok (.iconst 0, 1) := by decide +kernel
theorem dX4_run_220 : decode cX4_run 220 = .ok (.iconst 2, 1) := by decide +kernel
theorem dX4_run_221 : decode cX4_run 221 = .ok (.iload 4, 2) := by decide +kernel
theorem dX4_run_223 : decode cX4_run 223 = .ok (.invokevirtual 32, 3) := by decide +kernel
theorem dX4_run_226 : decode cX4_run 226 = .ok (.isub, 1) := by decide +kernel
theorem dX4_run_227 : decode cX4_run 227 = .ok (.ireturn, 1) := by decide +kernel
theorem dX4_run_228 : decode cX4_run 228 = .ok (.aload_n 0, 1) := by decide +kernel
theorem dX4_run_229 : decode cX4_run 229 = .ok (.iload_n 2, 1) := by decide +kernel
theorem dX4_run_230 : decode cX4_run 230 = .ok (.iconst 1, 1) := by decide +kernel
theorem dX4_run_231 : decode cX4_run 231 = .ok (.iload_n 3, 1) := by decide +kernel
theorem dX4_run_232 : decode cX4_run 232 = .ok (.iconst 1, 1) := by decide +kernel
theorem dX4_run_233 : decode cX4_run 233 = .ok (.iadd, 1) := by decide +kernel
theorem dX4_run_234 : decode cX4_run 234 = .ok (.iload 4, 2) := by decide +kernel
theorem dX4_run_236 : decode cX4_run 236 = .ok (.invokevirtual 32, 3) := by decide +kernel
theorem dX4_run_239 : decode cX4_run 239 = .ok (.ireturn, 1) := by decide +kernel
theorem dX4_run_240 : decode cX4_run 240 = .ok (.aload_n 0, 1) := by decide +kernel
theorem dX4_run_241 : decode cX4_run 241 = .ok (.iload_n 2, 1) := by decide +kernel
theorem dX4_run_242 : decode cX4_run 242 = .ok (.iconst 2, 1) := by decide +kernel
theorem dX4_run_243 : decode cX4_run 243 = .ok (.iload_n 3, 1) := by decide +kernel
theorem dX4_run_244 : decode cX4_run 244 = .ok (.iload 4, 2) := by decide +kernel
theorem dX4_run_246 : decode cX4_run 246 = .ok (.invokevirtual 32, 3) := by decide +kernel
theorem dX4_run_249 : decode cX4_run 249 = .ok (.aload_n 0, 1) := by decide +kernel
theorem dX4_run_250 : decode cX4_run 250 = .ok (.getfield 15, 3) := by decide +kernel
theorem dX4_run_253 : decode cX4_run 253 = .ok (.ixor, 1) := by decide +kernel
theorem dX4_run_254 : decode cX4_run 254 = .ok (.ireturn, 1) := by decide +kernel
theorem dX4_run_255 : decode cX4_run 255 = .ok (.aload_n 0, 1) := by decide +kernel
theorem dX4_run_256 : decode cX4_run 256 = .ok (.aload_n 0, 1) := by decide +kernel
theorem dX4_run_257 : decode cX4_run 257 = .ok (.getfield 28, 3) := by decide +kernel
theorem dX4_run_260 : decode cX4_run 260 = .ok (.iconst 1, 1) := by decide +kernel
theorem dX4_run_261 : decode cX4_run 261 = .ok (.iload_n 3, 1) := by decide +kernel
theorem dX4_run_262 : decode cX4_run 262 = .ok (.iload 4, 2) := by decide +kernel
theorem dX4_run_264 : decode cX4_run 264 = .ok (.invokevirtual 32, 3) := by decide +kernel
theorem dX4_run_267 : decode cX4_run 267 = .ok (.aload_n 0, 1) := by decide +kernel
theorem dX4_run_268 : decode cX4_run 268 = .ok (.iload_n 2, 1) := by decide +kernel
theorem dX4_run_269 : decode cX4_run 269 = .ok (.iconst 3, 1) := by decide +kernel
theorem dX4_run_270 : decode cX4_run 270 = .ok (.iload_n 3, 1) := by decide +kernel
theorem dX4_run_271 : decode cX4_run 271 = .ok (.iload 4, 2) := by decide +kernel
theorem dX4_run_273 : decode cX4_run 273 = .ok (.invokevirtual 32, 3) := by decide +kernel
theorem dX4_run_276 : decode cX4_run 276 = .ok (.isub, 1) := by decide +kernel
theorem dX4_run_277 : decode cX4_run 277 = .ok (.ireturn, 1) := by decide +kernel
theorem dX4_run_278 : decode cX4_run 278 = .ok (.iconst 0, 1) := by decide +kernel
theorem dX4_run_279 : decode cX4_run 279 = .ok (.ireturn, 1) := by decide +kernel
theorem dX4_note_0 : decode cX4_note 0 = .ok (.aload_n 0, 1) := by decide +kernel
theorem dX4_note_1 : decode cX4_note 1 = .ok (.getfield 29, 3) := by decide +kernel
theorem dX4_note_4 : decode cX4_note 4 = .ok (.bipush 40, 2) := by decide +kernel
theorem dX4_note_6 : decode cX4_note 6 = .ok (.if_icmp .ge 23, 3) := by decide +kernel
theorem dX4_note_9 : decode cX4_note 9 = .ok (.aload_n 0, 1) := by decide +kernel
theorem dX4_note_10 : decode cX4_note 10 = .ok (.getfield 11, 3) := by decide +kernel
theorem dX4_note_13 : decode cX4_note 13 = .ok (.aload_n 0, 1) := by decide +kernel
theorem dX4_note_14 : decode cX4_note 14 = .ok (.getfield 29, 3) := by decide +kernel
theorem dX4_note_17 : decode cX4_note 17 = .ok (.iload_n 1, 1) := by decide +kernel
theorem dX4_note_18 : decode cX4_note 18 = .ok (.iastore, 1) := by decide +kernel
theorem dX4_note_19 : decode cX4_note 19 = .ok (.aload_n 0, 1) := by decide +kernel
theorem dX4_note_20 : decode cX4_note 20 = .ok (.dup, 1) := by decide +kernel
theorem dX4_note_21 : decode cX4_note 21 = .ok (.getfield 29, 3) := by decide +kernel
theorem dX4_note_24 : decode cX4_note 24 = .ok (.iconst 1, 1) := by decide +kernel
theorem dX4_note_25 : decode cX4_note 25 = .ok (.iadd, 1) := by decide +kernel
theorem dX4_note_26 : decode cX4_note 26 = .ok (.putfield 29, 3) := by decide +kernel
theorem dX4_note_29 : decode cX4_note 29 = .ok (.return_, 1) := by decide +kernel
theorem dX5_init_0 : decode cX5_init 0 = .ok (.aload_n 0, 1) := by decide +kernel
theorem dX5_init_1 : decode cX5_init 1 = .ok (.invokespecial 3, 3) := by decide +kernel
theorem dX5_init_4 : decode cX5_init 4 = .ok (.aload_n 0, 1) := by decide +kernel
theorem dX5_init_5 : decode cX5_init 5 = .ok (.bipush 64, 2) := by decide +kernel
theorem dX5_init_7 : decode cX5_init 7 = .ok (.newarray .int, 2) := by decide +kernel
theorem dX5_init_9 : decode cX5_init 9 = .ok (.putfield 9, 3) := by decide +kernel
theorem dX5_init_12 : decode cX5_init 12 = .ok (.aload_n 0, 1) := by decide +kernel
theorem dX5_init_13 : decode cX5_init 13 = .ok (.bipush 21, 2) := by decide +kernel
theorem dX5_init_15 : decode cX5_init 15 = .ok (.newarray .int, 2) := by decide +kernel
theorem dX5_init_17 : decode cX5_init 17 = .ok (.putfield 15, 3) := by decide +kernel
theorem dX5_init_20 : decode cX5_init 20 = .ok (.aload_n 0, 1) := by decide +kernel
theorem dX5_init_21 : decode cX5_init 21 = .ok (.bipush 8, 2) := by decide +kernel
theorem dX5_init_23 : decode cX5_init 23 = .ok (.newarray .int, 2) := by decide +kernel
theorem dX5_init_25 : decode cX5_init 25 = .ok (.putfield 18, 3) := by decide +kernel
theorem dX5_init_28 : decode cX5_init 28 = .ok (.aload_n 0, 1) := by decide +kernel
theorem dX5_init_29 : decode cX5_init 29 = .ok (.sipush 168, 3) := by decide +kernel
theorem dX5_init_32 : decode cX5_init 32 = .ok (.newarray .int, 2) := by decide +kernel
theorem dX5_init_34 : decode cX5_init 34 = .ok (.putfield 21, 3) := by decide +kernel
theorem dX5_init_37 : decode cX5_init 37 = .ok (.return_, 1) := by decide +kernel
theorem dX5_think_0 : decode cX5_think 0 = .ok (.aload_n 0, 1) := by decide +kernel
theorem dX5_think_1 : decode cX5_think 1 = .ok (.aload_n 1, 1) := by decide +kernel
theorem dX5_think_2 : decode cX5_think 2 = .ok (.invokevirtual 24, 3) := by decide +kernel
theorem dX5_think_5 : decode cX5_think 5 = .ok (.aload_n 0, 1) := by decide +kernel
theorem dX5_think_6 : decode cX5_think 6 = .ok (.aload_n 2, 1) := by decide +kernel
theorem dX5_think_7 : decode cX5_think 7 = .ok (.invokevirtual 28, 3) := by decide +kernel
theorem dX5_think_10 : decode cX5_think 10 = .ok (.putfield 34, 3) := by decide +kernel
theorem dX5_think_13 : decode cX5_think 13 = .ok (.iconst 1, 1) := by decide +kernel
theorem dX5_think_14 : decode cX5_think 14 = .ok (.istore 4, 2) := by decide +kernel
theorem dX5_think_16 : decode cX5_think 16 = .ok (.iload 4, 2) := by decide +kernel
theorem dX5_think_18 : decode cX5_think 18 = .ok (.bipush 20, 2) := by decide +kernel
theorem dX5_think_20 : decode cX5_think 20 = .ok (.if_icmp .gt 23, 3) := by decide +kernel
theorem dX5_think_23 : decode cX5_think 23 = .ok (.aload_n 0, 1) := by decide +kernel
theorem dX5_think_24 : decode cX5_think 24 = .ok (.getfield 15, 3) := by decide +kernel
theorem dX5_think_27 : decode cX5_think 27 = .ok (.iload 4, 2) := by decide +kernel
theorem dX5_think_29 : decode cX5_think 29 = .ok (.aload_n 1, 1) := by decide +kernel
theorem dX5_think_30 : decode cX5_think 30 = .ok (.aload_n 2, 1) := by decide +kernel
theorem dX5_think_31 : decode cX5_think 31 = .ok (.iload 4, 2) := by decide +kernel
theorem dX5_think_33 : decode cX5_think 33 = .ok (.invokevirtual 37, 3) := by decide +kernel
theorem dX5_think_36 : decode cX5_think 36 = .ok (.iastore, 1) := by decide +kernel
theorem dX5_think_37 : decode cX5_think 37 = .ok (.iinc 4 1, 3) := by decide +kernel
theorem dX5_think_40 : decode cX5_think 40 = .ok (.goto (-24), 3) := by decide +kernel
theorem dX5_think_43 : decode cX5_think 43 = .ok (.aload_n 1, 1) := by decide +kernel
theorem dX5_think_44 : decode cX5_think 44 = .ok (.aload_n 2, 1) := by decide +kernel
theorem dX5_think_45 : decode cX5_think 45 = .ok (.iconst 0, 1) := by decide +kernel
theorem dX5_think_46 : decode cX5_think 46 = .ok (.invokevirtual 43, 3) := by decide +kernel
theorem dX5_think_49 : decode cX5_think 49 = .ok (.istore 4, 2) := by decide +kernel
theorem dX5_think_51 : decode cX5_think 51 = .ok (.aload_n 0, 1) := by decide +kernel
theorem dX5_think_52 : decode cX5_think 52 = .ok (.iconst 0, 1) := by decide +kernel
theorem dX5_think_53 : decode cX5_think 53 = .ok (.putfield 46, 3) := by decide +kernel
theorem dX5_think_56 : decode cX5_think 56 = .ok (.iconst 0, 1) := by decide +kernel
theorem dX5_think_57 : decode cX5_think 57 = .ok (.istore 5, 2) := by decide +kernel
theorem dX5_think_59 : decode cX5_think 59 = .ok (.iload 5, 2) := by decide +kernel
theorem dX5_think_61 : decode cX5_think 61 = .ok (.bipush 8, 2) := by decide +kernel
theorem dX5_think_63 : decode cX5_think 63 = .ok (.if_icmp .ge 34, 3) := by decide +kernel
theorem dX5_think_66 : decode cX5_think 66 = .ok (.aload_n 1, 1) := by decide +kernel
theorem dX5_think_67 : decode cX5_think 67 = .ok (.getfield 49, 3) := by decide +kernel
theorem dX5_think_70 : decode cX5_think 70 = .ok (.iload 5, 2) := by decide +kernel
theorem dX5_think_72 : decode cX5_think 72 = .ok (.iaload, 1) := by decide +kernel
theorem dX5_think_73 : decode cX5_think 73 = .ok (.iload 4, 2) := by decide +kernel
theorem dX5_think_75 : decode cX5_think 75 = .ok (.if_icmp .lt 16, 3) := by decide +kernel
theorem dX5_think_78 : decode cX5_think 78 = .ok (.aload_n 0, 1) := by decide +kernel
theorem dX5_think_79 : decode cX5_think 79 = .ok (.dup, 1) := by decide +kernel
theorem dX5_think_80 : decode cX5_think 80 = .ok (.getfield 46, 3) := by decide +kernel
theorem dX5_think_83 : decode cX5_think 83 = .ok (.iconst 1, 1) := by decide +kernel
theorem dX5_think_84 : decode cX5_think 84 = .ok (.iload 5, 2) := by decide +kernel
theorem dX5_think_86 : decode cX5_think 86 = .ok (.ishl, 1) := by decide +kernel
theorem dX5_think_87 : decode cX5_think 87 = .ok (.ior, 1) := by decide +kernel
theorem dX5_think_88 : decode cX5_think 88 = .ok (.putfield 46, 3) := by decide +kernel
theorem dX5_think_91 : decode cX5_think 91 = .ok (.iinc 5 1, 3) := by decide +kernel
theorem dX5_think_94 : decode cX5_think 94 = .ok (.goto (-35), 3) := by decide +kernel
theorem dX5_think_97 : decode cX5_think 97 = .ok (.aload_n 0, 1) := by decide +kernel
theorem dX5_think_98 : decode cX5_think 98 = .ok (.aload_n 2, 1) := by decide +kernel
theorem dX5_think_99 : decode cX5_think 99 = .ok (.iload_n 3, 1) := by decide +kernel
theorem dX5_think_100 : decode cX5_think 100 = .ok (.invokevirtual 52, 3) := by decide +kernel
theorem dX5_think_103 : decode cX5_think 103 = .ok (.return_, 1) := by decide +kernel
theorem dX5_startAgain_0 : decode cX5_startAgain 0 = .ok (.aload_n 0, 1) := by decide +kernel
theorem dX5_startAgain_1 : decode cX5_startAgain 1 = .ok (.aload_n 0, 1) := by decide +kernel
theorem dX5_startAgain_2 : decode cX5_startAgain 2 = .ok (.getfield 46, 3) := by decide +kernel
theorem dX5_startAgain_5 : decode cX5_startAgain 5 = .ok (.iload_n 2, 1) := by decide +kernel
theorem dX5_startAgain_6 : decode cX5_startAgain 6 = .ok (.iconst (-1), 1) := by decide +kernel
theorem dX5_startAgain_7 : decode cX5_startAgain 7 = .ok (.ixor, 1) := by decide +kernel
theorem dX5_startAgain_8 : decode cX5_startAgain 8 = .ok (.iand, 1) := by decide +kernel
theorem dX5_startAgain_9 : decode cX5_startAgain 9 = .ok (.putfield 56, 3) := by decide +kernel
theorem dX5_startAgain_12 : decode cX5_startAgain 12 = .ok (.aload_n 0, 1) := by decide +kernel
theorem dX5_startAgain_13 : decode cX5_startAgain 13 = .ok (.getfield 18, 3) := by decide +kernel
theorem dX5_startAgain_16 : decode cX5_startAgain 16 = .ok (.ldc 59, 2) := by decide +kernel
theorem dX5_startAgain_18 : decode cX5_startAgain 18 = .ok (.invokestatic 60, 3) := by decide +kernel
theorem dX5_startAgain_21 : decode cX5_startAgain 21 = .ok (.aload_n 0, 1) := by decide +kernel
theorem dX5_startAgain_22 : decode cX5_startAgain 22 = .ok (.getfield 18, 3) := by decide +kernel
theorem dX5_startAgain_25 : decode cX5_startAgain 25 = .ok (.aload_n 1, 1) := by decide +kernel
theorem dX5_startAgain_26 : decode cX5_startAgain 26 = .ok (.getfield 66, 3) := by decide +kernel
theorem dX5_startAgain_29 : decode cX5_startAgain 29 = .ok (.aload_n 1, 1) := by decide +kernel
theorem dX5_startAgain_30 : decode cX5_startAgain 30 = .ok (.getfield 69, 3) := by decide +kernel
theorem dX5_startAgain_33 : decode cX5_startAgain 33 = .ok (.iastore, 1) := by decide +kernel
theorem dX5_startAgain_34 : decode cX5_startAgain 34 = .ok (.return_, 1) := by decide +kernel
theorem dX5_reached_0 : decode cX5_reached 0 = .ok (.aload_n 0, 1) := by decide +kernel
theorem dX5_reached_1 : decode cX5_reached 1 = .ok (.invokevirtual 72, 3) := by decide +kernel
theorem dX5_reached_4 : decode cX5_reached 4 = .ok (.pop, 1) := by decide +kernel
theorem dX5_reached_5 : decode cX5_reached 5 = .ok (.aload_n 0, 1) := by decide +kernel
theorem dX5_reached_6 : decode cX5_reached 6 = .ok (.iconst 1, 1) := by decide +kernel
theorem dX5_reached_7 : decode cX5_reached 7 = .ok (.invokevirtual 76, 3) := by decide +kernel
theorem dX5_reached_10 : decode cX5_reached 10 = .ok (.iconst 0, 1) := by decide +kernel
theorem dX5_reached_11 : decode cX5_reached 11 = .ok (.istore_n 1, 1) := by decide +kernel
theorem dX5_reached_12 : decode cX5_reached 12 = .ok (.iconst 0, 1) := by decide +kernel
theorem dX5_reached_13 : decode cX5_reached 13 = .ok (.istore_n 2, 1) := by decide +kernel
theorem dX5_reached_14 : decode cX5_reached 14 = .ok (.iload_n 2, 1) := by decide +kernel
theorem dX5_reached_15 : decode cX5_reached 15 = .ok (.bipush 8, 2) := by decide +kernel
theorem dX5_reached_17 : decode cX5_reached 17 = .ok (.if_icmp .ge 26, 3) := by decide +kernel
theorem dX5_reached_20 : decode cX5_reached 20 = .ok (.aload_n 0, 1) := by decide +kernel
theorem dX5_reached_21 : decode cX5_reached 21 = .ok (.getfield 18, 3) := by decide +kernel
theorem dX5_reached_24 : decode cX5_reached 24 = .ok (.iload_n 2, 1) := by decide +kernel
theorem dX5_reached_25 : decode cX5_reached 25 = .ok (.iaload, 1) := by decide +kernel
theorem dX5_reached_26 : decode cX5_reached 26 = .ok (.ldc 59, 2) := by decide +kernel
theorem dX5_reached_28 : decode cX5_reached 28 = .ok (.if_icmp .ge 9, 3) := by decide +kernel
theorem dX5_reached_31 : decode cX5_reached 31 = .ok (.iload_n 1, 1) := by decide +kernel
theorem dX5_reached_32 : decode cX5_reached 32 = .ok (.iconst 1, 1) := by decide +kernel
theorem dX5_reached_33 : decode cX5_reached 33 = .ok (.iload_n 2, 1) := by decide +kernel
theorem dX5_reached_34 : decode cX5_reached 34 = .ok (.ishl, 1) := by decide +kernel
theorem dX5_reached_35 : decode cX5_reached 35 = .ok (.ior, 1) := by decide +kernel
theorem dX5_reached_36 : decode cX5_reached 36 = .ok (.istore_n 1, 1) := by decide +kernel
theorem dX5_reached_37 : decode cX5_reached 37 = .ok (.iinc 2 1, 3) := by decide +kernel
theorem dX5_reached_40 : decode cX5_reached 40 = .ok (.goto (-26), 3) := by decide +kernel
theorem dX5_reached_43 : decode cX5_reached 43 = .ok (.iload_n 1, 1) := by decide +kernel
theorem dX5_reached_44 : decode cX5_reached 44 = .ok (.ireturn, 1) := by decide +kernel
theorem dX5_fewestDrinks_0 : decode cX5_fewestDrinks 0 = .ok (.aload_n 0, 1) := by decide +kernel
theorem dX5_fewestDrinks_1 : decode cX5_fewestDrinks 1 = .ok (.getfield 56, 3) := by decide +kernel
theorem dX5_fewestDrinks_4 : decode cX5_fewestDrinks 4 = .ok (.iload_n 1, 1) := by decide +kernel
theorem dX5_fewestDrinks_5 : decode cX5_fewestDrinks 5 = .ok (.invokestatic 80, 3) := by decide +kernel
theorem dX5_fewestDrinks_8 : decode cX5_fewestDrinks 8 = .ok (.ifCond .ne 5, 3) := by decide +kernel
theorem dX5_fewestDrinks_11 : decode cX5_fewestDrinks 11 = .ok (.iconst (-1), 1) := by decide +kernel
theorem dX5_fewestDrinks_12 : decode cX5_fewestDrinks 12 = .ok (.ireturn, 1) := by decide +kernel
theorem dX5_fewestDrinks_13 : decode cX5_fewestDrinks 13 = .ok (.iconst 1, 1) := by decide +kernel
theorem dX5_fewestDrinks_14 : decode cX5_fewestDrinks 14 = .ok (.istore_n 2, 1) := by decide +kernel
theorem dX5_fewestDrinks_15 : decode cX5_fewestDrinks 15 = .ok (.iconst 1, 1) := by decide +kernel
theorem dX5_fewestDrinks_16 : decode cX5_fewestDrinks 16 = .ok (.istore_n 3, 1) := by decide +kernel
theorem dX5_fewestDrinks_17 : decode cX5_fewestDrinks 17 = .ok (.iload_n 3, 1) := by decide +kernel
theorem dX5_fewestDrinks_18 : decode cX5_fewestDrinks 18 = .ok (.bipush 8, 2) := by decide +kernel
theorem dX5_fewestDrinks_20 : decode cX5_fewestDrinks 20 = .ok (.if_icmp .gt 36, 3) := by decide +kernel
theorem dX5_fewestDrinks_23 : decode cX5_fewestDrinks 23 = .ok (.iload_n 2, 1) := by decide +kernel
theorem dX5_fewestDrinks_24 : decode cX5_fewestDrinks 24 = .ok (.ifCond .eq 32, 3) := by decide +kernel
theorem dX5_fewestDrinks_27 : decode cX5_fewestDrinks 27 = .ok (.aload_n 0, 1) := by decide +kernel
theorem dX5_fewestDrinks_28 : decode cX5_fewestDrinks 28 = .ok (.iconst 0, 1) := by decide +kernel
theorem dX5_fewestDrinks_29 : decode cX5_fewestDrinks 29 = .ok (.invokevirtual 76, 3) := by decide +kernel
theorem dX5_fewestDrinks_32 : decode cX5_fewestDrinks 32 = .ok (.aload_n 0, 1) := by decide +kernel
theorem dX5_fewestDrinks_33 : decode cX5_fewestDrinks 33 = .ok (.getfield 18, 3) := by decide +kernel
theorem dX5_fewestDrinks_36 : decode cX5_fewestDrinks 36 = .ok (.iload_n 1, 1) := by decide +kernel
theorem dX5_fewestDrinks_37 : decode cX5_fewestDrinks 37 = .ok (.iaload, 1) := by decide +kernel
theorem dX5_fewestDrinks_38 : decode cX5_fewestDrinks 38 = .ok (.ldc 59, 2) := by decide +kernel
theorem dX5_fewestDrinks_40 : decode cX5_fewestDrinks 40 = .ok (.if_icmp .ge 5, 3) := by decide +kernel
theorem dX5_fewestDrinks_43 : decode cX5_fewestDrinks 43 = .ok (.iload_n 3, 1) := by decide +kernel
theorem dX5_fewestDrinks_44 : decode cX5_fewestDrinks 44 = .ok (.ireturn, 1) := by decide +kernel
theorem dX5_fewestDrinks_45 : decode cX5_fewestDrinks 45 = .ok (.aload_n 0, 1) := by decide +kernel
theorem dX5_fewestDrinks_46 : decode cX5_fewestDrinks 46 = .ok (.invokevirtual 72, 3) := by decide +kernel
theorem dX5_fewestDrinks_49 : decode cX5_fewestDrinks 49 = .ok (.istore_n 2, 1) := by decide +kernel
theorem dX5_fewestDrinks_50 : decode cX5_fewestDrinks 50 = .ok (.iinc 3 1, 3) := by decide +kernel
theorem dX5_fewestDrinks_53 : decode cX5_fewestDrinks 53 = .ok (.goto (-36), 3) := by decide +kernel
theorem dX5_fewestDrinks_56 : decode cX5_fewestDrinks 56 = .ok (.iconst (-1), 1) := by decide +kernel
theorem dX5_fewestDrinks_57 : decode cX5_fewestDrinks 57 = .ok (.ireturn, 1) := by decide +kernel
theorem dX5_soonestHours_0 : decode cX5_soonestHours 0 = .ok (.aload_n 0, 1) := by decide +kernel
theorem dX5_soonestHours_1 : decode cX5_soonestHours 1 = .ok (.invokevirtual 72, 3) := by decide +kernel
theorem dX5_soonestHours_4 : decode cX5_soonestHours 4 = .ok (.pop, 1) := by decide +kernel
theorem dX5_soonestHours_5 : decode cX5_soonestHours 5 = .ok (.aload_n 0, 1) := by decide +kernel
theorem dX5_soonestHours_6 : decode cX5_soonestHours 6 = .ok (.getfield 21, 3) := by decide +kernel
theorem dX5_soonestHours_9 : decode cX5_soonestHours 9 = .ok (.ldc 59, 2) := by decide +kernel
theorem dX5_soonestHours_11 : decode cX5_soonestHours 11 = .ok (.invokestatic 60, 3) := by decide +kernel
theorem dX5_soonestHours_14 : decode cX5_soonestHours 14 = .ok (.aload_n 0, 1) := by decide +kernel
theorem dX5_soonestHours_15 : decode cX5_soonestHours 15 = .ok (.getfield 18, 3) := by decide +kernel
theorem dX5_soonestHours_18 : decode cX5_soonestHours 18 = .ok (.iconst 0, 1) := by decide +kernel
theorem dX5_soonestHours_19 : decode cX5_soonestHours 19 = .ok (.aload_n 0, 1) := by decide +kernel
theorem dX5_soonestHours_20 : decode cX5_soonestHours 20 = .ok (.getfield 21, 3) := by decide +kernel
theorem dX5_soonestHours_23 : decode cX5_soonestHours 23 = .ok (.iconst 0, 1) := by decide +kernel
theorem dX5_soonestHours_24 : decode cX5_soonestHours 24 = .ok (.bipush 8, 2) := by decide +kernel
theorem dX5_soonestHours_26 : decode cX5_soonestHours 26 = .ok (.invokestatic 84, 3) := by decide +kernel
theorem dX5_soonestHours_29 : decode cX5_soonestHours 29 = .ok (.aload_n 0, 1) := by decide +kernel
theorem dX5_soonestHours_30 : decode cX5_soonestHours 30 = .ok (.invokevirtual 90, 3) := by decide +kernel
theorem dX5_soonestHours_33 : decode cX5_soonestHours 33 = .ok (.aload_n 0, 1) := by decide +kernel
theorem dX5_soonestHours_34 : decode cX5_soonestHours 34 = .ok (.getfield 56, 3) := by decide +kernel
theorem dX5_soonestHours_37 : decode cX5_soonestHours 37 = .ok (.iand, 1) := by decide +kernel
theorem dX5_soonestHours_38 : decode cX5_soonestHours 38 = .ok (.iload_n 1, 1) := by decide +kernel
theorem dX5_soonestHours_39 : decode cX5_soonestHours 39 = .ok (.invokestatic 80, 3) := by decide +kernel
theorem dX5_soonestHours_42 : decode cX5_soonestHours 42 = .ok (.ifCond .ne 5, 3) := by decide +kernel
theorem dX5_soonestHours_45 : decode cX5_soonestHours 45 = .ok (.iconst (-1), 1) := by decide +kernel
theorem dX5_soonestHours_46 : decode cX5_soonestHours 46 = .ok (.ireturn, 1) := by decide +kernel
theorem dX5_soonestHours_47 : decode cX5_soonestHours 47 = .ok (.iconst 0, 1) := by decide +kernel
theorem dX5_soonestHours_48 : decode cX5_soonestHours 48 = .ok (.istore_n 2, 1) := by decide +kernel
theorem dX5_soonestHours_49 : decode cX5_soonestHours 49 = .ok (.iload_n 2, 1) := by decide +kernel
theorem dX5_soonestHours_50 : decode cX5_soonestHours 50 = .ok (.sipush 1600, 3) := by decide +kernel
theorem dX5_soonestHours_53 : decode cX5_soonestHours 53 = .ok (.if_icmp .gt 39, 3) := by decide +kernel
theorem dX5_soonestHours_56 : decode cX5_soonestHours 56 = .ok (.iload_n 2, 1) := by decide +kernel
theorem dX5_soonestHours_57 : decode cX5_soonestHours 57 = .ok (.ifCond .le 8, 3) := by decide +kernel
theorem dX5_soonestHours_60 : decode cX5_soonestHours 60 = .ok (.aload_n 0, 1) := by decide +kernel
theorem dX5_soonestHours_61 : decode cX5_soonestHours 61 = .ok (.iload_n 2, 1) := by decide +kernel
theorem dX5_soonestHours_62 : decode cX5_soonestHours 62 = .ok (.invokevirtual 93, 3) := by decide +kernel
theorem dX5_soonestHours_65 : decode cX5_soonestHours 65 = .ok (.aload_n 0, 1) := by decide +kernel
theorem dX5_soonestHours_66 : decode cX5_soonestHours 66 = .ok (.getfield 21, 3) := by decide +kernel
theorem dX5_soonestHours_69 : decode cX5_soonestHours 69 = .ok (.iload_n 2, 1) := by decide +kernel
theorem dX5_soonestHours_70 : decode cX5_soonestHours 70 = .ok (.bipush 21, 2) := by decide +kernel
theorem dX5_soonestHours_72 : decode cX5_soonestHours 72 = .ok (.irem, 1) := by decide +kernel
theorem dX5_soonestHours_73 : decode cX5_soonestHours 73 = .ok (.bipush 8, 2) := by decide +kernel
theorem dX5_soonestHours_75 : decode cX5_soonestHours 75 = .ok (.imul, 1) := by decide +kernel
theorem dX5_soonestHours_76 : decode cX5_soonestHours 76 = .ok (.iload_n 1, 1) := by decide +kernel
theorem dX5_soonestHours_77 : decode cX5_soonestHours 77 = .ok (.iadd, 1) := by decide +kernel
theorem dX5_soonestHours_78 : decode cX5_soonestHours 78 = .ok (.iaload, 1) := by decide +kernel
theorem dX5_soonestHours_79 : decode cX5_soonestHours 79 = .ok (.ldc 59, 2) := by decide +kernel
theorem dX5_soonestHours_81 : decode cX5_soonestHours 81 = .ok (.if_icmp .ge 5, 3) := by decide +kernel
theorem dX5_soonestHours_84 : decode cX5_soonestHours 84 = .ok (.iload_n 2, 1) := by decide +kernel
theorem dX5_soonestHours_85 : decode cX5_soonestHours 85 = .ok (.ireturn, 1) := by decide +kernel
theorem dX5_soonestHours_86 : decode cX5_soonestHours 86 = .ok (.iinc 2 1, 3) := by decide +kernel
theorem dX5_soonestHours_89 : decode cX5_soonestHours 89 = .ok (.goto (-40), 3) := by decide +kernel
theorem dX5_soonestHours_92 : decode cX5_soonestHours 92 = .ok (.iconst (-1), 1) := by decide +kernel
theorem dX5_soonestHours_93 : decode cX5_soonestHours 93 = .ok (.ireturn, 1) := by decide +kernel
theorem dX5_shortestWay_0 : decode cX5_shortestWay 0 = .ok (.aload_n 0, 1) := by decide +kernel
theorem dX5_shortestWay_1 : decode cX5_shortestWay 1 = .ok (.aload_n 1, 1) := by decide +kernel
theorem dX5_shortestWay_2 : decode cX5_shortestWay 2 = .ok (.invokevirtual 24, 3) := by decide +kernel
theorem dX5_shortestWay_5 : decode cX5_shortestWay 5 = .ok (.aload_n 0, 1) := by decide +kernel
theorem dX5_shortestWay_6 : decode cX5_shortestWay 6 = .ok (.ldc 97, 2) := by decide +kernel
theorem dX5_shortestWay_8 : decode cX5_shortestWay 8 = .ok (.putfield 34, 3) := by decide +kernel
theorem dX5_shortestWay_11 : decode cX5_shortestWay 11 = .ok (.iconst 0, 1) := by decide +kernel
theorem dX5_shortestWay_12 : decode cX5_shortestWay 12 = .ok (.istore 4, 2) := by decide +kernel
theorem dX5_shortestWay_14 : decode cX5_shortestWay 14 = .ok (.iload 4, 2) := by decide +kernel
theorem dX5_shortestWay_16 : decode cX5_shortestWay 16 = .ok (.bipush 20, 2) := by decide +kernel
theorem dX5_shortestWay_18 : decode cX5_shortestWay 18 = .ok (.if_icmp .gt 18, 3) := by decide +kernel
theorem dX5_shortestWay_21 : decode cX5_shortestWay 21 = .ok (.aload_n 0, 1) := by decide +kernel
theorem dX5_shortestWay_22 : decode cX5_shortestWay 22 = .ok (.getfield 15, 3) := by decide +kernel
theorem dX5_shortestWay_25 : decode cX5_shortestWay 25 = .ok (.iload 4, 2) := by decide +kernel
theorem dX5_shortestWay_27 : decode cX5_shortestWay 27 = .ok (.iload 4, 2) := by decide +kernel
theorem dX5_shortestWay_29 : decode cX5_shortestWay 29 = .ok (.iastore, 1) := by decide +kernel
theorem dX5_shortestWay_30 : decode cX5_shortestWay 30 = .ok (.iinc 4 1, 3) := by decide +kernel
theorem dX5_shortestWay_33 : decode cX5_shortestWay 33 = .ok (.goto (-19), 3) := by decide +kernel
theorem dX5_shortestWay_36 : decode cX5_shortestWay 36 = .ok (.aload_n 0, 1) := by decide +kernel
theorem dX5_shortestWay_37 : decode cX5_shortestWay 37 = .ok (.getfield 18, 3) := by decide +kernel
theorem dX5_shortestWay_40 : decode cX5_shortestWay 40 = .ok (.ldc 59, 2) := by decide +kernel
theorem dX5_shortestWay_42 : decode cX5_shortestWay 42 = .ok (.invokestatic 60, 3) := by decide +kernel
theorem dX5_shortestWay_45 : decode cX5_shortestWay 45 = .ok (.aload_n 0, 1) := by decide +kernel
theorem dX5_shortestWay_46 : decode cX5_shortestWay 46 = .ok (.getfield 18, 3) := by decide +kernel
theorem dX5_shortestWay_49 : decode cX5_shortestWay 49 = .ok (.iload_n 2, 1) := by decide +kernel
theorem dX5_shortestWay_50 : decode cX5_shortestWay 50 = .ok (.iconst 0, 1) := by decide +kernel
theorem dX5_shortestWay_51 : decode cX5_shortestWay 51 = .ok (.iastore, 1) := by decide +kernel
theorem dX5_shortestWay_52 : decode cX5_shortestWay 52 = .ok (.aload_n 0, 1) := by decide +kernel
theorem dX5_shortestWay_53 : decode cX5_shortestWay 53 = .ok (.iconst 0, 1) := by decide +kernel
theorem dX5_shortestWay_54 : decode cX5_shortestWay 54 = .ok (.invokevirtual 76, 3) := by decide +kernel
theorem dX5_shortestWay_57 : decode cX5_shortestWay 57 = .ok (.aload_n 0, 1) := by decide +kernel
theorem dX5_shortestWay_58 : decode cX5_shortestWay 58 = .ok (.getfield 18, 3) := by decide +kernel
theorem dX5_shortestWay_61 : decode cX5_shortestWay 61 = .ok (.iload_n 3, 1) := by decide +kernel
theorem dX5_shortestWay_62 : decode cX5_shortestWay 62 = .ok (.iaload, 1) := by decide +kernel
theorem dX5_shortestWay_63 : decode cX5_shortestWay 63 = .ok (.ldc 59, 2) := by decide +kernel
theorem dX5_shortestWay_65 : decode cX5_shortestWay 65 = .ok (.if_icmp .ge 12, 3) := by decide +kernel
theorem dX5_shortestWay_68 : decode cX5_shortestWay 68 = .ok (.aload_n 0, 1) := by decide +kernel
theorem dX5_shortestWay_69 : decode cX5_shortestWay 69 = .ok (.getfield 18, 3) := by decide +kernel
theorem dX5_shortestWay_72 : decode cX5_shortestWay 72 = .ok (.iload_n 3, 1) := by decide +kernel
theorem dX5_shortestWay_73 : decode cX5_shortestWay 73 = .ok (.iaload, 1) := by decide +kernel
theorem dX5_shortestWay_74 : decode cX5_shortestWay 74 = .ok (.goto 4, 3) := by decide +kernel
theorem dX5_shortestWay_77 : decode cX5_shortestWay 77 = .ok (.iconst (-1), 1) := by decide +kernel
theorem dX5_shortestWay_78 : decode cX5_shortestWay 78 = .ok (.ireturn, 1) := by decide +kernel
theorem dX5_leastNet_0 : decode cX5_leastNet 0 = .ok (.aload_n 0, 1) := by decide +kernel
theorem dX5_leastNet_1 : decode cX5_leastNet 1 = .ok (.aload_n 1, 1) := by decide +kernel
theorem dX5_leastNet_2 : decode cX5_leastNet 2 = .ok (.invokevirtual 24, 3) := by decide +kernel
theorem dX5_leastNet_5 : decode cX5_leastNet 5 = .ok (.aload_n 0, 1) := by decide +kernel
theorem dX5_leastNet_6 : decode cX5_leastNet 6 = .ok (.getfield 18, 3) := by decide +kernel
theorem dX5_leastNet_9 : decode cX5_leastNet 9 = .ok (.ldc 59, 2) := by decide +kernel
theorem dX5_leastNet_11 : decode cX5_leastNet 11 = .ok (.invokestatic 60, 3) := by decide +kernel
theorem dX5_leastNet_14 : decode cX5_leastNet 14 = .ok (.aload_n 0, 1) := by decide +kernel
theorem dX5_leastNet_15 : decode cX5_leastNet 15 = .ok (.getfield 18, 3) := by decide +kernel
theorem dX5_leastNet_18 : decode cX5_leastNet 18 = .ok (.iconst 0, 1) := by decide +kernel
theorem dX5_leastNet_19 : decode cX5_leastNet 19 = .ok (.iconst 0, 1) := by decide +kernel
theorem dX5_leastNet_20 : decode cX5_leastNet 20 = .ok (.iastore, 1) := by decide +kernel
theorem dX5_leastNet_21 : decode cX5_leastNet 21 = .ok (.iconst 0, 1) := by decide +kernel
theorem dX5_leastNet_22 : decode cX5_leastNet 22 = .ok (.istore_n 2, 1) := by decide +kernel
theorem dX5_leastNet_23 : decode cX5_leastNet 23 = .ok (.iconst 0, 1) := by decide +kernel
theorem dX5_leastNet_24 : decode cX5_leastNet 24 = .ok (.istore_n 3, 1) := by decide +kernel
theorem dX5_leastNet_25 : decode cX5_leastNet 25 = .ok (.iconst 0, 1) := by decide +kernel
theorem dX5_leastNet_26 : decode cX5_leastNet 26 = .ok (.istore 4, 2) := by decide +kernel
theorem dX5_leastNet_28 : decode cX5_leastNet 28 = .ok (.iload 4, 2) := by decide +kernel
theorem dX5_leastNet_30 : decode cX5_leastNet 30 = .ok (.bipush 8, 2) := by decide +kernel
theorem dX5_leastNet_32 : decode cX5_leastNet 32 = .ok (.if_icmp .ge 95, 3) := by decide +kernel
theorem dX5_leastNet_35 : decode cX5_leastNet 35 = .ok (.aload_n 0, 1) := by decide +kernel
theorem dX5_leastNet_36 : decode cX5_leastNet 36 = .ok (.iload_n 2, 1) := by decide +kernel
theorem dX5_leastNet_37 : decode cX5_leastNet 37 = .ok (.invokevirtual 98, 3) := by decide +kernel
theorem dX5_leastNet_40 : decode cX5_leastNet 40 = .ok (.istore 5, 2) := by decide +kernel
theorem dX5_leastNet_42 : decode cX5_leastNet 42 = .ok (.iload 5, 2) := by decide +kernel
theorem dX5_leastNet_44 : decode cX5_leastNet 44 = .ok (.ifCond .ge 5, 3) := by decide +kernel
theorem dX5_leastNet_47 : decode cX5_leastNet 47 = .ok (.iconst (-1), 1) := by decide +kernel
theorem dX5_leastNet_48 : decode cX5_leastNet 48 = .ok (.ireturn, 1) := by decide +kernel
theorem dX5_leastNet_49 : decode cX5_leastNet 49 = .ok (.iload_n 2, 1) := by decide +kernel
theorem dX5_leastNet_50 : decode cX5_leastNet 50 = .ok (.iconst 1, 1) := by decide +kernel
theorem dX5_leastNet_51 : decode cX5_leastNet 51 = .ok (.iload 5, 2) := by decide +kernel
theorem dX5_leastNet_53 : decode cX5_leastNet 53 = .ok (.ishl, 1) := by decide +kernel
theorem dX5_leastNet_54 : decode cX5_leastNet 54 = .ok (.ior, 1) := by decide +kernel
theorem dX5_leastNet_55 : decode cX5_leastNet 55 = .ok (.istore_n 2, 1) := by decide +kernel
theorem dX5_leastNet_56 : decode cX5_leastNet 56 = .ok (.iload_n 3, 1) := by decide +kernel
theorem dX5_leastNet_57 : decode cX5_leastNet 57 = .ok (.aload_n 0, 1) := by decide +kernel
theorem dX5_leastNet_58 : decode cX5_leastNet 58 = .ok (.getfield 18, 3) := by decide +kernel
theorem dX5_leastNet_61 : decode cX5_leastNet 61 = .ok (.iload 5, 2) := by decide +kernel
theorem dX5_leastNet_63 : decode cX5_leastNet 63 = .ok (.iaload, 1) := by decide +kernel
theorem dX5_leastNet_64 : decode cX5_leastNet 64 = .ok (.iadd, 1) := by decide +kernel
theorem dX5_leastNet_65 : decode cX5_leastNet 65 = .ok (.istore_n 3, 1) := by decide +kernel
theorem dX5_leastNet_66 : decode cX5_leastNet 66 = .ok (.iconst 0, 1) := by decide +kernel
theorem dX5_leastNet_67 : decode cX5_leastNet 67 = .ok (.istore 6, 2) := by decide +kernel
theorem dX5_leastNet_69 : decode cX5_leastNet 69 = .ok (.iload 6, 2) := by decide +kernel
theorem dX5_leastNet_71 : decode cX5_leastNet 71 = .ok (.bipush 8, 2) := by decide +kernel
theorem dX5_leastNet_73 : decode cX5_leastNet 73 = .ok (.if_icmp .ge 48, 3) := by decide +kernel
theorem dX5_leastNet_76 : decode cX5_leastNet 76 = .ok (.aload_n 0, 1) := by decide +kernel
theorem dX5_leastNet_77 : decode cX5_leastNet 77 = .ok (.getfield 9, 3) := by decide +kernel
theorem dX5_leastNet_80 : decode cX5_leastNet 80 = .ok (.iload 5, 2) := by decide +kernel
theorem dX5_leastNet_82 : decode cX5_leastNet 82 = .ok (.bipush 8, 2) := by decide +kernel
theorem dX5_leastNet_84 : decode cX5_leastNet 84 = .ok (.imul, 1) := by decide +kernel
theorem dX5_leastNet_85 : decode cX5_leastNet 85 = .ok (.iload 6, 2) := by decide +kernel
theorem dX5_leastNet_87 : decode cX5_leastNet 87 = .ok (.iadd, 1) := by decide +kernel
theorem dX5_leastNet_88 : decode cX5_leastNet 88 = .ok (.iaload, 1) := by decide +kernel
theorem dX5_leastNet_89 : decode cX5_leastNet 89 = .ok (.istore 7, 2) := by decide +kernel
theorem dX5_leastNet_91 : decode cX5_leastNet 91 = .ok (.iload 7, 2) := by decide +kernel
theorem dX5_leastNet_93 : decode cX5_leastNet 93 = .ok (.ifCond .le 22, 3) := by decide +kernel
theorem dX5_leastNet_96 : decode cX5_leastNet 96 = .ok (.aload_n 0, 1) := by decide +kernel
theorem dX5_leastNet_97 : decode cX5_leastNet 97 = .ok (.getfield 18, 3) := by decide +kernel
theorem dX5_leastNet_100 : decode cX5_leastNet 100 = .ok (.iload 6, 2) := by decide +kernel
theorem dX5_leastNet_102 : decode cX5_leastNet 102 = .ok (.aload_n 0, 1) := by decide +kernel
theorem dX5_leastNet_103 : decode cX5_leastNet 103 = .ok (.getfield 18, 3) := by decide +kernel
theorem dX5_leastNet_106 : decode cX5_leastNet 106 = .ok (.iload 6, 2) := by decide +kernel
theorem dX5_leastNet_108 : decode cX5_leastNet 108 = .ok (.iaload, 1) := by decide +kernel
theorem dX5_leastNet_109 : decode cX5_leastNet 109 = .ok (.iload 7, 2) := by decide +kernel
theorem dX5_leastNet_111 : decode cX5_leastNet 111 = .ok (.invokestatic 102, 3) := by decide +kernel
theorem dX5_leastNet_114 : decode cX5_leastNet 114 = .ok (.iastore, 1) := by decide +kernel
theorem dX5_leastNet_115 : decode cX5_leastNet 115 = .ok (.iinc 6 1, 3) := by decide +kernel
theorem dX5_leastNet_118 : decode cX5_leastNet 118 = .ok (.goto (-49), 3) := by decide +kernel
theorem dX5_leastNet_121 : decode cX5_leastNet 121 = .ok (.iinc 4 1, 3) := by decide +kernel
theorem dX5_leastNet_124 : decode cX5_leastNet 124 = .ok (.goto (-96), 3) := by decide +kernel
theorem dX5_leastNet_127 : decode cX5_leastNet 127 = .ok (.iload_n 3, 1) := by decide +kernel
theorem dX5_leastNet_128 : decode cX5_leastNet 128 = .ok (.ireturn, 1) := by decide +kernel
theorem dX5_walkedHours_0 : decode cX5_walkedHours 0 = .ok (.iconst 0, 1) := by decide +kernel
theorem dX5_walkedHours_1 : decode cX5_walkedHours 1 = .ok (.istore_n 2, 1) := by decide +kernel
theorem dX5_walkedHours_2 : decode cX5_walkedHours 2 = .ok (.iconst 0, 1) := by decide +kernel
theorem dX5_walkedHours_3 : decode cX5_walkedHours 3 = .ok (.istore_n 3, 1) := by decide +kernel
theorem dX5_walkedHours_4 : decode cX5_walkedHours 4 = .ok (.iload_n 3, 1) := by decide +kernel
theorem dX5_walkedHours_5 : decode cX5_walkedHours 5 = .ok (.aload_n 1, 1) := by decide +kernel
theorem dX5_walkedHours_6 : decode cX5_walkedHours 6 = .ok (.getfield 108, 3) := by decide +kernel
theorem dX5_walkedHours_9 : decode cX5_walkedHours 9 = .ok (.if_icmp .ge 83, 3) := by decide +kernel
theorem dX5_walkedHours_12 : decode cX5_walkedHours 12 = .ok (.aload_n 1, 1) := by decide +kernel
theorem dX5_walkedHours_13 : decode cX5_walkedHours 13 = .ok (.getfield 113, 3) := by decide +kernel
theorem dX5_walkedHours_16 : decode cX5_walkedHours 16 = .ok (.iload_n 3, 1) := by decide +kernel
theorem dX5_walkedHours_17 : decode cX5_walkedHours 17 = .ok (.iaload, 1) := by decide +kernel
theorem dX5_walkedHours_18 : decode cX5_walkedHours 18 = .ok (.istore 4, 2) := by decide +kernel
theorem dX5_walkedHours_20 : decode cX5_walkedHours 20 = .ok (.aload_n 1, 1) := by decide +kernel
theorem dX5_walkedHours_21 : decode cX5_walkedHours 21 = .ok (.getfield 113, 3) := by decide +kernel
theorem dX5_walkedHours_24 : decode cX5_walkedHours 24 = .ok (.iconst 0, 1) := by decide +kernel
theorem dX5_walkedHours_25 : decode cX5_walkedHours 25 = .ok (.iload_n 3, 1) := by decide +kernel
theorem dX5_walkedHours_26 : decode cX5_walkedHours 26 = .ok (.iconst 1, 1) := by decide +kernel
theorem dX5_walkedHours_27 : decode cX5_walkedHours 27 = .ok (.isub, 1) := by decide +kernel
theorem dX5_walkedHours_28 : decode cX5_walkedHours 28 = .ok (.invokestatic 116, 3) := by decide +kernel
theorem dX5_walkedHours_31 : decode cX5_walkedHours 31 = .ok (.iaload, 1) := by decide +kernel
theorem dX5_walkedHours_32 : decode cX5_walkedHours 32 = .ok (.istore 5, 2) := by decide +kernel
theorem dX5_walkedHours_34 : decode cX5_walkedHours 34 = .ok (.iload 4, 2) := by decide +kernel
theorem dX5_walkedHours_36 : decode cX5_walkedHours 36 = .ok (.invokestatic 119, 3) := by decide +kernel
theorem dX5_walkedHours_39 : decode cX5_walkedHours 39 = .ok (.ifCond .eq 11, 3) := by decide +kernel
theorem dX5_walkedHours_42 : decode cX5_walkedHours 42 = .ok (.iload 5, 2) := by decide +kernel
theorem dX5_walkedHours_44 : decode cX5_walkedHours 44 = .ok (.invokestatic 119, 3) := by decide +kernel
theorem dX5_walkedHours_47 : decode cX5_walkedHours 47 = .ok (.ifCond .ne 5, 3) := by decide +kernel
theorem dX5_walkedHours_50 : decode cX5_walkedHours 50 = .ok (.iconst (-1), 1) := by decide +kernel
theorem dX5_walkedHours_51 : decode cX5_walkedHours 51 = .ok (.ireturn, 1) := by decide +kernel
theorem dX5_walkedHours_52 : decode cX5_walkedHours 52 = .ok (.aload_n 0, 1) := by decide +kernel
theorem dX5_walkedHours_53 : decode cX5_walkedHours 53 = .ok (.getfield 123, 3) := by decide +kernel
theorem dX5_walkedHours_56 : decode cX5_walkedHours 56 = .ok (.iload 5, 2) := by decide +kernel
theorem dX5_walkedHours_58 : decode cX5_walkedHours 58 = .ok (.bipush 8, 2) := by decide +kernel
theorem dX5_walkedHours_60 : decode cX5_walkedHours 60 = .ok (.imul, 1) := by decide +kernel
theorem dX5_walkedHours_61 : decode cX5_walkedHours 61 = .ok (.iload 4, 2) := by decide +kernel
theorem dX5_walkedHours_63 : decode cX5_walkedHours 63 = .ok (.iadd, 1) := by decide +kernel
theorem dX5_walkedHours_64 : decode cX5_walkedHours 64 = .ok (.iaload, 1) := by decide +kernel
theorem dX5_walkedHours_65 : decode cX5_walkedHours 65 = .ok (.istore 6, 2) := by decide +kernel
theorem dX5_walkedHours_67 : decode cX5_walkedHours 67 = .ok (.iload 4, 2) := by decide +kernel
theorem dX5_walkedHours_69 : decode cX5_walkedHours 69 = .ok (.iload 5, 2) := by decide +kernel
theorem dX5_walkedHours_71 : decode cX5_walkedHours 71 = .ok (.if_icmp .eq 10, 3) := by decide +kernel
theorem dX5_walkedHours_74 : decode cX5_walkedHours 74 = .ok (.iload 6, 2) := by decide +kernel
theorem dX5_walkedHours_76 : decode cX5_walkedHours 76 = .ok (.ifCond .ne 5, 3) := by decide +kernel
theorem dX5_walkedHours_79 : decode cX5_walkedHours 79 = .ok (.iconst (-1), 1) := by decide +kernel
theorem dX5_walkedHours_80 : decode cX5_walkedHours 80 = .ok (.ireturn, 1) := by decide +kernel
theorem dX5_walkedHours_81 : decode cX5_walkedHours 81 = .ok (.iload_n 2, 1) := by decide +kernel
theorem dX5_walkedHours_82 : decode cX5_walkedHours 82 = .ok (.iload 6, 2) := by decide +kernel
theorem dX5_walkedHours_84 : decode cX5_walkedHours 84 = .ok (.iadd, 1) := by decide +kernel
theorem dX5_walkedHours_85 : decode cX5_walkedHours 85 = .ok (.istore_n 2, 1) := by decide +kernel
theorem dX5_walkedHours_86 : decode cX5_walkedHours 86 = .ok (.iinc 3 1, 3) := by decide +kernel
theorem dX5_walkedHours_89 : decode cX5_walkedHours 89 = .ok (.goto (-85), 3) := by decide +kernel
theorem dX5_walkedHours_92 : decode cX5_walkedHours 92 = .ok (.aload_n 1, 1) := by decide +kernel
theorem dX5_walkedHours_93 : decode cX5_walkedHours 93 = .ok (.getfield 108, 3) := by decide +kernel
theorem dX5_walkedHours_96 : decode cX5_walkedHours 96 = .ok (.ifCond .ne 7, 3) := by decide +kernel
theorem dX5_walkedHours_99 : decode cX5_walkedHours 99 = .ok (.iconst (-1), 1) := by decide +kernel
theorem dX5_walkedHours_100 : decode cX5_walkedHours 100 = .ok (.goto 4, 3) := by decide +kernel
theorem dX5_walkedHours_103 : decode cX5_walkedHours 103 = .ok (.iload_n 2, 1) := by decide +kernel
theorem dX5_walkedHours_104 : decode cX5_walkedHours 104 = .ok (.ireturn, 1) := by decide +kernel
theorem dX5_comesAlive_0 : decode cX5_comesAlive 0 = .ok (.iconst 0, 1) := by decide +kernel
theorem dX5_comesAlive_1 : decode cX5_comesAlive 1 = .ok (.istore 4, 2) := by decide +kernel
theorem dX5_comesAlive_3 : decode cX5_comesAlive 3 = .ok (.aload_n 2, 1) := by decide +kernel
theorem dX5_comesAlive_4 : decode cX5_comesAlive 4 = .ok (.invokevirtual 28, 3) := by decide +kernel
theorem dX5_comesAlive_7 : decode cX5_comesAlive 7 = .ok (.istore 5, 2) := by decide +kernel
theorem dX5_comesAlive_9 : decode cX5_comesAlive 9 = .ok (.iconst 1, 1) := by decide +kernel
theorem dX5_comesAlive_10 : decode cX5_comesAlive 10 = .ok (.istore 6, 2) := by decide +kernel
theorem dX5_comesAlive_12 : decode cX5_comesAlive 12 = .ok (.iload 6, 2) := by decide +kernel
theorem dX5_comesAlive_14 : decode cX5_comesAlive 14 = .ok (.aload_n 1, 1) := by decide +kernel
theorem dX5_comesAlive_15 : decode cX5_comesAlive 15 = .ok (.getfield 108, 3) := by decide +kernel
theorem dX5_comesAlive_18 : decode cX5_comesAlive 18 = .ok (.if_icmp .ge 96, 3) := by decide +kernel
theorem dX5_comesAlive_21 : decode cX5_comesAlive 21 = .ok (.aload_n 1, 1) := by decide +kernel
theorem dX5_comesAlive_22 : decode cX5_comesAlive 22 = .ok (.getfield 113, 3) := by decide +kernel
theorem dX5_comesAlive_25 : decode cX5_comesAlive 25 = .ok (.iload 6, 2) := by decide +kernel
theorem dX5_comesAlive_27 : decode cX5_comesAlive 27 = .ok (.iaload, 1) := by decide +kernel
theorem dX5_comesAlive_28 : decode cX5_comesAlive 28 = .ok (.istore 7, 2) := by decide +kernel
theorem dX5_comesAlive_30 : decode cX5_comesAlive 30 = .ok (.aload_n 1, 1) := by decide +kernel
theorem dX5_comesAlive_31 : decode cX5_comesAlive 31 = .ok (.getfield 113, 3) := by decide +kernel
theorem dX5_comesAlive_34 : decode cX5_comesAlive 34 = .ok (.iload 6, 2) := by decide +kernel
theorem dX5_comesAlive_36 : decode cX5_comesAlive 36 = .ok (.iconst 1, 1) := by decide +kernel
theorem dX5_comesAlive_37 : decode cX5_comesAlive 37 = .ok (.isub, 1) := by decide +kernel
theorem dX5_comesAlive_38 : decode cX5_comesAlive 38 = .ok (.iaload, 1) := by decide +kernel
theorem dX5_comesAlive_39 : decode cX5_comesAlive 39 = .ok (.istore 8, 2) := by decide +kernel
theorem dX5_comesAlive_41 : decode cX5_comesAlive 41 = .ok (.iload 7, 2) := by decide +kernel
theorem dX5_comesAlive_43 : decode cX5_comesAlive 43 = .ok (.invokestatic 119, 3) := by decide +kernel
theorem dX5_comesAlive_46 : decode cX5_comesAlive 46 = .ok (.ifCond .eq 41, 3) := by decide +kernel
theorem dX5_comesAlive_49 : decode cX5_comesAlive 49 = .ok (.iload 8, 2) := by decide +kernel
theorem dX5_comesAlive_51 : decode cX5_comesAlive 51 = .ok (.invokestatic 119, 3) := by decide +kernel
theorem dX5_comesAlive_54 : decode cX5_comesAlive 54 = .ok (.ifCond .eq 33, 3) := by decide +kernel
theorem dX5_comesAlive_57 : decode cX5_comesAlive 57 = .ok (.iload 7, 2) := by decide +kernel
theorem dX5_comesAlive_59 : decode cX5_comesAlive 59 = .ok (.iload 8, 2) := by decide +kernel
theorem dX5_comesAlive_61 : decode cX5_comesAlive 61 = .ok (.if_icmp .eq 26, 3) := by decide +kernel
theorem dX5_comesAlive_64 : decode cX5_comesAlive 64 = .ok (.iload 4, 2) := by decide +kernel
theorem dX5_comesAlive_66 : decode cX5_comesAlive 66 = .ok (.aload_n 0, 1) := by decide +kernel
theorem dX5_comesAlive_67 : decode cX5_comesAlive 67 = .ok (.aload_n 2, 1) := by decide +kernel
theorem dX5_comesAlive_68 : decode cX5_comesAlive 68 = .ok (.aload_n 0, 1) := by decide +kernel
theorem dX5_comesAlive_69 : decode cX5_comesAlive 69 = .ok (.getfield 123, 3) := by decide +kernel
theorem dX5_comesAlive_72 : decode cX5_comesAlive 72 = .ok (.iload 8, 2) := by decide +kernel
theorem dX5_comesAlive_74 : decode cX5_comesAlive 74 = .ok (.bipush 8, 2) := by decide +kernel
theorem dX5_comesAlive_76 : decode cX5_comesAlive 76 = .ok (.imul, 1) := by decide +kernel
theorem dX5_comesAlive_77 : decode cX5_comesAlive 77 = .ok (.iload 7, 2) := by decide +kernel
theorem dX5_comesAlive_79 : decode cX5_comesAlive 79 = .ok (.iadd, 1) := by decide +kernel
theorem dX5_comesAlive_80 : decode cX5_comesAlive 80 = .ok (.iaload, 1) := by decide +kernel
theorem dX5_comesAlive_81 : decode cX5_comesAlive 81 = .ok (.invokevirtual 37, 3) := by decide +kernel
theorem dX5_comesAlive_84 : decode cX5_comesAlive 84 = .ok (.iadd, 1) := by decide +kernel
theorem dX5_comesAlive_85 : decode cX5_comesAlive 85 = .ok (.istore 4, 2) := by decide +kernel
theorem dX5_comesAlive_87 : decode cX5_comesAlive 87 = .ok (.iload 4, 2) := by decide +kernel
theorem dX5_comesAlive_89 : decode cX5_comesAlive 89 = .ok (.iload 5, 2) := by decide +kernel
theorem dX5_comesAlive_91 : decode cX5_comesAlive 91 = .ok (.if_icmp .le 5, 3) := by decide +kernel
theorem dX5_comesAlive_94 : decode cX5_comesAlive 94 = .ok (.iconst 0, 1) := by decide +kernel
theorem dX5_comesAlive_95 : decode cX5_comesAlive 95 = .ok (.ireturn, 1) := by decide +kernel
theorem dX5_comesAlive_96 : decode cX5_comesAlive 96 = .ok (.iload_n 3, 1) := by decide +kernel
theorem dX5_comesAlive_97 : decode cX5_comesAlive 97 = .ok (.iload 7, 2) := by decide +kernel
theorem dX5_comesAlive_99 : decode cX5_comesAlive 99 = .ok (.invokestatic 80, 3) := by decide +kernel
theorem dX5_comesAlive_102 : decode cX5_comesAlive 102 = .ok (.ifCond .eq 6, 3) := by decide +kernel
theorem dX5_comesAlive_105 : decode cX5_comesAlive 105 = .ok (.iconst 0, 1) := by decide +kernel
theorem dX5_comesAlive_106 : decode cX5_comesAlive 106 = .ok (.istore 4, 2) := by decide +kernel
theorem dX5_comesAlive_108 : decode cX5_comesAlive 108 = .ok (.iinc 6 1, 3) := by decide +kernel
theorem dX5_comesAlive_111 : decode cX5_comesAlive 111 = .ok (.goto (-99), 3) := by decide +kernel
theorem dX5_comesAlive_114 : decode cX5_comesAlive 114 = .ok (.iconst 1, 1) := by decide +kernel
theorem dX5_comesAlive_115 : decode cX5_comesAlive 115 = .ok (.ireturn, 1) := by decide +kernel
theorem dX5_lookAtRoads_0 : decode cX5_lookAtRoads 0 = .ok (.aload_n 1, 1) := by decide +kernel
theorem dX5_lookAtRoads_1 : decode cX5_lookAtRoads 1 = .ok (.getfield 123, 3) := by decide +kernel
theorem dX5_lookAtRoads_4 : decode cX5_lookAtRoads 4 = .ok (.iconst 0, 1) := by decide +kernel
theorem dX5_lookAtRoads_5 : decode cX5_lookAtRoads 5 = .ok (.aload_n 0, 1) := by decide +kernel
theorem dX5_lookAtRoads_6 : decode cX5_lookAtRoads 6 = .ok (.getfield 9, 3) := by decide +kernel
theorem dX5_lookAtRoads_9 : decode cX5_lookAtRoads 9 = .ok (.iconst 0, 1) := by decide +kernel
theorem dX5_lookAtRoads_10 : decode cX5_lookAtRoads 10 = .ok (.bipush 64, 2) := by decide +kernel
theorem dX5_lookAtRoads_12 : decode cX5_lookAtRoads 12 = .ok (.invokestatic 84, 3) := by decide +kernel
theorem dX5_lookAtRoads_15 : decode cX5_lookAtRoads 15 = .ok (.return_, 1) := by decide +kernel
theorem dX5_drinkWherePossible_0 : decode cX5_drinkWherePossible 0 = .ok (.iconst 0, 1) := by decide +kernel
theorem dX5_drinkWherePossible_1 : decode cX5_drinkWherePossible 1 = .ok (.istore_n 1, 1) := by decide +kernel
theorem dX5_drinkWherePossible_2 : decode cX5_drinkWherePossible 2 = .ok (.iconst 0, 1) := by decide +kernel
theorem dX5_drinkWherePossible_3 : decode cX5_drinkWherePossible 3 = .ok (.istore_n 2, 1) := by decide +kernel
theorem dX5_drinkWherePossible_4 : decode cX5_drinkWherePossible 4 = .ok (.iload_n 2, 1) := by decide +kernel
theorem dX5_drinkWherePossible_5 : decode cX5_drinkWherePossible 5 = .ok (.bipush 8, 2) := by decide +kernel
theorem dX5_drinkWherePossible_7 : decode cX5_drinkWherePossible 7 = .ok (.if_icmp .ge 49, 3) := by decide +kernel
theorem dX5_drinkWherePossible_10 : decode cX5_drinkWherePossible 10 = .ok (.aload_n 0, 1) := by decide +kernel
theorem dX5_drinkWherePossible_11 : decode cX5_drinkWherePossible 11 = .ok (.getfield 56, 3) := by decide +kernel
theorem dX5_drinkWherePossible_14 : decode cX5_drinkWherePossible 14 = .ok (.iload_n 2, 1) := by decide +kernel
theorem dX5_drinkWherePossible_15 : decode cX5_drinkWherePossible 15 = .ok (.invokestatic 80, 3) := by decide +kernel
theorem dX5_drinkWherePossible_18 : decode cX5_drinkWherePossible 18 = .ok (.ifCond .eq 32, 3) := by decide +kernel
theorem dX5_drinkWherePossible_21 : decode cX5_drinkWherePossible 21 = .ok (.aload_n 0, 1) := by decide +kernel
theorem dX5_drinkWherePossible_22 : decode cX5_drinkWherePossible 22 = .ok (.getfield 18, 3) := by decide +kernel
theorem dX5_drinkWherePossible_25 : decode cX5_drinkWherePossible 25 = .ok (.iload_n 2, 1) := by decide +kernel
theorem dX5_drinkWherePossible_26 : decode cX5_drinkWherePossible 26 = .ok (.iaload, 1) := by decide +kernel
theorem dX5_drinkWherePossible_27 : decode cX5_drinkWherePossible 27 = .ok (.ifCond .le 23, 3) := by decide +kernel
theorem dX5_drinkWherePossible_30 : decode cX5_drinkWherePossible 30 = .ok (.aload_n 0, 1) := by decide +kernel
theorem dX5_drinkWherePossible_31 : decode cX5_drinkWherePossible 31 = .ok (.getfield 18, 3) := by decide +kernel
theorem dX5_drinkWherePossible_34 : decode cX5_drinkWherePossible 34 = .ok (.iload_n 2, 1) := by decide +kernel
theorem dX5_drinkWherePossible_35 : decode cX5_drinkWherePossible 35 = .ok (.iaload, 1) := by decide +kernel
theorem dX5_drinkWherePossible_36 : decode cX5_drinkWherePossible 36 = .ok (.ldc 59, 2) := by decide +kernel
theorem dX5_drinkWherePossible_38 : decode cX5_drinkWherePossible 38 = .ok (.if_icmp .ge 12, 3) := by decide +kernel
theorem dX5_drinkWherePossible_41 : decode cX5_drinkWherePossible 41 = .ok (.aload_n 0, 1) := by decide +kernel
theorem dX5_drinkWherePossible_42 : decode cX5_drinkWherePossible 42 = .ok (.getfield 18, 3) := by decide +kernel
theorem dX5_drinkWherePossible_45 : decode cX5_drinkWherePossible 45 = .ok (.iload_n 2, 1) := by decide +kernel
theorem dX5_drinkWherePossible_46 : decode cX5_drinkWherePossible 46 = .ok (.iconst 0, 1) := by decide +kernel
theorem dX5_drinkWherePossible_47 : decode cX5_drinkWherePossible 47 = .ok (.iastore, 1) := by decide +kernel
theorem dX5_drinkWherePossible_48 : decode cX5_drinkWherePossible 48 = .ok (.iconst 1, 1) := by decide +kernel
theorem dX5_drinkWherePossible_49 : decode cX5_drinkWherePossible 49 = .ok (.istore_n 1, 1) := by decide +kernel
theorem dX5_drinkWherePossible_50 : decode cX5_drinkWherePossible 50 = .ok (.iinc 2 1, 3) := by decide +kernel
theorem dX5_drinkWherePossible_53 : decode cX5_drinkWherePossible 53 = .ok (.goto (-49), 3) := by decide +kernel
theorem dX5_drinkWherePossible_56 : decode cX5_drinkWherePossible 56 = .ok (.iload_n 1, 1) := by decide +kernel
theorem dX5_drinkWherePossible_57 : decode cX5_drinkWherePossible 57 = .ok (.ireturn, 1) := by decide +kernel
theorem dX5_spread_0 : decode cX5_spread 0 = .ok (.iconst 1, 1) := by decide +kernel
theorem dX5_spread_1 : decode cX5_spread 1 = .ok (.istore_n 2, 1) := by decide +kernel
theorem dX5_spread_2 : decode cX5_spread 2 = .ok (.iconst 0, 1) := by decide +kernel
theorem dX5_spread_3 : decode cX5_spread 3 = .ok (.istore_n 3, 1) := by decide +kernel
theorem dX5_spread_4 : decode cX5_spread 4 = .ok (.iload_n 3, 1) := by decide +kernel
theorem dX5_spread_5 : decode cX5_spread 5 = .ok (.sipush 1000, 3) := by decide +kernel
theorem dX5_spread_8 : decode cX5_spread 8 = .ok (.if_icmp .ge 55, 3) := by decide +kernel
theorem dX5_spread_11 : decode cX5_spread 11 = .ok (.iload_n 2, 1) := by decide +kernel
theorem dX5_spread_12 : decode cX5_spread 12 = .ok (.ifCond .eq 51, 3) := by decide +kernel
theorem dX5_spread_15 : decode cX5_spread 15 = .ok (.iconst 0, 1) := by decide +kernel
theorem dX5_spread_16 : decode cX5_spread 16 = .ok (.istore_n 2, 1) := by decide +kernel
theorem dX5_spread_17 : decode cX5_spread 17 = .ok (.iconst 0, 1) := by decide +kernel
theorem dX5_spread_18 : decode cX5_spread 18 = .ok (.istore 4, 2) := by decide +kernel
theorem dX5_spread_20 : decode cX5_spread 20 = .ok (.iload 4, 2) := by decide +kernel
theorem dX5_spread_22 : decode cX5_spread 22 = .ok (.bipush 8, 2) := by decide +kernel
theorem dX5_spread_24 : decode cX5_spread 24 = .ok (.if_icmp .ge 33, 3) := by decide +kernel
theorem dX5_spread_27 : decode cX5_spread 27 = .ok (.aload_n 0, 1) := by decide +kernel
theorem dX5_spread_28 : decode cX5_spread 28 = .ok (.getfield 18, 3) := by decide +kernel
theorem dX5_spread_31 : decode cX5_spread 31 = .ok (.iload 4, 2) := by decide +kernel
theorem dX5_spread_33 : decode cX5_spread 33 = .ok (.iaload, 1) := by decide +kernel
theorem dX5_spread_34 : decode cX5_spread 34 = .ok (.ldc 59, 2) := by decide +kernel
theorem dX5_spread_36 : decode cX5_spread 36 = .ok (.if_icmp .ge 15, 3) := by decide +kernel
theorem dX5_spread_39 : decode cX5_spread 39 = .ok (.aload_n 0, 1) := by decide +kernel
theorem dX5_spread_40 : decode cX5_spread 40 = .ok (.iload 4, 2) := by decide +kernel
theorem dX5_spread_42 : decode cX5_spread 42 = .ok (.iload_n 1, 1) := by decide +kernel
theorem dX5_spread_43 : decode cX5_spread 43 = .ok (.invokevirtual 124, 3) := by decide +kernel
theorem dX5_spread_46 : decode cX5_spread 46 = .ok (.ifCond .eq 5, 3) := by decide +kernel
theorem dX5_spread_49 : decode cX5_spread 49 = .ok (.iconst 1, 1) := by decide +kernel
theorem dX5_spread_50 : decode cX5_spread 50 = .ok (.istore_n 2, 1) := by decide +kernel
theorem dX5_spread_51 : decode cX5_spread 51 = .ok (.iinc 4 1, 3) := by decide +kernel
theorem dX5_spread_54 : decode cX5_spread 54 = .ok (.goto (-34), 3) := by decide +kernel
theorem dX5_spread_57 : decode cX5_spread 57 = .ok (.iinc 3 1, 3) := by decide +kernel
theorem dX5_spread_60 : decode cX5_spread 60 = .ok (.goto (-56), 3) := by decide +kernel
theorem dX5_spread_63 : decode cX5_spread 63 = .ok (.return_, 1) := by decide +kernel
theorem dX5_spreadFrom_0 : decode cX5_spreadFrom 0 = .ok (.iconst 0, 1) := by decide +kernel
theorem dX5_spreadFrom_1 : decode cX5_spreadFrom 1 = .ok (.istore_n 3, 1) := by decide +kernel
theorem dX5_spreadFrom_2 : decode cX5_spreadFrom 2 = .ok (.iconst 0, 1) := by decide +kernel
theorem dX5_spreadFrom_3 : decode cX5_spreadFrom 3 = .ok (.istore 4, 2) := by decide +kernel
theorem dX5_spreadFrom_5 : decode cX5_spreadFrom 5 = .ok (.iload 4, 2) := by decide +kernel
theorem dX5_spreadFrom_7 : decode cX5_spreadFrom 7 = .ok (.bipush 8, 2) := by decide +kernel
theorem dX5_spreadFrom_9 : decode cX5_spreadFrom 9 = .ok (.if_icmp .ge 100, 3) := by decide +kernel
theorem dX5_spreadFrom_12 : decode cX5_spreadFrom 12 = .ok (.aload_n 0, 1) := by decide +kernel
theorem dX5_spreadFrom_13 : decode cX5_spreadFrom 13 = .ok (.getfield 9, 3) := by decide +kernel
theorem dX5_spreadFrom_16 : decode cX5_spreadFrom 16 = .ok (.iload_n 1, 1) := by decide +kernel
theorem dX5_spreadFrom_17 : decode cX5_spreadFrom 17 = .ok (.bipush 8, 2) := by decide +kernel
theorem dX5_spreadFrom_19 : decode cX5_spreadFrom 19 = .ok (.imul, 1) := by decide +kernel
theorem dX5_spreadFrom_20 : decode cX5_spreadFrom 20 = .ok (.iload 4, 2) := by decide +kernel
theorem dX5_spreadFrom_22 : decode cX5_spreadFrom 22 = .ok (.iadd, 1) := by decide +kernel
theorem dX5_spreadFrom_23 : decode cX5_spreadFrom 23 = .ok (.iaload, 1) := by decide +kernel
theorem dX5_spreadFrom_24 : decode cX5_spreadFrom 24 = .ok (.istore 5, 2) := by decide +kernel
theorem dX5_spreadFrom_26 : decode cX5_spreadFrom 26 = .ok (.aload_n 0, 1) := by decide +kernel
theorem dX5_spreadFrom_27 : decode cX5_spreadFrom 27 = .ok (.getfield 18, 3) := by decide +kernel
theorem dX5_spreadFrom_30 : decode cX5_spreadFrom 30 = .ok (.iload_n 1, 1) := by decide +kernel
theorem dX5_spreadFrom_31 : decode cX5_spreadFrom 31 = .ok (.iaload, 1) := by decide +kernel
theorem dX5_spreadFrom_32 : decode cX5_spreadFrom 32 = .ok (.aload_n 0, 1) := by decide +kernel
theorem dX5_spreadFrom_33 : decode cX5_spreadFrom 33 = .ok (.getfield 15, 3) := by decide +kernel
theorem dX5_spreadFrom_36 : decode cX5_spreadFrom 36 = .ok (.iload 5, 2) := by decide +kernel
theorem dX5_spreadFrom_38 : decode cX5_spreadFrom 38 = .ok (.iaload, 1) := by decide +kernel
theorem dX5_spreadFrom_39 : decode cX5_spreadFrom 39 = .ok (.iadd, 1) := by decide +kernel
theorem dX5_spreadFrom_40 : decode cX5_spreadFrom 40 = .ok (.istore 6, 2) := by decide +kernel
theorem dX5_spreadFrom_42 : decode cX5_spreadFrom 42 = .ok (.iload 5, 2) := by decide +kernel
theorem dX5_spreadFrom_44 : decode cX5_spreadFrom 44 = .ok (.ifCond .le 59, 3) := by decide +kernel
theorem dX5_spreadFrom_47 : decode cX5_spreadFrom 47 = .ok (.iload 6, 2) := by decide +kernel
theorem dX5_spreadFrom_49 : decode cX5_spreadFrom 49 = .ok (.aload_n 0, 1) := by decide +kernel
theorem dX5_spreadFrom_50 : decode cX5_spreadFrom 50 = .ok (.getfield 34, 3) := by decide +kernel
theorem dX5_spreadFrom_53 : decode cX5_spreadFrom 53 = .ok (.if_icmp .gt 50, 3) := by decide +kernel
theorem dX5_spreadFrom_56 : decode cX5_spreadFrom 56 = .ok (.iload_n 2, 1) := by decide +kernel
theorem dX5_spreadFrom_57 : decode cX5_spreadFrom 57 = .ok (.ifCond .eq 19, 3) := by decide +kernel
theorem dX5_spreadFrom_60 : decode cX5_spreadFrom 60 = .ok (.aload_n 0, 1) := by decide +kernel
theorem dX5_spreadFrom_61 : decode cX5_spreadFrom 61 = .ok (.getfield 56, 3) := by decide +kernel
theorem dX5_spreadFrom_64 : decode cX5_spreadFrom 64 = .ok (.iload 4, 2) := by decide +kernel
theorem dX5_spreadFrom_66 : decode cX5_spreadFrom 66 = .ok (.invokestatic 80, 3) := by decide +kernel
theorem dX5_spreadFrom_69 : decode cX5_spreadFrom 69 = .ok (.ifCond .eq 7, 3) := by decide +kernel
theorem dX5_spreadFrom_72 : decode cX5_spreadFrom 72 = .ok (.iconst 0, 1) := by decide +kernel
theorem dX5_spreadFrom_73 : decode cX5_spreadFrom 73 = .ok (.goto 5, 3) := by decide +kernel
theorem dX5_spreadFrom_76 : decode cX5_spreadFrom 76 = .ok (.iload 6, 2) := by decide +kernel
theorem dX5_spreadFrom_78 : decode cX5_spreadFrom 78 = .ok (.istore 7, 2) := by decide +kernel
theorem dX5_spreadFrom_80 : decode cX5_spreadFrom 80 = .ok (.iload 7, 2) := by decide +kernel
theorem dX5_spreadFrom_82 : decode cX5_spreadFrom 82 = .ok (.aload_n 0, 1) := by decide +kernel
theorem dX5_spreadFrom_83 : decode cX5_spreadFrom 83 = .ok (.getfield 18, 3) := by decide +kernel
theorem dX5_spreadFrom_86 : decode cX5_spreadFrom 86 = .ok (.iload 4, 2) := by decide +kernel
theorem dX5_spreadFrom_88 : decode cX5_spreadFrom 88 = .ok (.iaload, 1) := by decide +kernel
theorem dX5_spreadFrom_89 : decode cX5_spreadFrom 89 = .ok (.if_icmp .ge 14, 3) := by decide +kernel
theorem dX5_spreadFrom_92 : decode cX5_spreadFrom 92 = .ok (.aload_n 0, 1) := by decide +kernel
theorem dX5_spreadFrom_93 : decode cX5_spreadFrom 93 = .ok (.getfield 18, 3) := by decide +kernel
theorem dX5_spreadFrom_96 : decode cX5_spreadFrom 96 = .ok (.iload 4, 2) := by decide +kernel
theorem dX5_spreadFrom_98 : decode cX5_spreadFrom 98 = .ok (.iload 7, 2) := by decide +kernel
theorem dX5_spreadFrom_100 : decode cX5_spreadFrom 100 = .ok (.iastore, 1) := by decide +kernel
theorem dX5_spreadFrom_101 : decode cX5_spreadFrom 101 = .ok (.iconst 1, 1) := by decide +kernel
theorem dX5_spreadFrom_102 : decode cX5_spreadFrom 102 = .ok (.istore_n 3, 1) := by decide +kernel
theorem dX5_spreadFrom_103 : decode cX5_spreadFrom 103 = .ok (.iinc 4 1, 3) := by decide +kernel
theorem dX5_spreadFrom_106 : decode cX5_spreadFrom 106 = .ok (.goto (-101), 3) := by decide +kernel
theorem dX5_spreadFrom_109 : decode cX5_spreadFrom 109 = .ok (.iload_n 3, 1) := by decide +kernel
theorem dX5_spreadFrom_110 : decode cX5_spreadFrom 110 = .ok (.ireturn, 1) := by decide +kernel
theorem dX5_arriveAt_0 : decode cX5_arriveAt 0 = .ok (.iconst 0, 1) := by decide +kernel
theorem dX5_arriveAt_1 : decode cX5_arriveAt 1 = .ok (.istore_n 2, 1) := by decide +kernel
theorem dX5_arriveAt_2 : decode cX5_arriveAt 2 = .ok (.iload_n 2, 1) := by decide +kernel
theorem dX5_arriveAt_3 : decode cX5_arriveAt 3 = .ok (.bipush 8, 2) := by decide +kernel
theorem dX5_arriveAt_5 : decode cX5_arriveAt 5 = .ok (.if_icmp .ge 135, 3) := by decide +kernel
theorem dX5_arriveAt_8 : decode cX5_arriveAt 8 = .ok (.ldc 59, 2) := by decide +kernel
theorem dX5_arriveAt_10 : decode cX5_arriveAt 10 = .ok (.istore_n 3, 1) := by decide +kernel
theorem dX5_arriveAt_11 : decode cX5_arriveAt 11 = .ok (.iconst 0, 1) := by decide +kernel
theorem dX5_arriveAt_12 : decode cX5_arriveAt 12 = .ok (.istore 4, 2) := by decide +kernel
theorem dX5_arriveAt_14 : decode cX5_arriveAt 14 = .ok (.iload 4, 2) := by decide +kernel
theorem dX5_arriveAt_16 : decode cX5_arriveAt 16 = .ok (.bipush 8, 2) := by decide +kernel
theorem dX5_arriveAt_18 : decode cX5_arriveAt 18 = .ok (.if_icmp .ge 82, 3) := by decide +kernel
theorem dX5_arriveAt_21 : decode cX5_arriveAt 21 = .ok (.aload_n 0, 1) := by decide +kernel
theorem dX5_arriveAt_22 : decode cX5_arriveAt 22 = .ok (.getfield 9, 3) := by decide +kernel
theorem dX5_arriveAt_25 : decode cX5_arriveAt 25 = .ok (.iload 4, 2) := by decide +kernel
theorem dX5_arriveAt_27 : decode cX5_arriveAt 27 = .ok (.bipush 8, 2) := by decide +kernel
theorem dX5_arriveAt_29 : decode cX5_arriveAt 29 = .ok (.imul, 1) := by decide +kernel
theorem dX5_arriveAt_30 : decode cX5_arriveAt 30 = .ok (.iload_n 2, 1) := by decide +kernel
theorem dX5_arriveAt_31 : decode cX5_arriveAt 31 = .ok (.iadd, 1) := by decide +kernel
theorem dX5_arriveAt_32 : decode cX5_arriveAt 32 = .ok (.iaload, 1) := by decide +kernel
theorem dX5_arriveAt_33 : decode cX5_arriveAt 33 = .ok (.istore 5, 2) := by decide +kernel
theorem dX5_arriveAt_35 : decode cX5_arriveAt 35 = .ok (.iload 5, 2) := by decide +kernel
theorem dX5_arriveAt_37 : decode cX5_arriveAt 37 = .ok (.ifCond .le 57, 3) := by decide +kernel
theorem dX5_arriveAt_40 : decode cX5_arriveAt 40 = .ok (.iload 5, 2) := by decide +kernel
theorem dX5_arriveAt_42 : decode cX5_arriveAt 42 = .ok (.iload_n 1, 1) := by decide +kernel
theorem dX5_arriveAt_43 : decode cX5_arriveAt 43 = .ok (.if_icmp .gt 51, 3) := by decide +kernel
theorem dX5_arriveAt_46 : decode cX5_arriveAt 46 = .ok (.aload_n 0, 1) := by decide +kernel
theorem dX5_arriveAt_47 : decode cX5_arriveAt 47 = .ok (.getfield 21, 3) := by decide +kernel
theorem dX5_arriveAt_50 : decode cX5_arriveAt 50 = .ok (.iload_n 1, 1) := by decide +kernel
theorem dX5_arriveAt_51 : decode cX5_arriveAt 51 = .ok (.iload 5, 2) := by decide +kernel
theorem dX5_arriveAt_53 : decode cX5_arriveAt 53 = .ok (.isub, 1) := by decide +kernel
theorem dX5_arriveAt_54 : decode cX5_arriveAt 54 = .ok (.bipush 21, 2) := by decide +kernel
theorem dX5_arriveAt_56 : decode cX5_arriveAt 56 = .ok (.irem, 1) := by decide +kernel
theorem dX5_arriveAt_57 : decode cX5_arriveAt 57 = .ok (.bipush 8, 2) := by decide +kernel
theorem dX5_arriveAt_59 : decode cX5_arriveAt 59 = .ok (.imul, 1) := by decide +kernel
theorem dX5_arriveAt_60 : decode cX5_arriveAt 60 = .ok (.iload 4, 2) := by decide +kernel
theorem dX5_arriveAt_62 : decode cX5_arriveAt 62 = .ok (.iadd, 1) := by decide +kernel
theorem dX5_arriveAt_63 : decode cX5_arriveAt 63 = .ok (.iaload, 1) := by decide +kernel
theorem dX5_arriveAt_64 : decode cX5_arriveAt 64 = .ok (.aload_n 0, 1) := by decide +kernel
theorem dX5_arriveAt_65 : decode cX5_arriveAt 65 = .ok (.getfield 15, 3) := by decide +kernel
theorem dX5_arriveAt_68 : decode cX5_arriveAt 68 = .ok (.iload 5, 2) := by decide +kernel
theorem dX5_arriveAt_70 : decode cX5_arriveAt 70 = .ok (.iaload, 1) := by decide +kernel
theorem dX5_arriveAt_71 : decode cX5_arriveAt 71 = .ok (.iadd, 1) := by decide +kernel
theorem dX5_arriveAt_72 : decode cX5_arriveAt 72 = .ok (.istore 6, 2) := by decide +kernel
theorem dX5_arriveAt_74 : decode cX5_arriveAt 74 = .ok (.iload 6, 2) := by decide +kernel
theorem dX5_arriveAt_76 : decode cX5_arriveAt 76 = .ok (.aload_n 0, 1) := by decide +kernel
theorem dX5_arriveAt_77 : decode cX5_arriveAt 77 = .ok (.getfield 34, 3) := by decide +kernel
theorem dX5_arriveAt_80 : decode cX5_arriveAt 80 = .ok (.if_icmp .gt 12, 3) := by decide +kernel
theorem dX5_arriveAt_83 : decode cX5_arriveAt 83 = .ok (.iload_n 3, 1) := by decide +kernel
theorem dX5_arriveAt_84 : decode cX5_arriveAt 84 = .ok (.iload 6, 2) := by decide +kernel
theorem dX5_arriveAt_86 : decode cX5_arriveAt 86 = .ok (.invokestatic 102, 3) := by decide +kernel
theorem dX5_arriveAt_89 : decode cX5_arriveAt 89 = .ok (.goto 4, 3) := by decide +kernel
theorem dX5_arriveAt_92 : decode cX5_arriveAt 92 = .ok (.iload_n 3, 1) := by decide +kernel
theorem dX5_arriveAt_93 : decode cX5_arriveAt 93 = .ok (.istore_n 3, 1) := by decide +kernel
theorem dX5_arriveAt_94 : decode cX5_arriveAt 94 = .ok (.iinc 4 1, 3) := by decide +kernel
theorem dX5_arriveAt_97 : decode cX5_arriveAt 97 = .ok (.goto (-83), 3) := by decide +kernel
theorem dX5_arriveAt_100 : decode cX5_arriveAt 100 = .ok (.iload_n 3, 1) := by decide +kernel
theorem dX5_arriveAt_101 : decode cX5_arriveAt 101 = .ok (.ldc 59, 2) := by decide +kernel
theorem dX5_arriveAt_103 : decode cX5_arriveAt 103 = .ok (.if_icmp .ge 16, 3) := by decide +kernel
theorem dX5_arriveAt_106 : decode cX5_arriveAt 106 = .ok (.aload_n 0, 1) := by decide +kernel
theorem dX5_arriveAt_107 : decode cX5_arriveAt 107 = .ok (.getfield 56, 3) := by decide +kernel
theorem dX5_arriveAt_110 : decode cX5_arriveAt 110 = .ok (.iload_n 2, 1) := by decide +kernel
theorem dX5_arriveAt_111 : decode cX5_arriveAt 111 = .ok (.invokestatic 80, 3) := by decide +kernel
theorem dX5_arriveAt_114 : decode cX5_arriveAt 114 = .ok (.ifCond .eq 5, 3) := by decide +kernel
theorem dX5_arriveAt_117 : decode cX5_arriveAt 117 = .ok (.iconst 0, 1) := by decide +kernel
theorem dX5_arriveAt_118 : decode cX5_arriveAt 118 = .ok (.istore_n 3, 1) := by decide +kernel
theorem dX5_arriveAt_119 : decode cX5_arriveAt 119 = .ok (.aload_n 0, 1) := by decide +kernel
theorem dX5_arriveAt_120 : decode cX5_arriveAt 120 = .ok (.getfield 21, 3) := by decide +kernel
theorem dX5_arriveAt_123 : decode cX5_arriveAt 123 = .ok (.iload_n 1, 1) := by decide +kernel
theorem dX5_arriveAt_124 : decode cX5_arriveAt 124 = .ok (.bipush 21, 2) := by decide +kernel
theorem dX5_arriveAt_126 : decode cX5_arriveAt 126 = .ok (.irem, 1) := by decide +kernel
theorem dX5_arriveAt_127 : decode cX5_arriveAt 127 = .ok (.bipush 8, 2) := by decide +kernel
theorem dX5_arriveAt_129 : decode cX5_arriveAt 129 = .ok (.imul, 1) := by decide +kernel
theorem dX5_arriveAt_130 : decode cX5_arriveAt 130 = .ok (.iload_n 2, 1) := by decide +kernel
theorem dX5_arriveAt_131 : decode cX5_arriveAt 131 = .ok (.iadd, 1) := by decide +kernel
theorem dX5_arriveAt_132 : decode cX5_arriveAt 132 = .ok (.iload_n 3, 1) := by decide +kernel
theorem dX5_arriveAt_133 : decode cX5_arriveAt 133 = .ok (.iastore, 1) := by decide +kernel
theorem dX5_arriveAt_134 : decode cX5_arriveAt 134 = .ok (.iinc 2 1, 3) := by decide +kernel
theorem dX5_arriveAt_137 : decode cX5_arriveAt 137 = .ok (.goto (-135), 3) := by decide +kernel
theorem dX5_arriveAt_140 : decode cX5_arriveAt 140 = .ok (.return_, 1) := by decide +kernel
theorem dX5_nearestOutside_0 : decode cX5_nearestOutside 0 = .ok (.iconst (-1), 1) := by decide +kernel
theorem dX5_nearestOutside_1 : decode cX5_nearestOutside 1 = .ok (.istore_n 2, 1) := by decide +kernel
theorem dX5_nearestOutside_2 : decode cX5_nearestOutside 2 = .ok (.iconst 0, 1) := by decide +kernel
theorem dX5_nearestOutside_3 : decode cX5_nearestOutside 3 = .ok (.istore_n 3, 1) := by decide +kernel
theorem dX5_nearestOutside_4 : decode cX5_nearestOutside 4 = .ok (.iload_n 3, 1) := by decide +kernel
theorem dX5_nearestOutside_5 : decode cX5_nearestOutside 5 = .ok (.bipush 8, 2) := by decide +kernel
theorem dX5_nearestOutside_7 : decode cX5_nearestOutside 7 = .ok (.if_icmp .ge 49, 3) := by decide +kernel
theorem dX5_nearestOutside_10 : decode cX5_nearestOutside 10 = .ok (.iload_n 1, 1) := by decide +kernel
theorem dX5_nearestOutside_11 : decode cX5_nearestOutside 11 = .ok (.iload_n 3, 1) := by decide +kernel
theorem dX5_nearestOutside_12 : decode cX5_nearestOutside 12 = .ok (.invokestatic 80, 3) := by decide +kernel
theorem dX5_nearestOutside_15 : decode cX5_nearestOutside 15 = .ok (.ifCond .ne 35, 3) := by decide +kernel
theorem dX5_nearestOutside_18 : decode cX5_nearestOutside 18 = .ok (.aload_n 0, 1) := by decide +kernel
theorem dX5_nearestOutside_19 : decode cX5_nearestOutside 19 = .ok (.getfield 18, 3) := by decide +kernel
theorem dX5_nearestOutside_22 : decode cX5_nearestOutside 22 = .ok (.iload_n 3, 1) := by decide +kernel
theorem dX5_nearestOutside_23 : decode cX5_nearestOutside 23 = .ok (.iaload, 1) := by decide +kernel
theorem dX5_nearestOutside_24 : decode cX5_nearestOutside 24 = .ok (.ldc 59, 2) := by decide +kernel
theorem dX5_nearestOutside_26 : decode cX5_nearestOutside 26 = .ok (.if_icmp .ge 24, 3) := by decide +kernel
theorem dX5_nearestOutside_29 : decode cX5_nearestOutside 29 = .ok (.iload_n 2, 1) := by decide +kernel
theorem dX5_nearestOutside_30 : decode cX5_nearestOutside 30 = .ok (.ifCond .lt 18, 3) := by decide +kernel
theorem dX5_nearestOutside_33 : decode cX5_nearestOutside 33 = .ok (.aload_n 0, 1) := by decide +kernel
theorem dX5_nearestOutside_34 : decode cX5_nearestOutside 34 = .ok (.getfield 18, 3) := by decide +kernel
theorem dX5_nearestOutside_37 : decode cX5_nearestOutside 37 = .ok (.iload_n 3, 1) := by decide +kernel
theorem dX5_nearestOutside_38 : decode cX5_nearestOutside 38 = .ok (.iaload, 1) := by decide +kernel
theorem dX5_nearestOutside_39 : decode cX5_nearestOutside 39 = .ok (.aload_n 0, 1) := by decide +kernel
theorem dX5_nearestOutside_40 : decode cX5_nearestOutside 40 = .ok (.getfield 18, 3) := by decide +kernel
theorem dX5_nearestOutside_43 : decode cX5_nearestOutside 43 = .ok (.iload_n 2, 1) := by decide +kernel
theorem dX5_nearestOutside_44 : decode cX5_nearestOutside 44 = .ok (.iaload, 1) := by decide +kernel
theorem dX5_nearestOutside_45 : decode cX5_nearestOutside 45 = .ok (.if_icmp .ge 5, 3) := by decide +kernel
theorem dX5_nearestOutside_48 : decode cX5_nearestOutside 48 = .ok (.iload_n 3, 1) := by decide +kernel
theorem dX5_nearestOutside_49 : decode cX5_nearestOutside 49 = .ok (.istore_n 2, 1) := by decide +kernel
theorem dX5_nearestOutside_50 : decode cX5_nearestOutside 50 = .ok (.iinc 3 1, 3) := by decide +kernel
theorem dX5_nearestOutside_53 : decode cX5_nearestOutside 53 = .ok (.goto (-49), 3) := by decide +kernel
theorem dX5_nearestOutside_56 : decode cX5_nearestOutside 56 = .ok (.iload_n 2, 1) := by decide +kernel
theorem dX5_nearestOutside_57 : decode cX5_nearestOutside 57 = .ok (.ireturn, 1) := by decide +kernel
theorem dX5_isIn_0 : decode cX5_isIn 0 = .ok (.iload_n 0, 1) := by decide +kernel
theorem dX5_isIn_1 : decode cX5_isIn 1 = .ok (.iload_n 1, 1) := by decide +kernel
theorem dX5_isIn_2 : decode cX5_isIn 2 = .ok (.ishr, 1) := by decide +kernel
theorem dX5_isIn_3 : decode cX5_isIn 3 = .ok (.iconst 1, 1) := by decide +kernel
theorem dX5_isIn_4 : decode cX5_isIn 4 = .ok (.iand, 1) := by decide +kernel
theorem dX5_isIn_5 : decode cX5_isIn 5 = .ok (.iconst 1, 1) := by decide +kernel
theorem dX5_isIn_6 : decode cX5_isIn 6 = .ok (.if_icmp .ne 7, 3) := by decide +kernel
theorem dX5_isIn_9 : decode cX5_isIn 9 = .ok (.iconst 1, 1) := by decide +kernel
theorem dX5_isIn_10 : decode cX5_isIn 10 = .ok (.goto 4, 3) := by decide +kernel
theorem dX5_isIn_13 : decode cX5_isIn 13 = .ok (.iconst 0, 1) := by decide +kernel
theorem dX5_isIn_14 : decode cX5_isIn 14 = .ok (.ireturn, 1) := by decide +kernel
theorem dX6_init_0 : decode cX6_init 0 = .ok (.aload_n 0, 1) := by decide +kernel
theorem dX6_init_1 : decode cX6_init 1 = .ok (.invokespecial 3, 3) := by decide +kernel
theorem dX6_init_4 : decode cX6_init 4 = .ok (.aload_n 0, 1) := by decide +kernel
theorem dX6_init_5 : decode cX6_init 5 = .ok (.bipush 8, 2) := by decide +kernel
theorem dX6_init_7 : decode cX6_init 7 = .ok (.newarray .int, 2) := by decide +kernel
theorem dX6_init_9 : decode cX6_init 9 = .ok (.putfield 9, 3) := by decide +kernel
theorem dX6_init_12 : decode cX6_init 12 = .ok (.aload_n 0, 1) := by decide +kernel
theorem dX6_init_13 : decode cX6_init 13 = .ok (.bipush 64, 2) := by decide +kernel
theorem dX6_init_15 : decode cX6_init 15 = .ok (.newarray .int, 2) := by decide +kernel
theorem dX6_init_17 : decode cX6_init 17 = .ok (.putfield 15, 3) := by decide +kernel
theorem dX6_init_20 : decode cX6_init 20 = .ok (.aload_n 0, 1) := by decide +kernel
theorem dX6_init_21 : decode cX6_init 21 = .ok (.bipush 64, 2) := by decide +kernel
theorem dX6_init_23 : decode cX6_init 23 = .ok (.newarray .int, 2) := by decide +kernel
theorem dX6_init_25 : decode cX6_init 25 = .ok (.putfield 18, 3) := by decide +kernel
theorem dX6_init_28 : decode cX6_init 28 = .ok (.aload_n 0, 1) := by decide +kernel
theorem dX6_init_29 : decode cX6_init 29 = .ok (.bipush 6, 2) := by decide +kernel
theorem dX6_init_31 : decode cX6_init 31 = .ok (.anewarray 21, 3) := by decide +kernel
theorem dX6_init_34 : decode cX6_init 34 = .ok (.putfield 23, 3) := by decide +kernel
theorem dX6_init_37 : decode cX6_init 37 = .ok (.aload_n 0, 1) := by decide +kernel
theorem dX6_init_38 : decode cX6_init 38 = .ok (.iconst 2, 1) := by decide +kernel
theorem dX6_init_39 : decode cX6_init 39 = .ok (.anewarray 27, 3) := by decide +kernel
theorem dX6_init_42 : decode cX6_init 42 = .ok (.dup, 1) := by decide +kernel
theorem dX6_init_43 : decode cX6_init 43 = .ok (.iconst 0, 1) := by decide +kernel
theorem dX6_init_44 : decode cX6_init 44 = .ok (.new 27, 3) := by decide +kernel
theorem dX6_init_47 : decode cX6_init 47 = .ok (.dup, 1) := by decide +kernel
theorem dX6_init_48 : decode cX6_init 48 = .ok (.iconst 0, 1) := by decide +kernel
theorem dX6_init_49 : decode cX6_init 49 = .ok (.invokespecial 29, 3) := by decide +kernel
theorem dX6_init_52 : decode cX6_init 52 = .ok (.aastore, 1) := by decide +kernel
theorem dX6_init_53 : decode cX6_init 53 = .ok (.dup, 1) := by decide +kernel
theorem dX6_init_54 : decode cX6_init 54 = .ok (.iconst 1, 1) := by decide +kernel
theorem dX6_init_55 : decode cX6_init 55 = .ok (.new 27, 3) := by decide +kernel
theorem dX6_init_58 : decode cX6_init 58 = .ok (.dup, 1) := by decide +kernel
theorem dX6_init_59 : decode cX6_init 59 = .ok (.iconst 1, 1) := by decide +kernel
theorem dX6_init_60 : decode cX6_init 60 = .ok (.invokespecial 29, 3) := by decide +kernel
theorem dX6_init_63 : decode cX6_init 63 = .ok (.aastore, 1) := by decide +kernel
theorem dX6_init_64 : decode cX6_init 64 = .ok (.putfield 32, 3) := by decide +kernel
theorem dX6_init_67 : decode cX6_init 67 = .ok (.aload_n 0, 1) := by decide +kernel
theorem dX6_init_68 : decode cX6_init 68 = .ok (.bipush 50, 2) := by decide +kernel
theorem dX6_init_70 : decode cX6_init 70 = .ok (.newarray .int, 2) := by decide +kernel
theorem dX6_init_72 : decode cX6_init 72 = .ok (.putfield 36, 3) := by decide +kernel
theorem dX6_init_75 : decode cX6_init 75 = .ok (.aload_n 0, 1) := by decide +kernel
theorem dX6_init_76 : decode cX6_init 76 = .ok (.bipush 20, 2) := by decide +kernel
theorem dX6_init_78 : decode cX6_init 78 = .ok (.newarray .int, 2) := by decide +kernel
theorem dX6_init_80 : decode cX6_init 80 = .ok (.putfield 39, 3) := by decide +kernel
theorem dX6_init_83 : decode cX6_init 83 = .ok (.aload_n 0, 1) := by decide +kernel
theorem dX6_init_84 : decode cX6_init 84 = .ok (.iconst 1, 1) := by decide +kernel
theorem dX6_init_85 : decode cX6_init 85 = .ok (.putfield 42, 3) := by decide +kernel
theorem dX6_init_88 : decode cX6_init 88 = .ok (.aload_n 0, 1) := by decide +kernel
theorem dX6_init_89 : decode cX6_init 89 = .ok (.iconst 1, 1) := by decide +kernel
theorem dX6_init_90 : decode cX6_init 90 = .ok (.putfield 46, 3) := by decide +kernel
theorem dX6_init_93 : decode cX6_init 93 = .ok (.aload_n 0, 1) := by decide +kernel
theorem dX6_init_94 : decode cX6_init 94 = .ok (.getfield 9, 3) := by decide +kernel
theorem dX6_init_97 : decode cX6_init 97 = .ok (.bipush 9, 2) := by decide +kernel
theorem dX6_init_99 : decode cX6_init 99 = .ok (.invokestatic 49, 3) := by decide +kernel
theorem dX6_init_102 : decode cX6_init 102 = .ok (.iconst 0, 1) := by decide +kernel
theorem dX6_init_103 : decode cX6_init 103 = .ok (.istore_n 1, 1) := by decide +kernel
theorem dX6_init_104 : decode cX6_init 104 = .ok (.iload_n 1, 1) := by decide +kernel
theorem dX6_init_105 : decode cX6_init 105 = .ok (.bipush 6, 2) := by decide +kernel
theorem dX6_init_107 : decode cX6_init 107 = .ok (.if_icmp .ge 22, 3) := by decide +kernel
theorem dX6_init_110 : decode cX6_init 110 = .ok (.aload_n 0, 1) := by decide +kernel
theorem dX6_init_111 : decode cX6_init 111 = .ok (.getfield 23, 3) := by decide +kernel
theorem dX6_init_114 : decode cX6_init 114 = .ok (.iload_n 1, 1) := by decide +kernel
theorem dX6_init_115 : decode cX6_init 115 = .ok (.new 21, 3) := by decide +kernel
theorem dX6_init_118 : decode cX6_init 118 = .ok (.dup, 1) := by decide +kernel
theorem dX6_init_119 : decode cX6_init 119 = .ok (.invokespecial 55, 3) := by decide +kernel
theorem dX6_init_122 : decode cX6_init 122 = .ok (.aastore, 1) := by decide +kernel
theorem dX6_init_123 : decode cX6_init 123 = .ok (.iinc 1 1, 3) := by decide +kernel
theorem dX6_init_126 : decode cX6_init 126 = .ok (.goto (-22), 3) := by decide +kernel
theorem dX6_init_129 : decode cX6_init 129 = .ok (.return_, 1) := by decide +kernel
theorem dX6_copyFrom_0 : decode cX6_copyFrom 0 = .ok (.aload_n 1, 1) := by decide +kernel
theorem dX6_copyFrom_1 : decode cX6_copyFrom 1 = .ok (.getfield 9, 3) := by decide +kernel
theorem dX6_copyFrom_4 : decode cX6_copyFrom 4 = .ok (.iconst 0, 1) := by decide +kernel
theorem dX6_copyFrom_5 : decode cX6_copyFrom 5 = .ok (.aload_n 0, 1) := by decide +kernel
theorem dX6_copyFrom_6 : decode cX6_copyFrom 6 = .ok (.getfield 9, 3) := by decide +kernel
theorem dX6_copyFrom_9 : decode cX6_copyFrom 9 = .ok (.iconst 0, 1) := by decide +kernel
theorem dX6_copyFrom_10 : decode cX6_copyFrom 10 = .ok (.bipush 8, 2) := by decide +kernel
theorem dX6_copyFrom_12 : decode cX6_copyFrom 12 = .ok (.invokestatic 56, 3) := by decide +kernel
theorem dX6_copyFrom_15 : decode cX6_copyFrom 15 = .ok (.aload_n 1, 1) := by decide +kernel
theorem dX6_copyFrom_16 : decode cX6_copyFrom 16 = .ok (.getfield 15, 3) := by decide +kernel
theorem dX6_copyFrom_19 : decode cX6_copyFrom 19 = .ok (.iconst 0, 1) := by decide +kernel
theorem dX6_copyFrom_20 : decode cX6_copyFrom 20 = .ok (.aload_n 0, 1) := by decide +kernel
theorem dX6_copyFrom_21 : decode cX6_copyFrom 21 = .ok (.getfield 15, 3) := by decide +kernel
theorem dX6_copyFrom_24 : decode cX6_copyFrom 24 = .ok (.iconst 0, 1) := by decide +kernel
theorem dX6_copyFrom_25 : decode cX6_copyFrom 25 = .ok (.bipush 64, 2) := by decide +kernel
theorem dX6_copyFrom_27 : decode cX6_copyFrom 27 = .ok (.invokestatic 56, 3) := by decide +kernel
theorem dX6_copyFrom_30 : decode cX6_copyFrom 30 = .ok (.aload_n 1, 1) := by decide +kernel
theorem dX6_copyFrom_31 : decode cX6_copyFrom 31 = .ok (.getfield 18, 3) := by decide +kernel
theorem dX6_copyFrom_34 : decode cX6_copyFrom 34 = .ok (.iconst 0, 1) := by decide +kernel
theorem dX6_copyFrom_35 : decode cX6_copyFrom 35 = .ok (.aload_n 0, 1) := by decide +kernel
theorem dX6_copyFrom_36 : decode cX6_copyFrom 36 = .ok (.getfield 18, 3) := by decide +kernel
theorem dX6_copyFrom_39 : decode cX6_copyFrom 39 = .ok (.iconst 0, 1) := by decide +kernel
theorem dX6_copyFrom_40 : decode cX6_copyFrom 40 = .ok (.bipush 64, 2) := by decide +kernel
theorem dX6_copyFrom_42 : decode cX6_copyFrom 42 = .ok (.invokestatic 56, 3) := by decide +kernel
theorem dX6_copyFrom_45 : decode cX6_copyFrom 45 = .ok (.aload_n 1, 1) := by decide +kernel
theorem dX6_copyFrom_46 : decode cX6_copyFrom 46 = .ok (.getfield 36, 3) := by decide +kernel
theorem dX6_copyFrom_49 : decode cX6_copyFrom 49 = .ok (.iconst 0, 1) := by decide +kernel
theorem dX6_copyFrom_50 : decode cX6_copyFrom 50 = .ok (.aload_n 0, 1) := by decide +kernel
theorem dX6_copyFrom_51 : decode cX6_copyFrom 51 = .ok (.getfield 36, 3) := by decide +kernel
theorem dX6_copyFrom_54 : decode cX6_copyFrom 54 = .ok (.iconst 0, 1) := by decide +kernel
theorem dX6_copyFrom_55 : decode cX6_copyFrom 55 = .ok (.bipush 50, 2) := by decide +kernel
theorem dX6_copyFrom_57 : decode cX6_copyFrom 57 = .ok (.invokestatic 56, 3) := by decide +kernel
theorem dX6_copyFrom_60 : decode cX6_copyFrom 60 = .ok (.aload_n 1, 1) := by decide +kernel
theorem dX6_copyFrom_61 : decode cX6_copyFrom 61 = .ok (.getfield 39, 3) := by decide +kernel
theorem dX6_copyFrom_64 : decode cX6_copyFrom 64 = .ok (.iconst 0, 1) := by decide +kernel
theorem dX6_copyFrom_65 : decode cX6_copyFrom 65 = .ok (.aload_n 0, 1) := by decide +kernel
theorem dX6_copyFrom_66 : decode cX6_copyFrom 66 = .ok (.getfield 39, 3) := by decide +kernel
theorem dX6_copyFrom_69 : decode cX6_copyFrom 69 = .ok (.iconst 0, 1) := by decide +kernel
theorem dX6_copyFrom_70 : decode cX6_copyFrom 70 = .ok (.bipush 20, 2) := by decide +kernel
theorem dX6_copyFrom_72 : decode cX6_copyFrom 72 = .ok (.invokestatic 56, 3) := by decide +kernel
theorem dX6_copyFrom_75 : decode cX6_copyFrom 75 = .ok (.iconst 0, 1) := by decide +kernel
theorem dX6_copyFrom_76 : decode cX6_copyFrom 76 = .ok (.istore_n 2, 1) := by decide +kernel
theorem dX6_copyFrom_77 : decode cX6_copyFrom 77 = .ok (.iload_n 2, 1) := by decide +kernel
theorem dX6_copyFrom_78 : decode cX6_copyFrom 78 = .ok (.bipush 6, 2) := by decide +kernel
theorem dX6_copyFrom_80 : decode cX6_copyFrom 80 = .ok (.if_icmp .ge 24, 3) := by decide +kernel
theorem dX6_copyFrom_83 : decode cX6_copyFrom 83 = .ok (.aload_n 0, 1) := by decide +kernel
theorem dX6_copyFrom_84 : decode cX6_copyFrom 84 = .ok (.getfield 23, 3) := by decide +kernel
theorem dX6_copyFrom_87 : decode cX6_copyFrom 87 = .ok (.iload_n 2, 1) := by decide +kernel
theorem dX6_copyFrom_88 : decode cX6_copyFrom 88 = .ok (.aaload, 1) := by decide +kernel
theorem dX6_copyFrom_89 : decode cX6_copyFrom 89 = .ok (.aload_n 1, 1) := by decide +kernel
theorem dX6_copyFrom_90 : decode cX6_copyFrom 90 = .ok (.getfield 23, 3) := by decide +kernel
theorem dX6_copyFrom_93 : decode cX6_copyFrom 93 = .ok (.iload_n 2, 1) := by decide +kernel
theorem dX6_copyFrom_94 : decode cX6_copyFrom 94 = .ok (.aaload, 1) := by decide +kernel
theorem dX6_copyFrom_95 : decode cX6_copyFrom 95 = .ok (.invokevirtual 62, 3) := by decide +kernel
theorem dX6_copyFrom_98 : decode cX6_copyFrom 98 = .ok (.iinc 2 1, 3) := by decide +kernel
theorem dX6_copyFrom_101 : decode cX6_copyFrom 101 = .ok (.goto (-24), 3) := by decide +kernel
theorem dX6_copyFrom_104 : decode cX6_copyFrom 104 = .ok (.iconst 0, 1) := by decide +kernel
theorem dX6_copyFrom_105 : decode cX6_copyFrom 105 = .ok (.istore_n 2, 1) := by decide +kernel
theorem dX6_copyFrom_106 : decode cX6_copyFrom 106 = .ok (.iload_n 2, 1) := by decide +kernel
theorem dX6_copyFrom_107 : decode cX6_copyFrom 107 = .ok (.iconst 2, 1) := by decide +kernel
theorem dX6_copyFrom_108 : decode cX6_copyFrom 108 = .ok (.if_icmp .ge 36, 3) := by decide +kernel
theorem dX6_copyFrom_111 : decode cX6_copyFrom 111 = .ok (.aload_n 0, 1) := by decide +kernel
theorem dX6_copyFrom_112 : decode cX6_copyFrom 112 = .ok (.getfield 32, 3) := by decide +kernel
theorem dX6_copyFrom_115 : decode cX6_copyFrom 115 = .ok (.iload_n 2, 1) := by decide +kernel
theorem dX6_copyFrom_116 : decode cX6_copyFrom 116 = .ok (.aaload, 1) := by decide +kernel
theorem dX6_copyFrom_117 : decode cX6_copyFrom 117 = .ok (.aload_n 1, 1) := by decide +kernel
theorem dX6_copyFrom_118 : decode cX6_copyFrom 118 = .ok (.getfield 32, 3) := by decide +kernel
theorem dX6_copyFrom_121 : decode cX6_copyFrom 121 = .ok (.iload_n 2, 1) := by decide +kernel
theorem dX6_copyFrom_122 : decode cX6_copyFrom 122 = .ok (.aaload, 1) := by decide +kernel
theorem dX6_copyFrom_123 : decode cX6_copyFrom 123 = .ok (.getfield 66, 3) := by decide +kernel
theorem dX6_copyFrom_126 : decode cX6_copyFrom 126 = .ok (.aload_n 1, 1) := by decide +kernel
theorem dX6_copyFrom_127 : decode cX6_copyFrom 127 = .ok (.getfield 32, 3) := by decide +kernel
theorem dX6_copyFrom_130 : decode cX6_copyFrom 130 = .ok (.iload_n 2, 1) := by decide +kernel
theorem dX6_copyFrom_131 : decode cX6_copyFrom 131 = .ok (.aaload, 1) := by decide +kernel
theorem dX6_copyFrom_132 : decode cX6_copyFrom 132 = .ok (.getfield 69, 3) := by decide +kernel
theorem dX6_copyFrom_135 : decode cX6_copyFrom 135 = .ok (.invokevirtual 72, 3) := by decide +kernel
theorem dX6_copyFrom_138 : decode cX6_copyFrom 138 = .ok (.iinc 2 1, 3) := by decide +kernel
theorem dX6_copyFrom_141 : decode cX6_copyFrom 141 = .ok (.goto (-35), 3) := by decide +kernel
theorem dX6_copyFrom_144 : decode cX6_copyFrom 144 = .ok (.aload_n 0, 1) := by decide +kernel
theorem dX6_copyFrom_145 : decode cX6_copyFrom 145 = .ok (.aload_n 1, 1) := by decide +kernel
theorem dX6_copyFrom_146 : decode cX6_copyFrom 146 = .ok (.getfield 75, 3) := by decide +kernel
theorem dX6_copyFrom_149 : decode cX6_copyFrom 149 = .ok (.putfield 75, 3) := by decide +kernel
theorem dX6_copyFrom_152 : decode cX6_copyFrom 152 = .ok (.aload_n 0, 1) := by decide +kernel
theorem dX6_copyFrom_153 : decode cX6_copyFrom 153 = .ok (.aload_n 1, 1) := by decide +kernel
theorem dX6_copyFrom_154 : decode cX6_copyFrom 154 = .ok (.getfield 42, 3) := by decide +kernel
theorem dX6_copyFrom_157 : decode cX6_copyFrom 157 = .ok (.putfield 42, 3) := by decide +kernel
theorem dX6_copyFrom_160 : decode cX6_copyFrom 160 = .ok (.aload_n 0, 1) := by decide +kernel
theorem dX6_copyFrom_161 : decode cX6_copyFrom 161 = .ok (.aload_n 1, 1) := by decide +kernel
theorem dX6_copyFrom_162 : decode cX6_copyFrom 162 = .ok (.getfield 78, 3) := by decide +kernel
theorem dX6_copyFrom_165 : decode cX6_copyFrom 165 = .ok (.putfield 78, 3) := by decide +kernel
theorem dX6_copyFrom_168 : decode cX6_copyFrom 168 = .ok (.aload_n 0, 1) := by decide +kernel
theorem dX6_copyFrom_169 : decode cX6_copyFrom 169 = .ok (.aload_n 1, 1) := by decide +kernel
theorem dX6_copyFrom_170 : decode cX6_copyFrom 170 = .ok (.getfield 81, 3) := by decide +kernel
theorem dX6_copyFrom_173 : decode cX6_copyFrom 173 = .ok (.putfield 81, 3) := by decide +kernel
theorem dX6_copyFrom_176 : decode cX6_copyFrom 176 = .ok (.aload_n 0, 1) := by decide +kernel
theorem dX6_copyFrom_177 : decode cX6_copyFrom 177 = .ok (.aload_n 1, 1) := by decide +kernel
theorem dX6_copyFrom_178 : decode cX6_copyFrom 178 = .ok (.getfield 84, 3) := by decide +kernel
theorem dX6_copyFrom_181 : decode cX6_copyFrom 181 = .ok (.putfield 84, 3) := by decide +kernel
theorem dX6_copyFrom_184 : decode cX6_copyFrom 184 = .ok (.aload_n 0, 1) := by decide +kernel
theorem dX6_copyFrom_185 : decode cX6_copyFrom 185 = .ok (.aload_n 1, 1) := by decide +kernel
theorem dX6_copyFrom_186 : decode cX6_copyFrom 186 = .ok (.getfield 87, 3) := by decide +kernel
theorem dX6_copyFrom_189 : decode cX6_copyFrom 189 = .ok (.putfield 87, 3) := by decide +kernel
theorem dX6_copyFrom_192 : decode cX6_copyFrom 192 = .ok (.aload_n 0, 1) := by decide +kernel
theorem dX6_copyFrom_193 : decode cX6_copyFrom 193 = .ok (.aload_n 1, 1) := by decide +kernel
theorem dX6_copyFrom_194 : decode cX6_copyFrom 194 = .ok (.getfield 46, 3) := by decide +kernel
theorem dX6_copyFrom_197 : decode cX6_copyFrom 197 = .ok (.putfield 46, 3) := by decide +kernel
theorem dX6_copyFrom_200 : decode cX6_copyFrom 200 = .ok (.return_, 1) := by decide +kernel
theorem dX6_needs_0 : decode cX6_needs 0 = .ok (.aload_n 1, 1) := by decide +kernel
theorem dX6_needs_1 : decode cX6_needs 1 = .ok (.getfield 90, 3) := by decide +kernel
theorem dX6_needs_4 : decode cX6_needs 4 = .ok (.lookupswitch 71 #[(3, 28), (6, 47)], 28) := by decide +kernel
theorem dX6_needs_32 : decode cX6_needs 32 = .ok (.aload_n 0, 1) := by decide +kernel
theorem dX6_needs_33 : decode cX6_needs 33 = .ok (.getfield 32, 3) := by decide +kernel
theorem dX6_needs_36 : decode cX6_needs 36 = .ok (.iconst 0, 1) := by decide +kernel
theorem dX6_needs_37 : decode cX6_needs 37 = .ok (.aaload, 1) := by decide +kernel
theorem dX6_needs_38 : decode cX6_needs 38 = .ok (.aload_n 1, 1) := by decide +kernel
theorem dX6_needs_39 : decode cX6_needs 39 = .ok (.getfield 93, 3) := by decide +kernel
theorem dX6_needs_42 : decode cX6_needs 42 = .ok (.iload_n 2, 1) := by decide +kernel
theorem dX6_needs_43 : decode cX6_needs 43 = .ok (.aload_n 0, 1) := by decide +kernel
theorem dX6_needs_44 : decode cX6_needs 44 = .ok (.getfield 81, 3) := by decide +kernel
theorem dX6_needs_47 : decode cX6_needs 47 = .ok (.invokevirtual 96, 3) := by decide +kernel
theorem dX6_needs_50 : decode cX6_needs 50 = .ok (.ireturn, 1) := by decide +kernel
theorem dX6_needs_51 : decode cX6_needs 51 = .ok (.aload_n 0, 1) := by decide +kernel
theorem dX6_needs_52 : decode cX6_needs 52 = .ok (.getfield 32, 3) := by decide +kernel
theorem dX6_needs_55 : decode cX6_needs 55 = .ok (.iconst 0, 1) := by decide +kernel
theorem dX6_needs_56 : decode cX6_needs 56 = .ok (.aaload, 1) := by decide +kernel
theorem dX6_needs_57 : decode cX6_needs 57 = .ok (.aload_n 1, 1) := by decide +kernel
theorem dX6_needs_58 : decode cX6_needs 58 = .ok (.getfield 93, 3) := by decide +kernel
theorem dX6_needs_61 : decode cX6_needs 61 = .ok (.iload_n 2, 1) := by decide +kernel
theorem dX6_needs_62 : decode cX6_needs 62 = .ok (.aload_n 0, 1) := by decide +kernel
theorem dX6_needs_63 : decode cX6_needs 63 = .ok (.getfield 81, 3) := by decide +kernel
theorem dX6_needs_66 : decode cX6_needs 66 = .ok (.invokevirtual 96, 3) := by decide +kernel
theorem dX6_needs_69 : decode cX6_needs 69 = .ok (.aload_n 1, 1) := by decide +kernel
theorem dX6_needs_70 : decode cX6_needs 70 = .ok (.getfield 93, 3) := by decide +kernel
theorem dX6_needs_73 : decode cX6_needs 73 = .ok (.iadd, 1) := by decide +kernel
theorem dX6_needs_74 : decode cX6_needs 74 = .ok (.ireturn, 1) := by decide +kernel
theorem dX6_needs_75 : decode cX6_needs 75 = .ok (.iconst 1, 1) := by decide +kernel
theorem dX6_needs_76 : decode cX6_needs 76 = .ok (.ireturn, 1) := by decide +kernel
theorem dX6_parched_0 : decode cX6_parched 0 = .ok (.aload_n 0, 1) := by decide +kernel
theorem dX6_parched_1 : decode cX6_parched 1 = .ok (.getfield 32, 3) := by decide +kernel
theorem dX6_parched_4 : decode cX6_parched 4 = .ok (.iconst 1, 1) := by decide +kernel
theorem dX6_parched_5 : decode cX6_parched 5 = .ok (.aaload, 1) := by decide +kernel
theorem dX6_parched_6 : decode cX6_parched 6 = .ok (.iload_n 2, 1) := by decide +kernel
theorem dX6_parched_7 : decode cX6_parched 7 = .ok (.aload_n 1, 1) := by decide +kernel
theorem dX6_parched_8 : decode cX6_parched 8 = .ok (.getfield 93, 3) := by decide +kernel
theorem dX6_parched_11 : decode cX6_parched 11 = .ok (.aload_n 0, 1) := by decide +kernel
theorem dX6_parched_12 : decode cX6_parched 12 = .ok (.getfield 81, 3) := by decide +kernel
theorem dX6_parched_15 : decode cX6_parched 15 = .ok (.invokevirtual 96, 3) := by decide +kernel
theorem dX6_parched_18 : decode cX6_parched 18 = .ok (.ireturn, 1) := by decide +kernel
theorem dX6_roadsFrom_0 : decode cX6_roadsFrom 0 = .ok (.iconst 0, 1) := by decide +kernel
theorem dX6_roadsFrom_1 : decode cX6_roadsFrom 1 = .ok (.istore_n 2, 1) := by decide +kernel
theorem dX6_roadsFrom_2 : decode cX6_roadsFrom 2 = .ok (.iconst 0, 1) := by decide +kernel
theorem dX6_roadsFrom_3 : decode cX6_roadsFrom 3 = .ok (.istore_n 3, 1) := by decide +kernel
theorem dX6_roadsFrom_4 : decode cX6_roadsFrom 4 = .ok (.iload_n 3, 1) := by decide +kernel
theorem dX6_roadsFrom_5 : decode cX6_roadsFrom 5 = .ok (.bipush 8, 2) := by decide +kernel
theorem dX6_roadsFrom_7 : decode cX6_roadsFrom 7 = .ok (.if_icmp .ge 26, 3) := by decide +kernel
theorem dX6_roadsFrom_10 : decode cX6_roadsFrom 10 = .ok (.aload_n 0, 1) := by decide +kernel
theorem dX6_roadsFrom_11 : decode cX6_roadsFrom 11 = .ok (.getfield 15, 3) := by decide +kernel
theorem dX6_roadsFrom_14 : decode cX6_roadsFrom 14 = .ok (.iload_n 1, 1) := by decide +kernel
theorem dX6_roadsFrom_15 : decode cX6_roadsFrom 15 = .ok (.bipush 8, 2) := by decide +kernel
theorem dX6_roadsFrom_17 : decode cX6_roadsFrom 17 = .ok (.imul, 1) := by decide +kernel
theorem dX6_roadsFrom_18 : decode cX6_roadsFrom 18 = .ok (.iload_n 3, 1) := by decide +kernel
theorem dX6_roadsFrom_19 : decode cX6_roadsFrom 19 = .ok (.iadd, 1) := by decide +kernel
theorem dX6_roadsFrom_20 : decode cX6_roadsFrom 20 = .ok (.iaload, 1) := by decide +kernel
theorem dX6_roadsFrom_21 : decode cX6_roadsFrom 21 = .ok (.ifCond .le 6, 3) := by decide +kernel
theorem dX6_roadsFrom_24 : decode cX6_roadsFrom 24 = .ok (.iinc 2 1, 3) := by decide +kernel
theorem dX6_roadsFrom_27 : decode cX6_roadsFrom 27 = .ok (.iinc 3 1, 3) := by decide +kernel
theorem dX6_roadsFrom_30 : decode cX6_roadsFrom 30 = .ok (.goto (-26), 3) := by decide +kernel
theorem dX6_roadsFrom_33 : decode cX6_roadsFrom 33 = .ok (.iload_n 2, 1) := by decide +kernel
theorem dX6_roadsFrom_34 : decode cX6_roadsFrom 34 = .ok (.ireturn, 1) := by decide +kernel
theorem dX6_namedBy_0 : decode cX6_namedBy 0 = .ok (.iconst 0, 1) := by decide +kernel
theorem dX6_namedBy_1 : decode cX6_namedBy 1 = .ok (.istore_n 2, 1) := by decide +kernel
theorem dX6_namedBy_2 : decode cX6_namedBy 2 = .ok (.iconst 0, 1) := by decide +kernel
theorem dX6_namedBy_3 : decode cX6_namedBy 3 = .ok (.istore_n 3, 1) := by decide +kernel
theorem dX6_namedBy_4 : decode cX6_namedBy 4 = .ok (.iload_n 3, 1) := by decide +kernel
theorem dX6_namedBy_5 : decode cX6_namedBy 5 = .ok (.aload_n 0, 1) := by decide +kernel
theorem dX6_namedBy_6 : decode cX6_namedBy 6 = .ok (.getfield 75, 3) := by decide +kernel
theorem dX6_namedBy_9 : decode cX6_namedBy 9 = .ok (.if_icmp .ge 40, 3) := by decide +kernel
theorem dX6_namedBy_12 : decode cX6_namedBy 12 = .ok (.aload_n 0, 1) := by decide +kernel
theorem dX6_namedBy_13 : decode cX6_namedBy 13 = .ok (.getfield 23, 3) := by decide +kernel
theorem dX6_namedBy_16 : decode cX6_namedBy 16 = .ok (.iload_n 3, 1) := by decide +kernel
theorem dX6_namedBy_17 : decode cX6_namedBy 17 = .ok (.aaload, 1) := by decide +kernel
theorem dX6_namedBy_18 : decode cX6_namedBy 18 = .ok (.getfield 100, 3) := by decide +kernel
theorem dX6_namedBy_21 : decode cX6_namedBy 21 = .ok (.ifCond .ne 22, 3) := by decide +kernel
theorem dX6_namedBy_24 : decode cX6_namedBy 24 = .ok (.aload_n 0, 1) := by decide +kernel
theorem dX6_namedBy_25 : decode cX6_namedBy 25 = .ok (.getfield 23, 3) := by decide +kernel
theorem dX6_namedBy_28 : decode cX6_namedBy 28 = .ok (.iload_n 3, 1) := by decide +kernel
theorem dX6_namedBy_29 : decode cX6_namedBy 29 = .ok (.aaload, 1) := by decide +kernel
theorem dX6_namedBy_30 : decode cX6_namedBy 30 = .ok (.getfield 104, 3) := by decide +kernel
theorem dX6_namedBy_33 : decode cX6_namedBy 33 = .ok (.iload_n 1, 1) := by decide +kernel
theorem dX6_namedBy_34 : decode cX6_namedBy 34 = .ok (.if_icmp .ne 9, 3) := by decide +kernel
theorem dX6_namedBy_37 : decode cX6_namedBy 37 = .ok (.iload_n 2, 1) := by decide +kernel
theorem dX6_namedBy_38 : decode cX6_namedBy 38 = .ok (.iconst 1, 1) := by decide +kernel
theorem dX6_namedBy_39 : decode cX6_namedBy 39 = .ok (.iload_n 3, 1) := by decide +kernel
theorem dX6_namedBy_40 : decode cX6_namedBy 40 = .ok (.ishl, 1) := by decide +kernel
theorem dX6_namedBy_41 : decode cX6_namedBy 41 = .ok (.ior, 1) := by decide +kernel
theorem dX6_namedBy_42 : decode cX6_namedBy 42 = .ok (.istore_n 2, 1) := by decide +kernel
theorem dX6_namedBy_43 : decode cX6_namedBy 43 = .ok (.iinc 3 1, 3) := by decide +kernel
theorem dX6_namedBy_46 : decode cX6_namedBy 46 = .ok (.goto (-42), 3) := by decide +kernel
theorem dX6_namedBy_49 : decode cX6_namedBy 49 = .ok (.iload_n 2, 1) := by decide +kernel
theorem dX6_namedBy_50 : decode cX6_namedBy 50 = .ok (.ireturn, 1) := by decide +kernel
theorem dX6_standingAt_0 : decode cX6_standingAt 0 = .ok (.iconst 0, 1) := by decide +kernel
theorem dX6_standingAt_1 : decode cX6_standingAt 1 = .ok (.istore_n 2, 1) := by decide +kernel
theorem dX6_standingAt_2 : decode cX6_standingAt 2 = .ok (.iconst 0, 1) := by decide +kernel
theorem dX6_standingAt_3 : decode cX6_standingAt 3 = .ok (.istore_n 3, 1) := by decide +kernel
theorem dX6_standingAt_4 : decode cX6_standingAt 4 = .ok (.iload_n 3, 1) := by decide +kernel
theorem dX6_standingAt_5 : decode cX6_standingAt 5 = .ok (.aload_n 0, 1) := by decide +kernel
theorem dX6_standingAt_6 : decode cX6_standingAt 6 = .ok (.getfield 75, 3) := by decide +kernel
theorem dX6_standingAt_9 : decode cX6_standingAt 9 = .ok (.if_icmp .ge 40, 3) := by decide +kernel
theorem dX6_standingAt_12 : decode cX6_standingAt 12 = .ok (.aload_n 0, 1) := by decide +kernel
theorem dX6_standingAt_13 : decode cX6_standingAt 13 = .ok (.getfield 23, 3) := by decide +kernel
theorem dX6_standingAt_16 : decode cX6_standingAt 16 = .ok (.iload_n 3, 1) := by decide +kernel
theorem dX6_standingAt_17 : decode cX6_standingAt 17 = .ok (.aaload, 1) := by decide +kernel
theorem dX6_standingAt_18 : decode cX6_standingAt 18 = .ok (.getfield 100, 3) := by decide +kernel
theorem dX6_standingAt_21 : decode cX6_standingAt 21 = .ok (.ifCond .ne 22, 3) := by decide +kernel
theorem dX6_standingAt_24 : decode cX6_standingAt 24 = .ok (.aload_n 0, 1) := by decide +kernel
theorem dX6_standingAt_25 : decode cX6_standingAt 25 = .ok (.getfield 23, 3) := by decide +kernel
theorem dX6_standingAt_28 : decode cX6_standingAt 28 = .ok (.iload_n 3, 1) := by decide +kernel
theorem dX6_standingAt_29 : decode cX6_standingAt 29 = .ok (.aaload, 1) := by decide +kernel
theorem dX6_standingAt_30 : decode cX6_standingAt 30 = .ok (.getfield 107, 3) := by decide +kernel
theorem dX6_standingAt_33 : decode cX6_standingAt 33 = .ok (.iload_n 1, 1) := by decide +kernel
theorem dX6_standingAt_34 : decode cX6_standingAt 34 = .ok (.if_icmp .ne 9, 3) := by decide +kernel
theorem dX6_standingAt_37 : decode cX6_standingAt 37 = .ok (.iload_n 2, 1) := by decide +kernel
theorem dX6_standingAt_38 : decode cX6_standingAt 38 = .ok (.iconst 1, 1) := by decide +kernel
theorem dX6_standingAt_39 : decode cX6_standingAt 39 = .ok (.iload_n 3, 1) := by decide +kernel
theorem dX6_standingAt_40 : decode cX6_standingAt 40 = .ok (.ishl, 1) := by decide +kernel
theorem dX6_standingAt_41 : decode cX6_standingAt 41 = .ok (.ior, 1) := by decide +kernel
theorem dX6_standingAt_42 : decode cX6_standingAt 42 = .ok (.istore_n 2, 1) := by decide +kernel
theorem dX6_standingAt_43 : decode cX6_standingAt 43 = .ok (.iinc 3 1, 3) := by decide +kernel
theorem dX6_standingAt_46 : decode cX6_standingAt 46 = .ok (.goto (-42), 3) := by decide +kernel
theorem dX6_standingAt_49 : decode cX6_standingAt 49 = .ok (.iload_n 2, 1) := by decide +kernel
theorem dX6_standingAt_50 : decode cX6_standingAt 50 = .ok (.ireturn, 1) := by decide +kernel
theorem dX6_pairsOfOneName_0 : decode cX6_pairsOfOneName 0 = .ok (.iconst 0, 1) := by decide +kernel
theorem dX6_pairsOfOneName_1 : decode cX6_pairsOfOneName 1 = .ok (.istore_n 1, 1) := by decide +kernel
theorem dX6_pairsOfOneName_2 : decode cX6_pairsOfOneName 2 = .ok (.iconst 0, 1) := by decide +kernel
theorem dX6_pairsOfOneName_3 : decode cX6_pairsOfOneName 3 = .ok (.istore_n 2, 1) := by decide +kernel
theorem dX6_pairsOfOneName_4 : decode cX6_pairsOfOneName 4 = .ok (.iload_n 2, 1) := by decide +kernel
theorem dX6_pairsOfOneName_5 : decode cX6_pairsOfOneName 5 = .ok (.bipush 8, 2) := by decide +kernel
theorem dX6_pairsOfOneName_7 : decode cX6_pairsOfOneName 7 = .ok (.if_icmp .ge 28, 3) := by decide +kernel
theorem dX6_pairsOfOneName_10 : decode cX6_pairsOfOneName 10 = .ok (.aload_n 0, 1) := by decide +kernel
theorem dX6_pairsOfOneName_11 : decode cX6_pairsOfOneName 11 = .ok (.iload_n 2, 1) := by decide +kernel
theorem dX6_pairsOfOneName_12 : decode cX6_pairsOfOneName 12 = .ok (.invokevirtual 110, 3) := by decide +kernel
theorem dX6_pairsOfOneName_15 : decode cX6_pairsOfOneName 15 = .ok (.invokestatic 114, 3) := by decide +kernel
theorem dX6_pairsOfOneName_18 : decode cX6_pairsOfOneName 18 = .ok (.istore_n 3, 1) := by decide +kernel
theorem dX6_pairsOfOneName_19 : decode cX6_pairsOfOneName 19 = .ok (.iload_n 1, 1) := by decide +kernel
theorem dX6_pairsOfOneName_20 : decode cX6_pairsOfOneName 20 = .ok (.iload_n 3, 1) := by decide +kernel
theorem dX6_pairsOfOneName_21 : decode cX6_pairsOfOneName 21 = .ok (.iload_n 3, 1) := by decide +kernel
theorem dX6_pairsOfOneName_22 : decode cX6_pairsOfOneName 22 = .ok (.iconst 1, 1) := by decide +kernel
theorem dX6_pairsOfOneName_23 : decode cX6_pairsOfOneName 23 = .ok (.isub, 1) := by decide +kernel
theorem dX6_pairsOfOneName_24 : decode cX6_pairsOfOneName 24 = .ok (.imul, 1) := by decide +kernel
theorem dX6_pairsOfOneName_25 : decode cX6_pairsOfOneName 25 = .ok (.iconst 2, 1) := by decide +kernel
theorem dX6_pairsOfOneName_26 : decode cX6_pairsOfOneName 26 = .ok (.idiv, 1) := by decide +kernel
theorem dX6_pairsOfOneName_27 : decode cX6_pairsOfOneName 27 = .ok (.iadd, 1) := by decide +kernel
theorem dX6_pairsOfOneName_28 : decode cX6_pairsOfOneName 28 = .ok (.istore_n 1, 1) := by decide +kernel
theorem dX6_pairsOfOneName_29 : decode cX6_pairsOfOneName 29 = .ok (.iinc 2 1, 3) := by decide +kernel
theorem dX6_pairsOfOneName_32 : decode cX6_pairsOfOneName 32 = .ok (.goto (-28), 3) := by decide +kernel
theorem dX6_pairsOfOneName_35 : decode cX6_pairsOfOneName 35 = .ok (.iload_n 1, 1) := by decide +kernel
theorem dX6_pairsOfOneName_36 : decode cX6_pairsOfOneName 36 = .ok (.ireturn, 1) := by decide +kernel
theorem dX6_debtOf_0 : decode cX6_debtOf 0 = .ok (.aload_n 0, 1) := by decide +kernel
theorem dX6_debtOf_1 : decode cX6_debtOf 1 = .ok (.iload_n 1, 1) := by decide +kernel
theorem dX6_debtOf_2 : decode cX6_debtOf 2 = .ok (.iconst 0, 1) := by decide +kernel
theorem dX6_debtOf_3 : decode cX6_debtOf 3 = .ok (.iconst 0, 1) := by decide +kernel
theorem dX6_debtOf_4 : decode cX6_debtOf 4 = .ok (.invokevirtual 119, 3) := by decide +kernel
theorem dX6_debtOf_7 : decode cX6_debtOf 7 = .ok (.ireturn, 1) := by decide +kernel
theorem dX6_debtBehind_0 : decode cX6_debtBehind 0 = .ok (.iconst 0, 1) := by decide +kernel
theorem dX6_debtBehind_1 : decode cX6_debtBehind 1 = .ok (.istore 4, 2) := by decide +kernel
theorem dX6_debtBehind_3 : decode cX6_debtBehind 3 = .ok (.iconst 0, 1) := by decide +kernel
theorem dX6_debtBehind_4 : decode cX6_debtBehind 4 = .ok (.istore 5, 2) := by decide +kernel
theorem dX6_debtBehind_6 : decode cX6_debtBehind 6 = .ok (.iload 5, 2) := by decide +kernel
theorem dX6_debtBehind_8 : decode cX6_debtBehind 8 = .ok (.bipush 8, 2) := by decide +kernel
theorem dX6_debtBehind_10 : decode cX6_debtBehind 10 = .ok (.if_icmp .ge 70, 3) := by decide +kernel
theorem dX6_debtBehind_13 : decode cX6_debtBehind 13 = .ok (.iload_n 1, 1) := by decide +kernel
theorem dX6_debtBehind_14 : decode cX6_debtBehind 14 = .ok (.invokestatic 122, 3) := by decide +kernel
theorem dX6_debtBehind_17 : decode cX6_debtBehind 17 = .ok (.ifCond .eq 63, 3) := by decide +kernel
theorem dX6_debtBehind_20 : decode cX6_debtBehind 20 = .ok (.aload_n 0, 1) := by decide +kernel
theorem dX6_debtBehind_21 : decode cX6_debtBehind 21 = .ok (.getfield 18, 3) := by decide +kernel
theorem dX6_debtBehind_24 : decode cX6_debtBehind 24 = .ok (.iload_n 1, 1) := by decide +kernel
theorem dX6_debtBehind_25 : decode cX6_debtBehind 25 = .ok (.bipush 8, 2) := by decide +kernel
theorem dX6_debtBehind_27 : decode cX6_debtBehind 27 = .ok (.imul, 1) := by decide +kernel
theorem dX6_debtBehind_28 : decode cX6_debtBehind 28 = .ok (.iload 5, 2) := by decide +kernel
theorem dX6_debtBehind_30 : decode cX6_debtBehind 30 = .ok (.iadd, 1) := by decide +kernel
theorem dX6_debtBehind_31 : decode cX6_debtBehind 31 = .ok (.iaload, 1) := by decide +kernel
theorem dX6_debtBehind_32 : decode cX6_debtBehind 32 = .ok (.istore 6, 2) := by decide +kernel
theorem dX6_debtBehind_34 : decode cX6_debtBehind 34 = .ok (.iconst 0, 1) := by decide +kernel
theorem dX6_debtBehind_35 : decode cX6_debtBehind 35 = .ok (.istore 7, 2) := by decide +kernel
theorem dX6_debtBehind_37 : decode cX6_debtBehind 37 = .ok (.iload 7, 2) := by decide +kernel
theorem dX6_debtBehind_39 : decode cX6_debtBehind 39 = .ok (.iload_n 2, 1) := by decide +kernel
theorem dX6_debtBehind_40 : decode cX6_debtBehind 40 = .ok (.if_icmp .ge 27, 3) := by decide +kernel
theorem dX6_debtBehind_43 : decode cX6_debtBehind 43 = .ok (.sipush 9999, 3) := by decide +kernel
theorem dX6_debtBehind_46 : decode cX6_debtBehind 46 = .ok (.iload 6, 2) := by decide +kernel
theorem dX6_debtBehind_48 : decode cX6_debtBehind 48 = .ok (.iload 6, 2) := by decide +kernel
theorem dX6_debtBehind_50 : decode cX6_debtBehind 50 = .ok (.iload_n 3, 1) := by decide +kernel
theorem dX6_debtBehind_51 : decode cX6_debtBehind 51 = .ok (.imul, 1) := by decide +kernel
theorem dX6_debtBehind_52 : decode cX6_debtBehind 52 = .ok (.bipush 100, 2) := by decide +kernel
theorem dX6_debtBehind_54 : decode cX6_debtBehind 54 = .ok (.idiv, 1) := by decide +kernel
theorem dX6_debtBehind_55 : decode cX6_debtBehind 55 = .ok (.iadd, 1) := by decide +kernel
theorem dX6_debtBehind_56 : decode cX6_debtBehind 56 = .ok (.invokestatic 126, 3) := by decide +kernel
theorem dX6_debtBehind_59 : decode cX6_debtBehind 59 = .ok (.istore 6, 2) := by decide +kernel
theorem dX6_debtBehind_61 : decode cX6_debtBehind 61 = .ok (.iinc 7 1, 3) := by decide +kernel
theorem dX6_debtBehind_64 : decode cX6_debtBehind 64 = .ok (.goto (-27), 3) := by decide +kernel
theorem dX6_debtBehind_67 : decode cX6_debtBehind 67 = .ok (.iload 4, 2) := by decide +kernel
theorem dX6_debtBehind_69 : decode cX6_debtBehind 69 = .ok (.iload 6, 2) := by decide +kernel
theorem dX6_debtBehind_71 : decode cX6_debtBehind 71 = .ok (.iadd, 1) := by decide +kernel
theorem dX6_debtBehind_72 : decode cX6_debtBehind 72 = .ok (.istore 4, 2) := by decide +kernel
theorem dX6_debtBehind_74 : decode cX6_debtBehind 74 = .ok (.iinc 5 1, 3) := by decide +kernel
theorem dX6_debtBehind_77 : decode cX6_debtBehind 77 = .ok (.goto (-71), 3) := by decide +kernel
theorem dX6_debtBehind_80 : decode cX6_debtBehind 80 = .ok (.iload 4, 2) := by decide +kernel
theorem dX6_debtBehind_82 : decode cX6_debtBehind 82 = .ok (.ireturn, 1) := by decide +kernel
theorem dX6_owedInAll_0 : decode cX6_owedInAll 0 = .ok (.iconst 0, 1) := by decide +kernel
theorem dX6_owedInAll_1 : decode cX6_owedInAll 1 = .ok (.istore_n 1, 1) := by decide +kernel
theorem dX6_owedInAll_2 : decode cX6_owedInAll 2 = .ok (.iconst 0, 1) := by decide +kernel
theorem dX6_owedInAll_3 : decode cX6_owedInAll 3 = .ok (.istore_n 2, 1) := by decide +kernel
theorem dX6_owedInAll_4 : decode cX6_owedInAll 4 = .ok (.iload_n 2, 1) := by decide +kernel
theorem dX6_owedInAll_5 : decode cX6_owedInAll 5 = .ok (.bipush 8, 2) := by decide +kernel
theorem dX6_owedInAll_7 : decode cX6_owedInAll 7 = .ok (.if_icmp .ge 17, 3) := by decide +kernel
theorem dX6_owedInAll_10 : decode cX6_owedInAll 10 = .ok (.iload_n 1, 1) := by decide +kernel
theorem dX6_owedInAll_11 : decode cX6_owedInAll 11 = .ok (.aload_n 0, 1) := by decide +kernel
theorem dX6_owedInAll_12 : decode cX6_owedInAll 12 = .ok (.iload_n 2, 1) := by decide +kernel
theorem dX6_owedInAll_13 : decode cX6_owedInAll 13 = .ok (.invokevirtual 132, 3) := by decide +kernel
theorem dX6_owedInAll_16 : decode cX6_owedInAll 16 = .ok (.iadd, 1) := by decide +kernel
theorem dX6_owedInAll_17 : decode cX6_owedInAll 17 = .ok (.istore_n 1, 1) := by decide +kernel
theorem dX6_owedInAll_18 : decode cX6_owedInAll 18 = .ok (.iinc 2 1, 3) := by decide +kernel
theorem dX6_owedInAll_21 : decode cX6_owedInAll 21 = .ok (.goto (-17), 3) := by decide +kernel
theorem dX6_owedInAll_24 : decode cX6_owedInAll 24 = .ok (.iload_n 1, 1) := by decide +kernel
theorem dX6_owedInAll_25 : decode cX6_owedInAll 25 = .ok (.ireturn, 1) := by decide +kernel
theorem dX6_waterInAll_0 : decode cX6_waterInAll 0 = .ok (.iconst 0, 1) := by decide +kernel
theorem dX6_waterInAll_1 : decode cX6_waterInAll 1 = .ok (.istore_n 1, 1) := by decide +kernel
theorem dX6_waterInAll_2 : decode cX6_waterInAll 2 = .ok (.iconst 0, 1) := by decide +kernel
theorem dX6_waterInAll_3 : decode cX6_waterInAll 3 = .ok (.istore_n 2, 1) := by decide +kernel
theorem dX6_waterInAll_4 : decode cX6_waterInAll 4 = .ok (.iload_n 2, 1) := by decide +kernel
theorem dX6_waterInAll_5 : decode cX6_waterInAll 5 = .ok (.bipush 8, 2) := by decide +kernel
theorem dX6_waterInAll_7 : decode cX6_waterInAll 7 = .ok (.if_icmp .ge 18, 3) := by decide +kernel
theorem dX6_waterInAll_10 : decode cX6_waterInAll 10 = .ok (.iload_n 1, 1) := by decide +kernel
theorem dX6_waterInAll_11 : decode cX6_waterInAll 11 = .ok (.aload_n 0, 1) := by decide +kernel
theorem dX6_waterInAll_12 : decode cX6_waterInAll 12 = .ok (.getfield 9, 3) := by decide +kernel
theorem dX6_waterInAll_15 : decode cX6_waterInAll 15 = .ok (.iload_n 2, 1) := by decide +kernel
theorem dX6_waterInAll_16 : decode cX6_waterInAll 16 = .ok (.iaload, 1) := by decide +kernel
theorem dX6_waterInAll_17 : decode cX6_waterInAll 17 = .ok (.iadd, 1) := by decide +kernel
theorem dX6_waterInAll_18 : decode cX6_waterInAll 18 = .ok (.istore_n 1, 1) := by decide +kernel
theorem dX6_waterInAll_19 : decode cX6_waterInAll 19 = .ok (.iinc 2 1, 3) := by decide +kernel
theorem dX6_waterInAll_22 : decode cX6_waterInAll 22 = .ok (.goto (-18), 3) := by decide +kernel
theorem dX6_waterInAll_25 : decode cX6_waterInAll 25 = .ok (.iload_n 1, 1) := by decide +kernel
theorem dX6_waterInAll_26 : decode cX6_waterInAll 26 = .ok (.ireturn, 1) := by decide +kernel
theorem dX6_hasDays_0 : decode cX6_hasDays 0 = .ok (.aload_n 0, 1) := by decide +kernel
theorem dX6_hasDays_1 : decode cX6_hasDays 1 = .ok (.getfield 81, 3) := by decide +kernel
theorem dX6_hasDays_4 : decode cX6_hasDays 4 = .ok (.iload_n 1, 1) := by decide +kernel
theorem dX6_hasDays_5 : decode cX6_hasDays 5 = .ok (.iadd, 1) := by decide +kernel
theorem dX6_hasDays_6 : decode cX6_hasDays 6 = .ok (.sipush 9999, 3) := by decide +kernel
theorem dX6_hasDays_9 : decode cX6_hasDays 9 = .ok (.if_icmp .gt 18, 3) := by decide +kernel
theorem dX6_hasDays_12 : decode cX6_hasDays 12 = .ok (.aload_n 0, 1) := by decide +kernel
theorem dX6_hasDays_13 : decode cX6_hasDays 13 = .ok (.getfield 78, 3) := by decide +kernel
theorem dX6_hasDays_16 : decode cX6_hasDays 16 = .ok (.iload_n 1, 1) := by decide +kernel
theorem dX6_hasDays_17 : decode cX6_hasDays 17 = .ok (.iadd, 1) := by decide +kernel
theorem dX6_hasDays_18 : decode cX6_hasDays 18 = .ok (.ldc 135, 2) := by decide +kernel
theorem dX6_hasDays_20 : decode cX6_hasDays 20 = .ok (.if_icmp .gt 7, 3) := by decide +kernel
theorem dX6_hasDays_23 : decode cX6_hasDays 23 = .ok (.iconst 1, 1) := by decide +kernel
theorem dX6_hasDays_24 : decode cX6_hasDays 24 = .ok (.goto 4, 3) := by decide +kernel
theorem dX6_hasDays_27 : decode cX6_hasDays 27 = .ok (.iconst 0, 1) := by decide +kernel
theorem dX6_hasDays_28 : decode cX6_hasDays 28 = .ok (.ireturn, 1) := by decide +kernel
theorem dX6_passDay_0 : decode cX6_passDay 0 = .ok (.iconst 0, 1) := by decide +kernel
theorem dX6_passDay_1 : decode cX6_passDay 1 = .ok (.istore_n 1, 1) := by decide +kernel
theorem dX6_passDay_2 : decode cX6_passDay 2 = .ok (.iload_n 1, 1) := by decide +kernel
theorem dX6_passDay_3 : decode cX6_passDay 3 = .ok (.bipush 8, 2) := by decide +kernel
theorem dX6_passDay_5 : decode cX6_passDay 5 = .ok (.if_icmp .ge 31, 3) := by decide +kernel
theorem dX6_passDay_8 : decode cX6_passDay 8 = .ok (.aload_n 0, 1) := by decide +kernel
theorem dX6_passDay_9 : decode cX6_passDay 9 = .ok (.getfield 9, 3) := by decide +kernel
theorem dX6_passDay_12 : decode cX6_passDay 12 = .ok (.iload_n 1, 1) := by decide +kernel
theorem dX6_passDay_13 : decode cX6_passDay 13 = .ok (.bipush 99, 2) := by decide +kernel
theorem dX6_passDay_15 : decode cX6_passDay 15 = .ok (.aload_n 0, 1) := by decide +kernel
theorem dX6_passDay_16 : decode cX6_passDay 16 = .ok (.getfield 9, 3) := by decide +kernel
theorem dX6_passDay_19 : decode cX6_passDay 19 = .ok (.iload_n 1, 1) := by decide +kernel
theorem dX6_passDay_20 : decode cX6_passDay 20 = .ok (.iaload, 1) := by decide +kernel
theorem dX6_passDay_21 : decode cX6_passDay 21 = .ok (.aload_n 0, 1) := by decide +kernel
theorem dX6_passDay_22 : decode cX6_passDay 22 = .ok (.getfield 42, 3) := by decide +kernel
theorem dX6_passDay_25 : decode cX6_passDay 25 = .ok (.iadd, 1) := by decide +kernel
theorem dX6_passDay_26 : decode cX6_passDay 26 = .ok (.invokestatic 126, 3) := by decide +kernel
theorem dX6_passDay_29 : decode cX6_passDay 29 = .ok (.iastore, 1) := by decide +kernel
theorem dX6_passDay_30 : decode cX6_passDay 30 = .ok (.iinc 1 1, 3) := by decide +kernel
theorem dX6_passDay_33 : decode cX6_passDay 33 = .ok (.goto (-31), 3) := by decide +kernel
theorem dX6_passDay_36 : decode cX6_passDay 36 = .ok (.iconst 0, 1) := by decide +kernel
theorem dX6_passDay_37 : decode cX6_passDay 37 = .ok (.istore_n 1, 1) := by decide +kernel
theorem dX6_passDay_38 : decode cX6_passDay 38 = .ok (.iload_n 1, 1) := by decide +kernel
theorem dX6_passDay_39 : decode cX6_passDay 39 = .ok (.aload_n 0, 1) := by decide +kernel
theorem dX6_passDay_40 : decode cX6_passDay 40 = .ok (.getfield 75, 3) := by decide +kernel
theorem dX6_passDay_43 : decode cX6_passDay 43 = .ok (.if_icmp .ge 31, 3) := by decide +kernel
theorem dX6_passDay_46 : decode cX6_passDay 46 = .ok (.aload_n 0, 1) := by decide +kernel
theorem dX6_passDay_47 : decode cX6_passDay 47 = .ok (.getfield 23, 3) := by decide +kernel
theorem dX6_passDay_50 : decode cX6_passDay 50 = .ok (.iload_n 1, 1) := by decide +kernel
theorem dX6_passDay_51 : decode cX6_passDay 51 = .ok (.aaload, 1) := by decide +kernel
theorem dX6_passDay_52 : decode cX6_passDay 52 = .ok (.getfield 100, 3) := by decide +kernel
theorem dX6_passDay_55 : decode cX6_passDay 55 = .ok (.ifCond .ne 13, 3) := by decide +kernel
theorem dX6_passDay_58 : decode cX6_passDay 58 = .ok (.aload_n 0, 1) := by decide +kernel
theorem dX6_passDay_59 : decode cX6_passDay 59 = .ok (.getfield 23, 3) := by decide +kernel
theorem dX6_passDay_62 : decode cX6_passDay 62 = .ok (.iload_n 1, 1) := by decide +kernel
theorem dX6_passDay_63 : decode cX6_passDay 63 = .ok (.aaload, 1) := by decide +kernel
theorem dX6_passDay_64 : decode cX6_passDay 64 = .ok (.iconst 1, 1) := by decide +kernel
theorem dX6_passDay_65 : decode cX6_passDay 65 = .ok (.invokevirtual 136, 3) := by decide +kernel
theorem dX6_passDay_68 : decode cX6_passDay 68 = .ok (.iinc 1 1, 3) := by decide +kernel
theorem dX6_passDay_71 : decode cX6_passDay 71 = .ok (.goto (-33), 3) := by decide +kernel
theorem dX6_passDay_74 : decode cX6_passDay 74 = .ok (.aload_n 0, 1) := by decide +kernel
theorem dX6_passDay_75 : decode cX6_passDay 75 = .ok (.dup, 1) := by decide +kernel
theorem dX6_passDay_76 : decode cX6_passDay 76 = .ok (.getfield 81, 3) := by decide +kernel
theorem dX6_passDay_79 : decode cX6_passDay 79 = .ok (.iconst 1, 1) := by decide +kernel
theorem dX6_passDay_80 : decode cX6_passDay 80 = .ok (.iadd, 1) := by decide +kernel
theorem dX6_passDay_81 : decode cX6_passDay 81 = .ok (.putfield 81, 3) := by decide +kernel
theorem dX6_passDay_84 : decode cX6_passDay 84 = .ok (.aload_n 0, 1) := by decide +kernel
theorem dX6_passDay_85 : decode cX6_passDay 85 = .ok (.dup, 1) := by decide +kernel
theorem dX6_passDay_86 : decode cX6_passDay 86 = .ok (.getfield 78, 3) := by decide +kernel
theorem dX6_passDay_89 : decode cX6_passDay 89 = .ok (.iconst 1, 1) := by decide +kernel
theorem dX6_passDay_90 : decode cX6_passDay 90 = .ok (.iadd, 1) := by decide +kernel
theorem dX6_passDay_91 : decode cX6_passDay 91 = .ok (.putfield 78, 3) := by decide +kernel
theorem dX6_passDay_94 : decode cX6_passDay 94 = .ok (.return_, 1) := by decide +kernel
theorem dX6_drawWater_0 : decode cX6_drawWater 0 = .ok (.aload_n 0, 1) := by decide +kernel
theorem dX6_drawWater_1 : decode cX6_drawWater 1 = .ok (.invokevirtual 139, 3) := by decide +kernel
theorem dX6_drawWater_4 : decode cX6_drawWater 4 = .ok (.bipush 8, 2) := by decide +kernel
theorem dX6_drawWater_6 : decode cX6_drawWater 6 = .ok (.irem, 1) := by decide +kernel
theorem dX6_drawWater_7 : decode cX6_drawWater 7 = .ok (.istore_n 1, 1) := by decide +kernel
theorem dX6_drawWater_8 : decode cX6_drawWater 8 = .ok (.aload_n 0, 1) := by decide +kernel
theorem dX6_drawWater_9 : decode cX6_drawWater 9 = .ok (.invokevirtual 139, 3) := by decide +kernel
theorem dX6_drawWater_12 : decode cX6_drawWater 12 = .ok (.bipush 20, 2) := by decide +kernel
theorem dX6_drawWater_14 : decode cX6_drawWater 14 = .ok (.irem, 1) := by decide +kernel
theorem dX6_drawWater_15 : decode cX6_drawWater 15 = .ok (.istore_n 2, 1) := by decide +kernel
theorem dX6_drawWater_16 : decode cX6_drawWater 16 = .ok (.iload_n 1, 1) := by decide +kernel
theorem dX6_drawWater_17 : decode cX6_drawWater 17 = .ok (.invokestatic 122, 3) := by decide +kernel
theorem dX6_drawWater_20 : decode cX6_drawWater 20 = .ok (.ifCond .eq 10, 3) := by decide +kernel
theorem dX6_drawWater_23 : decode cX6_drawWater 23 = .ok (.aload_n 0, 1) := by decide +kernel
theorem dX6_drawWater_24 : decode cX6_drawWater 24 = .ok (.getfield 9, 3) := by decide +kernel
theorem dX6_drawWater_27 : decode cX6_drawWater 27 = .ok (.iload_n 1, 1) := by decide +kernel
theorem dX6_drawWater_28 : decode cX6_drawWater 28 = .ok (.iload_n 2, 1) := by decide +kernel
theorem dX6_drawWater_29 : decode cX6_drawWater 29 = .ok (.iastore, 1) := by decide +kernel
theorem dX6_drawWater_30 : decode cX6_drawWater 30 = .ok (.return_, 1) := by decide +kernel
theorem dX6_draw_0 : decode cX6_draw 0 = .ok (.aload_n 0, 1) := by decide +kernel
theorem dX6_draw_1 : decode cX6_draw 1 = .ok (.aload_n 0, 1) := by decide +kernel
theorem dX6_draw_2 : decode cX6_draw 2 = .ok (.getfield 46, 3) := by decide +kernel
theorem dX6_draw_5 : decode cX6_draw 5 = .ok (.ldc 143, 2) := by decide +kernel
theorem dX6_draw_7 : decode cX6_draw 7 = .ok (.imul, 1) := by decide +kernel
theorem dX6_draw_8 : decode cX6_draw 8 = .ok (.sipush 12345, 3) := by decide +kernel
theorem dX6_draw_11 : decode cX6_draw 11 = .ok (.iadd, 1) := by decide +kernel
theorem dX6_draw_12 : decode cX6_draw 12 = .ok (.putfield 46, 3) := by decide +kernel
theorem dX6_draw_15 : decode cX6_draw 15 = .ok (.aload_n 0, 1) := by decide +kernel
theorem dX6_draw_16 : decode cX6_draw 16 = .ok (.getfield 46, 3) := by decide +kernel
theorem dX6_draw_19 : decode cX6_draw 19 = .ok (.bipush 8, 2) := by decide +kernel
theorem dX6_draw_21 : decode cX6_draw 21 = .ok (.iushr, 1) := by decide +kernel
theorem dX6_draw_22 : decode cX6_draw 22 = .ok (.ireturn, 1) := by decide +kernel
theorem dX6_deadBehind_0 : decode cX6_deadBehind 0 = .ok (.iconst 0, 1) := by decide +kernel
theorem dX6_deadBehind_1 : decode cX6_deadBehind 1 = .ok (.istore_n 2, 1) := by decide +kernel
theorem dX6_deadBehind_2 : decode cX6_deadBehind 2 = .ok (.iconst 0, 1) := by decide +kernel
theorem dX6_deadBehind_3 : decode cX6_deadBehind 3 = .ok (.istore_n 3, 1) := by decide +kernel
theorem dX6_deadBehind_4 : decode cX6_deadBehind 4 = .ok (.iload_n 3, 1) := by decide +kernel
theorem dX6_deadBehind_5 : decode cX6_deadBehind 5 = .ok (.aload_n 0, 1) := by decide +kernel
theorem dX6_deadBehind_6 : decode cX6_deadBehind 6 = .ok (.getfield 75, 3) := by decide +kernel
theorem dX6_deadBehind_9 : decode cX6_deadBehind 9 = .ok (.if_icmp .ge 47, 3) := by decide +kernel
theorem dX6_deadBehind_12 : decode cX6_deadBehind 12 = .ok (.aload_n 0, 1) := by decide +kernel
theorem dX6_deadBehind_13 : decode cX6_deadBehind 13 = .ok (.getfield 23, 3) := by decide +kernel
theorem dX6_deadBehind_16 : decode cX6_deadBehind 16 = .ok (.iload_n 3, 1) := by decide +kernel
theorem dX6_deadBehind_17 : decode cX6_deadBehind 17 = .ok (.aaload, 1) := by decide +kernel
theorem dX6_deadBehind_18 : decode cX6_deadBehind 18 = .ok (.astore 4, 2) := by decide +kernel
theorem dX6_deadBehind_20 : decode cX6_deadBehind 20 = .ok (.aload 4, 2) := by decide +kernel
theorem dX6_deadBehind_22 : decode cX6_deadBehind 22 = .ok (.getfield 100, 3) := by decide +kernel
theorem dX6_deadBehind_25 : decode cX6_deadBehind 25 = .ok (.ifCond .ne 22, 3) := by decide +kernel
theorem dX6_deadBehind_28 : decode cX6_deadBehind 28 = .ok (.iload_n 1, 1) := by decide +kernel
theorem dX6_deadBehind_29 : decode cX6_deadBehind 29 = .ok (.ifCond .le 21, 3) := by decide +kernel
theorem dX6_deadBehind_32 : decode cX6_deadBehind 32 = .ok (.aload 4, 2) := by decide +kernel
theorem dX6_deadBehind_34 : decode cX6_deadBehind 34 = .ok (.getfield 144, 3) := by decide +kernel
theorem dX6_deadBehind_37 : decode cX6_deadBehind 37 = .ok (.iload_n 1, 1) := by decide +kernel
theorem dX6_deadBehind_38 : decode cX6_deadBehind 38 = .ok (.iadd, 1) := by decide +kernel
theorem dX6_deadBehind_39 : decode cX6_deadBehind 39 = .ok (.aload 4, 2) := by decide +kernel
theorem dX6_deadBehind_41 : decode cX6_deadBehind 41 = .ok (.invokevirtual 147, 3) := by decide +kernel
theorem dX6_deadBehind_44 : decode cX6_deadBehind 44 = .ok (.if_icmp .le 6, 3) := by decide +kernel
theorem dX6_deadBehind_47 : decode cX6_deadBehind 47 = .ok (.iinc 2 1, 3) := by decide +kernel
theorem dX6_deadBehind_50 : decode cX6_deadBehind 50 = .ok (.iinc 3 1, 3) := by decide +kernel
theorem dX6_deadBehind_53 : decode cX6_deadBehind 53 = .ok (.goto (-49), 3) := by decide +kernel
theorem dX6_deadBehind_56 : decode cX6_deadBehind 56 = .ok (.iload_n 2, 1) := by decide +kernel
theorem dX6_deadBehind_57 : decode cX6_deadBehind 57 = .ok (.ireturn, 1) := by decide +kernel
theorem dX6_takeWaters_0 : decode cX6_takeWaters 0 = .ok (.iconst 0, 1) := by decide +kernel
theorem dX6_takeWaters_1 : decode cX6_takeWaters 1 = .ok (.istore_n 2, 1) := by decide +kernel
theorem dX6_takeWaters_2 : decode cX6_takeWaters 2 = .ok (.iload_n 2, 1) := by decide +kernel
theorem dX6_takeWaters_3 : decode cX6_takeWaters 3 = .ok (.aload_n 1, 1) := by decide +kernel
theorem dX6_takeWaters_4 : decode cX6_takeWaters 4 = .ok (.getfield 150, 3) := by decide +kernel
theorem dX6_takeWaters_7 : decode cX6_takeWaters 7 = .ok (.if_icmp .ge 45, 3) := by decide +kernel
theorem dX6_takeWaters_10 : decode cX6_takeWaters 10 = .ok (.iload_n 2, 1) := by decide +kernel
theorem dX6_takeWaters_11 : decode cX6_takeWaters 11 = .ok (.invokestatic 122, 3) := by decide +kernel
theorem dX6_takeWaters_14 : decode cX6_takeWaters 14 = .ok (.ifCond .eq 18, 3) := by decide +kernel
theorem dX6_takeWaters_17 : decode cX6_takeWaters 17 = .ok (.aload_n 1, 1) := by decide +kernel
theorem dX6_takeWaters_18 : decode cX6_takeWaters 18 = .ok (.getfield 155, 3) := by decide +kernel
theorem dX6_takeWaters_21 : decode cX6_takeWaters 21 = .ok (.iload_n 2, 1) := by decide +kernel
theorem dX6_takeWaters_22 : decode cX6_takeWaters 22 = .ok (.iaload, 1) := by decide +kernel
theorem dX6_takeWaters_23 : decode cX6_takeWaters 23 = .ok (.iconst 0, 1) := by decide +kernel
theorem dX6_takeWaters_24 : decode cX6_takeWaters 24 = .ok (.bipush 99, 2) := by decide +kernel
theorem dX6_takeWaters_26 : decode cX6_takeWaters 26 = .ok (.invokestatic 158, 3) := by decide +kernel
theorem dX6_takeWaters_29 : decode cX6_takeWaters 29 = .ok (.ifCond .ne 5, 3) := by decide +kernel
theorem dX6_takeWaters_32 : decode cX6_takeWaters 32 = .ok (.iload_n 2, 1) := by decide +kernel
theorem dX6_takeWaters_33 : decode cX6_takeWaters 33 = .ok (.ireturn, 1) := by decide +kernel
theorem dX6_takeWaters_34 : decode cX6_takeWaters 34 = .ok (.aload_n 0, 1) := by decide +kernel
theorem dX6_takeWaters_35 : decode cX6_takeWaters 35 = .ok (.getfield 9, 3) := by decide +kernel
theorem dX6_takeWaters_38 : decode cX6_takeWaters 38 = .ok (.iload_n 2, 1) := by decide +kernel
theorem dX6_takeWaters_39 : decode cX6_takeWaters 39 = .ok (.aload_n 1, 1) := by decide +kernel
theorem dX6_takeWaters_40 : decode cX6_takeWaters 40 = .ok (.getfield 155, 3) := by decide +kernel
theorem dX6_takeWaters_43 : decode cX6_takeWaters 43 = .ok (.iload_n 2, 1) := by decide +kernel
theorem dX6_takeWaters_44 : decode cX6_takeWaters 44 = .ok (.iaload, 1) := by decide +kernel
theorem dX6_takeWaters_45 : decode cX6_takeWaters 45 = .ok (.iastore, 1) := by decide +kernel
theorem dX6_takeWaters_46 : decode cX6_takeWaters 46 = .ok (.iinc 2 1, 3) := by decide +kernel
theorem dX6_takeWaters_49 : decode cX6_takeWaters 49 = .ok (.goto (-47), 3) := by decide +kernel
theorem dX6_takeWaters_52 : decode cX6_takeWaters 52 = .ok (.aload_n 1, 1) := by decide +kernel
theorem dX6_takeWaters_53 : decode cX6_takeWaters 53 = .ok (.getfield 150, 3) := by decide +kernel
theorem dX6_takeWaters_56 : decode cX6_takeWaters 56 = .ok (.ireturn, 1) := by decide +kernel
theorem dX6_firstMisnamed_0 : decode cX6_firstMisnamed 0 = .ok (.aload_n 1, 1) := by decide +kernel
theorem dX6_firstMisnamed_1 : decode cX6_firstMisnamed 1 = .ok (.getfield 150, 3) := by decide +kernel
theorem dX6_firstMisnamed_4 : decode cX6_firstMisnamed 4 = .ok (.aload_n 0, 1) := by decide +kernel
theorem dX6_firstMisnamed_5 : decode cX6_firstMisnamed 5 = .ok (.getfield 75, 3) := by decide +kernel
theorem dX6_firstMisnamed_8 : decode cX6_firstMisnamed 8 = .ok (.invokestatic 126, 3) := by decide +kernel
theorem dX6_firstMisnamed_11 : decode cX6_firstMisnamed 11 = .ok (.istore_n 2, 1) := by decide +kernel
theorem dX6_firstMisnamed_12 : decode cX6_firstMisnamed 12 = .ok (.iconst 0, 1) := by decide +kernel
theorem dX6_firstMisnamed_13 : decode cX6_firstMisnamed 13 = .ok (.istore_n 3, 1) := by decide +kernel
theorem dX6_firstMisnamed_14 : decode cX6_firstMisnamed 14 = .ok (.iload_n 3, 1) := by decide +kernel
theorem dX6_firstMisnamed_15 : decode cX6_firstMisnamed 15 = .ok (.iload_n 2, 1) := by decide +kernel
theorem dX6_firstMisnamed_16 : decode cX6_firstMisnamed 16 = .ok (.if_icmp .ge 29, 3) := by decide +kernel
theorem dX6_firstMisnamed_19 : decode cX6_firstMisnamed 19 = .ok (.aload_n 1, 1) := by decide +kernel
theorem dX6_firstMisnamed_20 : decode cX6_firstMisnamed 20 = .ok (.getfield 155, 3) := by decide +kernel
theorem dX6_firstMisnamed_23 : decode cX6_firstMisnamed 23 = .ok (.iload_n 3, 1) := by decide +kernel
theorem dX6_firstMisnamed_24 : decode cX6_firstMisnamed 24 = .ok (.iaload, 1) := by decide +kernel
theorem dX6_firstMisnamed_25 : decode cX6_firstMisnamed 25 = .ok (.aload_n 0, 1) := by decide +kernel
theorem dX6_firstMisnamed_26 : decode cX6_firstMisnamed 26 = .ok (.getfield 23, 3) := by decide +kernel
theorem dX6_firstMisnamed_29 : decode cX6_firstMisnamed 29 = .ok (.iload_n 3, 1) := by decide +kernel
theorem dX6_firstMisnamed_30 : decode cX6_firstMisnamed 30 = .ok (.aaload, 1) := by decide +kernel
theorem dX6_firstMisnamed_31 : decode cX6_firstMisnamed 31 = .ok (.getfield 104, 3) := by decide +kernel
theorem dX6_firstMisnamed_34 : decode cX6_firstMisnamed 34 = .ok (.if_icmp .eq 5, 3) := by decide +kernel
theorem dX6_firstMisnamed_37 : decode cX6_firstMisnamed 37 = .ok (.iload_n 3, 1) := by decide +kernel
theorem dX6_firstMisnamed_38 : decode cX6_firstMisnamed 38 = .ok (.ireturn, 1) := by decide +kernel
theorem dX6_firstMisnamed_39 : decode cX6_firstMisnamed 39 = .ok (.iinc 3 1, 3) := by decide +kernel
theorem dX6_firstMisnamed_42 : decode cX6_firstMisnamed 42 = .ok (.goto (-28), 3) := by decide +kernel
theorem dX6_firstMisnamed_45 : decode cX6_firstMisnamed 45 = .ok (.aload_n 1, 1) := by decide +kernel
theorem dX6_firstMisnamed_46 : decode cX6_firstMisnamed 46 = .ok (.getfield 150, 3) := by decide +kernel
theorem dX6_firstMisnamed_49 : decode cX6_firstMisnamed 49 = .ok (.aload_n 0, 1) := by decide +kernel
theorem dX6_firstMisnamed_50 : decode cX6_firstMisnamed 50 = .ok (.getfield 75, 3) := by decide +kernel
theorem dX6_firstMisnamed_53 : decode cX6_firstMisnamed 53 = .ok (.if_icmp .ne 7, 3) := by decide +kernel
theorem dX6_firstMisnamed_56 : decode cX6_firstMisnamed 56 = .ok (.iconst (-1), 1) := by decide +kernel
theorem dX6_firstMisnamed_57 : decode cX6_firstMisnamed 57 = .ok (.goto 4, 3) := by decide +kernel
theorem dX6_firstMisnamed_60 : decode cX6_firstMisnamed 60 = .ok (.iload_n 2, 1) := by decide +kernel
theorem dX6_firstMisnamed_61 : decode cX6_firstMisnamed 61 = .ok (.ireturn, 1) := by decide +kernel
theorem dX7_init_0 : decode cX7_init 0 = .ok (.aload_n 0, 1) := by decide +kernel
theorem dX7_init_1 : decode cX7_init 1 = .ok (.invokespecial 1, 3) := by decide +kernel
theorem dX7_init_4 : decode cX7_init 4 = .ok (.aload_n 0, 1) := by decide +kernel
theorem dX7_init_5 : decode cX7_init 5 = .ok (.new 7, 3) := by decide +kernel
theorem dX7_init_8 : decode cX7_init 8 = .ok (.dup, 1) := by decide +kernel
theorem dX7_init_9 : decode cX7_init 9 = .ok (.invokespecial 9, 3) := by decide +kernel
theorem dX7_init_12 : decode cX7_init 12 = .ok (.putfield 10, 3) := by decide +kernel
theorem dX7_init_15 : decode cX7_init 15 = .ok (.aload_n 0, 1) := by decide +kernel
theorem dX7_init_16 : decode cX7_init 16 = .ok (.new 7, 3) := by decide +kernel
theorem dX7_init_19 : decode cX7_init 19 = .ok (.dup, 1) := by decide +kernel
theorem dX7_init_20 : decode cX7_init 20 = .ok (.invokespecial 9, 3) := by decide +kernel
theorem dX7_init_23 : decode cX7_init 23 = .ok (.putfield 16, 3) := by decide +kernel
theorem dX7_init_26 : decode cX7_init 26 = .ok (.aload_n 0, 1) := by decide +kernel
theorem dX7_init_27 : decode cX7_init 27 = .ok (.new 19, 3) := by decide +kernel
theorem dX7_init_30 : decode cX7_init 30 = .ok (.dup, 1) := by decide +kernel
theorem dX7_init_31 : decode cX7_init 31 = .ok (.invokespecial 21, 3) := by decide +kernel
theorem dX7_init_34 : decode cX7_init 34 = .ok (.putfield 22, 3) := by decide +kernel
theorem dX7_init_37 : decode cX7_init 37 = .ok (.aload_n 0, 1) := by decide +kernel
theorem dX7_init_38 : decode cX7_init 38 = .ok (.new 26, 3) := by decide +kernel
theorem dX7_init_41 : decode cX7_init 41 = .ok (.dup, 1) := by decide +kernel
theorem dX7_init_42 : decode cX7_init 42 = .ok (.invokespecial 28, 3) := by decide +kernel
theorem dX7_init_45 : decode cX7_init 45 = .ok (.putfield 29, 3) := by decide +kernel
theorem dX7_init_48 : decode cX7_init 48 = .ok (.aload_n 0, 1) := by decide +kernel
theorem dX7_init_49 : decode cX7_init 49 = .ok (.new 33, 3) := by decide +kernel
theorem dX7_init_52 : decode cX7_init 52 = .ok (.dup, 1) := by decide +kernel
theorem dX7_init_53 : decode cX7_init 53 = .ok (.invokespecial 35, 3) := by decide +kernel
theorem dX7_init_56 : decode cX7_init 56 = .ok (.putfield 36, 3) := by decide +kernel
theorem dX7_init_59 : decode cX7_init 59 = .ok (.aload_n 0, 1) := by decide +kernel
theorem dX7_init_60 : decode cX7_init 60 = .ok (.iconst 4, 1) := by decide +kernel
theorem dX7_init_61 : decode cX7_init 61 = .ok (.anewarray 40, 3) := by decide +kernel
theorem dX7_init_64 : decode cX7_init 64 = .ok (.putfield 42, 3) := by decide +kernel
theorem dX7_init_67 : decode cX7_init 67 = .ok (.aload_n 0, 1) := by decide +kernel
theorem dX7_init_68 : decode cX7_init 68 = .ok (.bipush 6, 2) := by decide +kernel
theorem dX7_init_70 : decode cX7_init 70 = .ok (.newarray .int, 2) := by decide +kernel
theorem dX7_init_72 : decode cX7_init 72 = .ok (.putfield 46, 3) := by decide +kernel
theorem dX7_init_75 : decode cX7_init 75 = .ok (.iconst 0, 1) := by decide +kernel
theorem dX7_init_76 : decode cX7_init 76 = .ok (.istore_n 1, 1) := by decide +kernel
theorem dX7_init_77 : decode cX7_init 77 = .ok (.iload_n 1, 1) := by decide +kernel
theorem dX7_init_78 : decode cX7_init 78 = .ok (.iconst 4, 1) := by decide +kernel
theorem dX7_init_79 : decode cX7_init 79 = .ok (.if_icmp .ge 22, 3) := by decide +kernel
theorem dX7_init_82 : decode cX7_init 82 = .ok (.aload_n 0, 1) := by decide +kernel
theorem dX7_init_83 : decode cX7_init 83 = .ok (.getfield 42, 3) := by decide +kernel
theorem dX7_init_86 : decode cX7_init 86 = .ok (.iload_n 1, 1) := by decide +kernel
theorem dX7_init_87 : decode cX7_init 87 = .ok (.new 40, 3) := by decide +kernel
theorem dX7_init_90 : decode cX7_init 90 = .ok (.dup, 1) := by decide +kernel
theorem dX7_init_91 : decode cX7_init 91 = .ok (.invokespecial 50, 3) := by decide +kernel
theorem dX7_init_94 : decode cX7_init 94 = .ok (.aastore, 1) := by decide +kernel
theorem dX7_init_95 : decode cX7_init 95 = .ok (.iinc 1 1, 3) := by decide +kernel
theorem dX7_init_98 : decode cX7_init 98 = .ok (.goto (-21), 3) := by decide +kernel
theorem dX7_init_101 : decode cX7_init 101 = .ok (.return_, 1) := by decide +kernel
theorem dX7_water_0 : decode cX7_water 0 = .ok (.iload_n 1, 1) := by decide +kernel
theorem dX7_water_1 : decode cX7_water 1 = .ok (.invokestatic 51, 3) := by decide +kernel
theorem dX7_water_4 : decode cX7_water 4 = .ok (.ifCond .eq 13, 3) := by decide +kernel
theorem dX7_water_7 : decode cX7_water 7 = .ok (.iload_n 2, 1) := by decide +kernel
theorem dX7_water_8 : decode cX7_water 8 = .ok (.iconst 0, 1) := by decide +kernel
theorem dX7_water_9 : decode cX7_water 9 = .ok (.bipush 99, 2) := by decide +kernel
theorem dX7_water_11 : decode cX7_water 11 = .ok (.invokestatic 55, 3) := by decide +kernel
theorem dX7_water_14 : decode cX7_water 14 = .ok (.ifCond .ne 9, 3) := by decide +kernel
theorem dX7_water_17 : decode cX7_water 17 = .ok (.aload_n 0, 1) := by decide +kernel
theorem dX7_water_18 : decode cX7_water 18 = .ok (.iconst 1, 1) := by decide +kernel
theorem dX7_water_19 : decode cX7_water 19 = .ok (.invokevirtual 59, 3) := by decide +kernel
theorem dX7_water_22 : decode cX7_water 22 = .ok (.ireturn, 1) := by decide +kernel
theorem dX7_water_23 : decode cX7_water 23 = .ok (.aload_n 0, 1) := by decide +kernel
theorem dX7_water_24 : decode cX7_water 24 = .ok (.getfield 10, 3) := by decide +kernel
theorem dX7_water_27 : decode cX7_water 27 = .ok (.getfield 63, 3) := by decide +kernel
theorem dX7_water_30 : decode cX7_water 30 = .ok (.iload_n 1, 1) := by decide +kernel
theorem dX7_water_31 : decode cX7_water 31 = .ok (.iaload, 1) := by decide +kernel
theorem dX7_water_32 : decode cX7_water 32 = .ok (.istore_n 3, 1) := by decide +kernel
theorem dX7_water_33 : decode cX7_water 33 = .ok (.aload_n 0, 1) := by decide +kernel
theorem dX7_water_34 : decode cX7_water 34 = .ok (.getfield 10, 3) := by decide +kernel
theorem dX7_water_37 : decode cX7_water 37 = .ok (.getfield 63, 3) := by decide +kernel
theorem dX7_water_40 : decode cX7_water 40 = .ok (.iload_n 1, 1) := by decide +kernel
theorem dX7_water_41 : decode cX7_water 41 = .ok (.iload_n 2, 1) := by decide +kernel
theorem dX7_water_42 : decode cX7_water 42 = .ok (.iastore, 1) := by decide +kernel
theorem dX7_water_43 : decode cX7_water 43 = .ok (.iload_n 3, 1) := by decide +kernel
theorem dX7_water_44 : decode cX7_water 44 = .ok (.ireturn, 1) := by decide +kernel
theorem dX7_road_0 : decode cX7_road 0 = .ok (.iload_n 1, 1) := by decide +kernel
theorem dX7_road_1 : decode cX7_road 1 = .ok (.iload_n 2, 1) := by decide +kernel
theorem dX7_road_2 : decode cX7_road 2 = .ok (.invokestatic 66, 3) := by decide +kernel
theorem dX7_road_5 : decode cX7_road 5 = .ok (.ifCond .eq 13, 3) := by decide +kernel
theorem dX7_road_8 : decode cX7_road 8 = .ok (.iload_n 3, 1) := by decide +kernel
theorem dX7_road_9 : decode cX7_road 9 = .ok (.iconst 0, 1) := by decide +kernel
theorem dX7_road_10 : decode cX7_road 10 = .ok (.bipush 20, 2) := by decide +kernel
theorem dX7_road_12 : decode cX7_road 12 = .ok (.invokestatic 55, 3) := by decide +kernel
theorem dX7_road_15 : decode cX7_road 15 = .ok (.ifCond .ne 9, 3) := by decide +kernel
theorem dX7_road_18 : decode cX7_road 18 = .ok (.aload_n 0, 1) := by decide +kernel
theorem dX7_road_19 : decode cX7_road 19 = .ok (.iconst 1, 1) := by decide +kernel
theorem dX7_road_20 : decode cX7_road 20 = .ok (.invokevirtual 59, 3) := by decide +kernel
theorem dX7_road_23 : decode cX7_road 23 = .ok (.ireturn, 1) := by decide +kernel
theorem dX7_road_24 : decode cX7_road 24 = .ok (.aload_n 0, 1) := by decide +kernel
theorem dX7_road_25 : decode cX7_road 25 = .ok (.getfield 10, 3) := by decide +kernel
theorem dX7_road_28 : decode cX7_road 28 = .ok (.getfield 70, 3) := by decide +kernel
theorem dX7_road_31 : decode cX7_road 31 = .ok (.iload_n 1, 1) := by decide +kernel
theorem dX7_road_32 : decode cX7_road 32 = .ok (.bipush 8, 2) := by decide +kernel
theorem dX7_road_34 : decode cX7_road 34 = .ok (.imul, 1) := by decide +kernel
theorem dX7_road_35 : decode cX7_road 35 = .ok (.iload_n 2, 1) := by decide +kernel
theorem dX7_road_36 : decode cX7_road 36 = .ok (.iadd, 1) := by decide +kernel
theorem dX7_road_37 : decode cX7_road 37 = .ok (.iaload, 1) := by decide +kernel
theorem dX7_road_38 : decode cX7_road 38 = .ok (.istore 4, 2) := by decide +kernel
theorem dX7_road_40 : decode cX7_road 40 = .ok (.aload_n 0, 1) := by decide +kernel
theorem dX7_road_41 : decode cX7_road 41 = .ok (.getfield 10, 3) := by decide +kernel
theorem dX7_road_44 : decode cX7_road 44 = .ok (.getfield 70, 3) := by decide +kernel
theorem dX7_road_47 : decode cX7_road 47 = .ok (.iload_n 1, 1) := by decide +kernel
theorem dX7_road_48 : decode cX7_road 48 = .ok (.bipush 8, 2) := by decide +kernel
theorem dX7_road_50 : decode cX7_road 50 = .ok (.imul, 1) := by decide +kernel
theorem dX7_road_51 : decode cX7_road 51 = .ok (.iload_n 2, 1) := by decide +kernel
theorem dX7_road_52 : decode cX7_road 52 = .ok (.iadd, 1) := by decide +kernel
theorem dX7_road_53 : decode cX7_road 53 = .ok (.iload_n 3, 1) := by decide +kernel
theorem dX7_road_54 : decode cX7_road 54 = .ok (.iastore, 1) := by decide +kernel
theorem dX7_road_55 : decode cX7_road 55 = .ok (.aload_n 0, 1) := by decide +kernel
theorem dX7_road_56 : decode cX7_road 56 = .ok (.getfield 10, 3) := by decide +kernel
theorem dX7_road_59 : decode cX7_road 59 = .ok (.getfield 70, 3) := by decide +kernel
theorem dX7_road_62 : decode cX7_road 62 = .ok (.iload_n 2, 1) := by decide +kernel
theorem dX7_road_63 : decode cX7_road 63 = .ok (.bipush 8, 2) := by decide +kernel
theorem dX7_road_65 : decode cX7_road 65 = .ok (.imul, 1) := by decide +kernel
theorem dX7_road_66 : decode cX7_road 66 = .ok (.iload_n 1, 1) := by decide +kernel
theorem dX7_road_67 : decode cX7_road 67 = .ok (.iadd, 1) := by decide +kernel
theorem dX7_road_68 : decode cX7_road 68 = .ok (.iload_n 3, 1) := by decide +kernel
theorem dX7_road_69 : decode cX7_road 69 = .ok (.iastore, 1) := by decide +kernel
theorem dX7_road_70 : decode cX7_road 70 = .ok (.iload 4, 2) := by decide +kernel
theorem dX7_road_72 : decode cX7_road 72 = .ok (.ireturn, 1) := by decide +kernel
theorem dX7_owe_0 : decode cX7_owe 0 = .ok (.iload_n 1, 1) := by decide +kernel
theorem dX7_owe_1 : decode cX7_owe 1 = .ok (.iload_n 2, 1) := by decide +kernel
theorem dX7_owe_2 : decode cX7_owe 2 = .ok (.invokestatic 66, 3) := by decide +kernel
theorem dX7_owe_5 : decode cX7_owe 5 = .ok (.ifCond .eq 14, 3) := by decide +kernel
theorem dX7_owe_8 : decode cX7_owe 8 = .ok (.iload_n 3, 1) := by decide +kernel
theorem dX7_owe_9 : decode cX7_owe 9 = .ok (.iconst 0, 1) := by decide +kernel
theorem dX7_owe_10 : decode cX7_owe 10 = .ok (.sipush 9999, 3) := by decide +kernel
theorem dX7_owe_13 : decode cX7_owe 13 = .ok (.invokestatic 55, 3) := by decide +kernel
theorem dX7_owe_16 : decode cX7_owe 16 = .ok (.ifCond .ne 9, 3) := by decide +kernel
theorem dX7_owe_19 : decode cX7_owe 19 = .ok (.aload_n 0, 1) := by decide +kernel
theorem dX7_owe_20 : decode cX7_owe 20 = .ok (.iconst 1, 1) := by decide +kernel
theorem dX7_owe_21 : decode cX7_owe 21 = .ok (.invokevirtual 59, 3) := by decide +kernel
theorem dX7_owe_24 : decode cX7_owe 24 = .ok (.ireturn, 1) := by decide +kernel
theorem dX7_owe_25 : decode cX7_owe 25 = .ok (.aload_n 0, 1) := by decide +kernel
theorem dX7_owe_26 : decode cX7_owe 26 = .ok (.getfield 10, 3) := by decide +kernel
theorem dX7_owe_29 : decode cX7_owe 29 = .ok (.getfield 73, 3) := by decide +kernel
theorem dX7_owe_32 : decode cX7_owe 32 = .ok (.iload_n 1, 1) := by decide +kernel
theorem dX7_owe_33 : decode cX7_owe 33 = .ok (.bipush 8, 2) := by decide +kernel
theorem dX7_owe_35 : decode cX7_owe 35 = .ok (.imul, 1) := by decide +kernel
theorem dX7_owe_36 : decode cX7_owe 36 = .ok (.iload_n 2, 1) := by decide +kernel
theorem dX7_owe_37 : decode cX7_owe 37 = .ok (.iadd, 1) := by decide +kernel
theorem dX7_owe_38 : decode cX7_owe 38 = .ok (.iaload, 1) := by decide +kernel
theorem dX7_owe_39 : decode cX7_owe 39 = .ok (.istore 4, 2) := by decide +kernel
theorem dX7_owe_41 : decode cX7_owe 41 = .ok (.aload_n 0, 1) := by decide +kernel
theorem dX7_owe_42 : decode cX7_owe 42 = .ok (.getfield 10, 3) := by decide +kernel
theorem dX7_owe_45 : decode cX7_owe 45 = .ok (.getfield 73, 3) := by decide +kernel
theorem dX7_owe_48 : decode cX7_owe 48 = .ok (.iload_n 1, 1) := by decide +kernel
theorem dX7_owe_49 : decode cX7_owe 49 = .ok (.bipush 8, 2) := by decide +kernel
theorem dX7_owe_51 : decode cX7_owe 51 = .ok (.imul, 1) := by decide +kernel
theorem dX7_owe_52 : decode cX7_owe 52 = .ok (.iload_n 2, 1) := by decide +kernel
theorem dX7_owe_53 : decode cX7_owe 53 = .ok (.iadd, 1) := by decide +kernel
theorem dX7_owe_54 : decode cX7_owe 54 = .ok (.iload_n 3, 1) := by decide +kernel
theorem dX7_owe_55 : decode cX7_owe 55 = .ok (.iastore, 1) := by decide +kernel
theorem dX7_owe_56 : decode cX7_owe 56 = .ok (.iload 4, 2) := by decide +kernel
theorem dX7_owe_58 : decode cX7_owe 58 = .ok (.ireturn, 1) := by decide +kernel
theorem dX7_ofWell_0 : decode cX7_ofWell 0 = .ok (.iload_n 1, 1) := by decide +kernel
theorem dX7_ofWell_1 : decode cX7_ofWell 1 = .ok (.invokestatic 51, 3) := by decide +kernel
theorem dX7_ofWell_4 : decode cX7_ofWell 4 = .ok (.ifCond .ne 9, 3) := by decide +kernel
theorem dX7_ofWell_7 : decode cX7_ofWell 7 = .ok (.aload_n 0, 1) := by decide +kernel
theorem dX7_ofWell_8 : decode cX7_ofWell 8 = .ok (.iconst 1, 1) := by decide +kernel
theorem dX7_ofWell_9 : decode cX7_ofWell 9 = .ok (.invokevirtual 59, 3) := by decide +kernel
theorem dX7_ofWell_12 : decode cX7_ofWell 12 = .ok (.ireturn, 1) := by decide +kernel
theorem dX7_ofWell_13 : decode cX7_ofWell 13 = .ok (.iload_n 2, 1) := by decide +kernel
theorem dX7_ofWell_14 : decode cX7_ofWell 14 = .ok (.tableswitch 80 0 4 #[34, 44, 53, 62, 71], 34) := by decide +kernel
theorem dX7_ofWell_48 : decode cX7_ofWell 48 = .ok (.aload_n 0, 1) := by decide +kernel
theorem dX7_ofWell_49 : decode cX7_ofWell 49 = .ok (.getfield 10, 3) := by decide +kernel
theorem dX7_ofWell_52 : decode cX7_ofWell 52 = .ok (.getfield 63, 3) := by decide +kernel
theorem dX7_ofWell_55 : decode cX7_ofWell 55 = .ok (.iload_n 1, 1) := by decide +kernel
theorem dX7_ofWell_56 : decode cX7_ofWell 56 = .ok (.iaload, 1) := by decide +kernel
theorem dX7_ofWell_57 : decode cX7_ofWell 57 = .ok (.ireturn, 1) := by decide +kernel
theorem dX7_ofWell_58 : decode cX7_ofWell 58 = .ok (.aload_n 0, 1) := by decide +kernel
theorem dX7_ofWell_59 : decode cX7_ofWell 59 = .ok (.getfield 10, 3) := by decide +kernel
theorem dX7_ofWell_62 : decode cX7_ofWell 62 = .ok (.iload_n 1, 1) := by decide +kernel
theorem dX7_ofWell_63 : decode cX7_ofWell 63 = .ok (.invokevirtual 76, 3) := by decide +kernel
theorem dX7_ofWell_66 : decode cX7_ofWell 66 = .ok (.ireturn, 1) := by decide +kernel
theorem dX7_ofWell_67 : decode cX7_ofWell 67 = .ok (.aload_n 0, 1) := by decide +kernel
theorem dX7_ofWell_68 : decode cX7_ofWell 68 = .ok (.getfield 10, 3) := by decide +kernel
theorem dX7_ofWell_71 : decode cX7_ofWell 71 = .ok (.iload_n 1, 1) := by decide +kernel
theorem dX7_ofWell_72 : decode cX7_ofWell 72 = .ok (.invokevirtual 79, 3) := by decide +kernel
theorem dX7_ofWell_75 : decode cX7_ofWell 75 = .ok (.ireturn, 1) := by decide +kernel
theorem dX7_ofWell_76 : decode cX7_ofWell 76 = .ok (.aload_n 0, 1) := by decide +kernel
theorem dX7_ofWell_77 : decode cX7_ofWell 77 = .ok (.getfield 10, 3) := by decide +kernel
theorem dX7_ofWell_80 : decode cX7_ofWell 80 = .ok (.iload_n 1, 1) := by decide +kernel
theorem dX7_ofWell_81 : decode cX7_ofWell 81 = .ok (.invokevirtual 82, 3) := by decide +kernel
theorem dX7_ofWell_84 : decode cX7_ofWell 84 = .ok (.ireturn, 1) := by decide +kernel
theorem dX7_ofWell_85 : decode cX7_ofWell 85 = .ok (.aload_n 0, 1) := by decide +kernel
theorem dX7_ofWell_86 : decode cX7_ofWell 86 = .ok (.getfield 10, 3) := by decide +kernel
theorem dX7_ofWell_89 : decode cX7_ofWell 89 = .ok (.iload_n 1, 1) := by decide +kernel
theorem dX7_ofWell_90 : decode cX7_ofWell 90 = .ok (.invokevirtual 85, 3) := by decide +kernel
theorem dX7_ofWell_93 : decode cX7_ofWell 93 = .ok (.ireturn, 1) := by decide +kernel
theorem dX7_ofWell_94 : decode cX7_ofWell 94 = .ok (.aload_n 0, 1) := by decide +kernel
theorem dX7_ofWell_95 : decode cX7_ofWell 95 = .ok (.iconst 1, 1) := by decide +kernel
theorem dX7_ofWell_96 : decode cX7_ofWell 96 = .ok (.invokevirtual 59, 3) := by decide +kernel
theorem dX7_ofWell_99 : decode cX7_ofWell 99 = .ok (.ireturn, 1) := by decide +kernel
theorem dX7_rain_0 : decode cX7_rain 0 = .ok (.iload_n 1, 1) := by decide +kernel
theorem dX7_rain_1 : decode cX7_rain 1 = .ok (.iconst 0, 1) := by decide +kernel
theorem dX7_rain_2 : decode cX7_rain 2 = .ok (.bipush 9, 2) := by decide +kernel
theorem dX7_rain_4 : decode cX7_rain 4 = .ok (.invokestatic 55, 3) := by decide +kernel
theorem dX7_rain_7 : decode cX7_rain 7 = .ok (.ifCond .ne 9, 3) := by decide +kernel
theorem dX7_rain_10 : decode cX7_rain 10 = .ok (.aload_n 0, 1) := by decide +kernel
theorem dX7_rain_11 : decode cX7_rain 11 = .ok (.iconst 1, 1) := by decide +kernel
theorem dX7_rain_12 : decode cX7_rain 12 = .ok (.invokevirtual 59, 3) := by decide +kernel
theorem dX7_rain_15 : decode cX7_rain 15 = .ok (.ireturn, 1) := by decide +kernel
theorem dX7_rain_16 : decode cX7_rain 16 = .ok (.aload_n 0, 1) := by decide +kernel
theorem dX7_rain_17 : decode cX7_rain 17 = .ok (.getfield 10, 3) := by decide +kernel
theorem dX7_rain_20 : decode cX7_rain 20 = .ok (.getfield 88, 3) := by decide +kernel
theorem dX7_rain_23 : decode cX7_rain 23 = .ok (.istore_n 2, 1) := by decide +kernel
theorem dX7_rain_24 : decode cX7_rain 24 = .ok (.aload_n 0, 1) := by decide +kernel
theorem dX7_rain_25 : decode cX7_rain 25 = .ok (.getfield 10, 3) := by decide +kernel
theorem dX7_rain_28 : decode cX7_rain 28 = .ok (.iload_n 1, 1) := by decide +kernel
theorem dX7_rain_29 : decode cX7_rain 29 = .ok (.putfield 88, 3) := by decide +kernel
theorem dX7_rain_32 : decode cX7_rain 32 = .ok (.iload_n 2, 1) := by decide +kernel
theorem dX7_rain_33 : decode cX7_rain 33 = .ok (.ireturn, 1) := by decide +kernel
theorem dX7_person_0 : decode cX7_person 0 = .ok (.iload_n 1, 1) := by decide +kernel
theorem dX7_person_1 : decode cX7_person 1 = .ok (.invokestatic 92, 3) := by decide +kernel
theorem dX7_person_4 : decode cX7_person 4 = .ok (.ifCond .eq 10, 3) := by decide +kernel
theorem dX7_person_7 : decode cX7_person 7 = .ok (.iload_n 2, 1) := by decide +kernel
theorem dX7_person_8 : decode cX7_person 8 = .ok (.invokestatic 51, 3) := by decide +kernel
theorem dX7_person_11 : decode cX7_person 11 = .ok (.ifCond .ne 9, 3) := by decide +kernel
theorem dX7_person_14 : decode cX7_person 14 = .ok (.aload_n 0, 1) := by decide +kernel
theorem dX7_person_15 : decode cX7_person 15 = .ok (.iconst 1, 1) := by decide +kernel
theorem dX7_person_16 : decode cX7_person 16 = .ok (.invokevirtual 59, 3) := by decide +kernel
theorem dX7_person_19 : decode cX7_person 19 = .ok (.ireturn, 1) := by decide +kernel
theorem dX7_person_20 : decode cX7_person 20 = .ok (.aload_n 0, 1) := by decide +kernel
theorem dX7_person_21 : decode cX7_person 21 = .ok (.getfield 10, 3) := by decide +kernel
theorem dX7_person_24 : decode cX7_person 24 = .ok (.getfield 95, 3) := by decide +kernel
theorem dX7_person_27 : decode cX7_person 27 = .ok (.bipush 6, 2) := by decide +kernel
theorem dX7_person_29 : decode cX7_person 29 = .ok (.if_icmp .lt 9, 3) := by decide +kernel
theorem dX7_person_32 : decode cX7_person 32 = .ok (.aload_n 0, 1) := by decide +kernel
theorem dX7_person_33 : decode cX7_person 33 = .ok (.iconst 4, 1) := by decide +kernel
theorem dX7_person_34 : decode cX7_person 34 = .ok (.invokevirtual 59, 3) := by decide +kernel
theorem dX7_person_37 : decode cX7_person 37 = .ok (.ireturn, 1) := by decide +kernel
theorem dX7_person_38 : decode cX7_person 38 = .ok (.aload_n 0, 1) := by decide +kernel
theorem dX7_person_39 : decode cX7_person 39 = .ok (.getfield 10, 3) := by decide +kernel
theorem dX7_person_42 : decode cX7_person 42 = .ok (.getfield 98, 3) := by decide +kernel
theorem dX7_person_45 : decode cX7_person 45 = .ok (.aload_n 0, 1) := by decide +kernel
theorem dX7_person_46 : decode cX7_person 46 = .ok (.getfield 10, 3) := by decide +kernel
theorem dX7_person_49 : decode cX7_person 49 = .ok (.getfield 95, 3) := by decide +kernel
theorem dX7_person_52 : decode cX7_person 52 = .ok (.aaload, 1) := by decide +kernel
theorem dX7_person_53 : decode cX7_person 53 = .ok (.iload_n 1, 1) := by decide +kernel
theorem dX7_person_54 : decode cX7_person 54 = .ok (.bipush 10, 2) := by decide +kernel
theorem dX7_person_56 : decode cX7_person 56 = .ok (.idiv, 1) := by decide +kernel
theorem dX7_person_57 : decode cX7_person 57 = .ok (.iload_n 1, 1) := by decide +kernel
theorem dX7_person_58 : decode cX7_person 58 = .ok (.bipush 10, 2) := by decide +kernel
theorem dX7_person_60 : decode cX7_person 60 = .ok (.irem, 1) := by decide +kernel
theorem dX7_person_61 : decode cX7_person 61 = .ok (.iload_n 2, 1) := by decide +kernel
theorem dX7_person_62 : decode cX7_person 62 = .ok (.invokevirtual 102, 3) := by decide +kernel
theorem dX7_person_65 : decode cX7_person 65 = .ok (.aload_n 0, 1) := by decide +kernel
theorem dX7_person_66 : decode cX7_person 66 = .ok (.getfield 10, 3) := by decide +kernel
theorem dX7_person_69 : decode cX7_person 69 = .ok (.dup, 1) := by decide +kernel
theorem dX7_person_70 : decode cX7_person 70 = .ok (.getfield 95, 3) := by decide +kernel
theorem dX7_person_73 : decode cX7_person 73 = .ok (.iconst 1, 1) := by decide +kernel
theorem dX7_person_74 : decode cX7_person 74 = .ok (.iadd, 1) := by decide +kernel
theorem dX7_person_75 : decode cX7_person 75 = .ok (.putfield 95, 3) := by decide +kernel
theorem dX7_person_78 : decode cX7_person 78 = .ok (.aload_n 0, 1) := by decide +kernel
theorem dX7_person_79 : decode cX7_person 79 = .ok (.getfield 10, 3) := by decide +kernel
theorem dX7_person_82 : decode cX7_person 82 = .ok (.getfield 95, 3) := by decide +kernel
theorem dX7_person_85 : decode cX7_person 85 = .ok (.iconst 1, 1) := by decide +kernel
theorem dX7_person_86 : decode cX7_person 86 = .ok (.isub, 1) := by decide +kernel
theorem dX7_person_87 : decode cX7_person 87 = .ok (.ireturn, 1) := by decide +kernel
theorem dX7_ofPerson_0 : decode cX7_ofPerson 0 = .ok (.aload_n 0, 1) := by decide +kernel
theorem dX7_ofPerson_1 : decode cX7_ofPerson 1 = .ok (.iload_n 1, 1) := by decide +kernel
theorem dX7_ofPerson_2 : decode cX7_ofPerson 2 = .ok (.invokevirtual 108, 3) := by decide +kernel
theorem dX7_ofPerson_5 : decode cX7_ofPerson 5 = .ok (.ifCond .ne 9, 3) := by decide +kernel
theorem dX7_ofPerson_8 : decode cX7_ofPerson 8 = .ok (.aload_n 0, 1) := by decide +kernel
theorem dX7_ofPerson_9 : decode cX7_ofPerson 9 = .ok (.iconst 1, 1) := by decide +kernel
theorem dX7_ofPerson_10 : decode cX7_ofPerson 10 = .ok (.invokevirtual 59, 3) := by decide +kernel
theorem dX7_ofPerson_13 : decode cX7_ofPerson 13 = .ok (.ireturn, 1) := by decide +kernel
theorem dX7_ofPerson_14 : decode cX7_ofPerson 14 = .ok (.aload_n 0, 1) := by decide +kernel
theorem dX7_ofPerson_15 : decode cX7_ofPerson 15 = .ok (.getfield 10, 3) := by decide +kernel
theorem dX7_ofPerson_18 : decode cX7_ofPerson 18 = .ok (.getfield 98, 3) := by decide +kernel
theorem dX7_ofPerson_21 : decode cX7_ofPerson 21 = .ok (.iload_n 1, 1) := by decide +kernel
theorem dX7_ofPerson_22 : decode cX7_ofPerson 22 = .ok (.aaload, 1) := by decide +kernel
theorem dX7_ofPerson_23 : decode cX7_ofPerson 23 = .ok (.astore_n 3, 1) := by decide +kernel
theorem dX7_ofPerson_24 : decode cX7_ofPerson 24 = .ok (.iload_n 2, 1) := by decide +kernel
theorem dX7_ofPerson_25 : decode cX7_ofPerson 25 = .ok (.tableswitch 119 0 8 #[51, 56, 61, 66, 71, 76, 89, 94, 107], 51) := by decide +kernel
theorem dX7_ofPerson_76 : decode cX7_ofPerson 76 = .ok (.aload_n 3, 1) := by decide +kernel
theorem dX7_ofPerson_77 : decode cX7_ofPerson 77 = .ok (.getfield 111, 3) := by decide +kernel
theorem dX7_ofPerson_80 : decode cX7_ofPerson 80 = .ok (.ireturn, 1) := by decide +kernel
theorem dX7_ofPerson_81 : decode cX7_ofPerson 81 = .ok (.aload_n 3, 1) := by decide +kernel
theorem dX7_ofPerson_82 : decode cX7_ofPerson 82 = .ok (.getfield 114, 3) := by decide +kernel
theorem dX7_ofPerson_85 : decode cX7_ofPerson 85 = .ok (.ireturn, 1) := by decide +kernel
theorem dX7_ofPerson_86 : decode cX7_ofPerson 86 = .ok (.aload_n 3, 1) := by decide +kernel
theorem dX7_ofPerson_87 : decode cX7_ofPerson 87 = .ok (.getfield 117, 3) := by decide +kernel
theorem dX7_ofPerson_90 : decode cX7_ofPerson 90 = .ok (.ireturn, 1) := by decide +kernel
theorem dX7_ofPerson_91 : decode cX7_ofPerson 91 = .ok (.aload_n 3, 1) := by decide +kernel
theorem dX7_ofPerson_92 : decode cX7_ofPerson 92 = .ok (.getfield 120, 3) := by decide +kernel
theorem dX7_ofPerson_95 : decode cX7_ofPerson 95 = .ok (.ireturn, 1) := by decide +kernel
theorem dX7_ofPerson_96 : decode cX7_ofPerson 96 = .ok (.aload_n 3, 1) := by decide +kernel
theorem dX7_ofPerson_97 : decode cX7_ofPerson 97 = .ok (.getfield 123, 3) := by decide +kernel
theorem dX7_ofPerson_100 : decode cX7_ofPerson 100 = .ok (.ireturn, 1) := by decide +kernel
theorem dX7_ofPerson_101 : decode cX7_ofPerson 101 = .ok (.aload_n 3, 1) := by decide +kernel
theorem dX7_ofPerson_102 : decode cX7_ofPerson 102 = .ok (.getfield 126, 3) := by decide +kernel
theorem dX7_ofPerson_105 : decode cX7_ofPerson 105 = .ok (.ifCond .eq 7, 3) := by decide +kernel
theorem dX7_ofPerson_108 : decode cX7_ofPerson 108 = .ok (.iconst 1, 1) := by decide +kernel
theorem dX7_ofPerson_109 : decode cX7_ofPerson 109 = .ok (.goto 4, 3) := by decide +kernel
theorem dX7_ofPerson_112 : decode cX7_ofPerson 112 = .ok (.iconst 0, 1) := by decide +kernel
theorem dX7_ofPerson_113 : decode cX7_ofPerson 113 = .ok (.ireturn, 1) := by decide +kernel
theorem dX7_ofPerson_114 : decode cX7_ofPerson 114 = .ok (.aload_n 3, 1) := by decide +kernel
theorem dX7_ofPerson_115 : decode cX7_ofPerson 115 = .ok (.invokevirtual 130, 3) := by decide +kernel
theorem dX7_ofPerson_118 : decode cX7_ofPerson 118 = .ok (.ireturn, 1) := by decide +kernel
theorem dX7_ofPerson_119 : decode cX7_ofPerson 119 = .ok (.aload_n 0, 1) := by decide +kernel
theorem dX7_ofPerson_120 : decode cX7_ofPerson 120 = .ok (.getfield 10, 3) := by decide +kernel
theorem dX7_ofPerson_123 : decode cX7_ofPerson 123 = .ok (.aload_n 3, 1) := by decide +kernel
theorem dX7_ofPerson_124 : decode cX7_ofPerson 124 = .ok (.aload_n 3, 1) := by decide +kernel
theorem dX7_ofPerson_125 : decode cX7_ofPerson 125 = .ok (.getfield 123, 3) := by decide +kernel
theorem dX7_ofPerson_128 : decode cX7_ofPerson 128 = .ok (.invokevirtual 134, 3) := by decide +kernel
theorem dX7_ofPerson_131 : decode cX7_ofPerson 131 = .ok (.ireturn, 1) := by decide +kernel
theorem dX7_ofPerson_132 : decode cX7_ofPerson 132 = .ok (.aload_n 0, 1) := by decide +kernel
theorem dX7_ofPerson_133 : decode cX7_ofPerson 133 = .ok (.getfield 10, 3) := by decide +kernel
theorem dX7_ofPerson_136 : decode cX7_ofPerson 136 = .ok (.aload_n 3, 1) := by decide +kernel
theorem dX7_ofPerson_137 : decode cX7_ofPerson 137 = .ok (.getfield 120, 3) := by decide +kernel
theorem dX7_ofPerson_140 : decode cX7_ofPerson 140 = .ok (.invokevirtual 85, 3) := by decide +kernel
theorem dX7_ofPerson_143 : decode cX7_ofPerson 143 = .ok (.ireturn, 1) := by decide +kernel
theorem dX7_ofPerson_144 : decode cX7_ofPerson 144 = .ok (.aload_n 0, 1) := by decide +kernel
theorem dX7_ofPerson_145 : decode cX7_ofPerson 145 = .ok (.iconst 1, 1) := by decide +kernel
theorem dX7_ofPerson_146 : decode cX7_ofPerson 146 = .ok (.invokevirtual 59, 3) := by decide +kernel
theorem dX7_ofPerson_149 : decode cX7_ofPerson 149 = .ok (.ireturn, 1) := by decide +kernel
theorem dX7_become_0 : decode cX7_become 0 = .ok (.aload_n 0, 1) := by decide +kernel
theorem dX7_become_1 : decode cX7_become 1 = .ok (.iload_n 1, 1) := by decide +kernel
theorem dX7_become_2 : decode cX7_become 2 = .ok (.invokevirtual 108, 3) := by decide +kernel
theorem dX7_become_5 : decode cX7_become 5 = .ok (.ifCond .eq 10, 3) := by decide +kernel
theorem dX7_become_8 : decode cX7_become 8 = .ok (.iload_n 2, 1) := by decide +kernel
theorem dX7_become_9 : decode cX7_become 9 = .ok (.invokestatic 92, 3) := by decide +kernel
theorem dX7_become_12 : decode cX7_become 12 = .ok (.ifCond .ne 9, 3) := by decide +kernel
theorem dX7_become_15 : decode cX7_become 15 = .ok (.aload_n 0, 1) := by decide +kernel
theorem dX7_become_16 : decode cX7_become 16 = .ok (.iconst 1, 1) := by decide +kernel
theorem dX7_become_17 : decode cX7_become 17 = .ok (.invokevirtual 59, 3) := by decide +kernel
theorem dX7_become_20 : decode cX7_become 20 = .ok (.ireturn, 1) := by decide +kernel
theorem dX7_become_21 : decode cX7_become 21 = .ok (.aload_n 0, 1) := by decide +kernel
theorem dX7_become_22 : decode cX7_become 22 = .ok (.getfield 10, 3) := by decide +kernel
theorem dX7_become_25 : decode cX7_become 25 = .ok (.getfield 98, 3) := by decide +kernel
theorem dX7_become_28 : decode cX7_become 28 = .ok (.iload_n 1, 1) := by decide +kernel
theorem dX7_become_29 : decode cX7_become 29 = .ok (.aaload, 1) := by decide +kernel
theorem dX7_become_30 : decode cX7_become 30 = .ok (.astore_n 3, 1) := by decide +kernel
theorem dX7_become_31 : decode cX7_become 31 = .ok (.aload_n 3, 1) := by decide +kernel
theorem dX7_become_32 : decode cX7_become 32 = .ok (.getfield 111, 3) := by decide +kernel
theorem dX7_become_35 : decode cX7_become 35 = .ok (.istore 4, 2) := by decide +kernel
theorem dX7_become_37 : decode cX7_become 37 = .ok (.aload_n 3, 1) := by decide +kernel
theorem dX7_become_38 : decode cX7_become 38 = .ok (.iload_n 2, 1) := by decide +kernel
theorem dX7_become_39 : decode cX7_become 39 = .ok (.bipush 10, 2) := by decide +kernel
theorem dX7_become_41 : decode cX7_become 41 = .ok (.idiv, 1) := by decide +kernel
theorem dX7_become_42 : decode cX7_become 42 = .ok (.putfield 111, 3) := by decide +kernel
theorem dX7_become_45 : decode cX7_become 45 = .ok (.aload_n 3, 1) := by decide +kernel
theorem dX7_become_46 : decode cX7_become 46 = .ok (.iload_n 2, 1) := by decide +kernel
theorem dX7_become_47 : decode cX7_become 47 = .ok (.bipush 10, 2) := by decide +kernel
theorem dX7_become_49 : decode cX7_become 49 = .ok (.irem, 1) := by decide +kernel
theorem dX7_become_50 : decode cX7_become 50 = .ok (.putfield 114, 3) := by decide +kernel
theorem dX7_become_53 : decode cX7_become 53 = .ok (.iload 4, 2) := by decide +kernel
theorem dX7_become_55 : decode cX7_become 55 = .ok (.ireturn, 1) := by decide +kernel
theorem dX7_as_0 : decode cX7_as 0 = .ok (.aload_n 0, 1) := by decide +kernel
theorem dX7_as_1 : decode cX7_as 1 = .ok (.iload_n 1, 1) := by decide +kernel
theorem dX7_as_2 : decode cX7_as 2 = .ok (.invokevirtual 108, 3) := by decide +kernel
theorem dX7_as_5 : decode cX7_as 5 = .ok (.ifCond .eq 13, 3) := by decide +kernel
theorem dX7_as_8 : decode cX7_as 8 = .ok (.iload_n 2, 1) := by decide +kernel
theorem dX7_as_9 : decode cX7_as 9 = .ok (.iconst 0, 1) := by decide +kernel
theorem dX7_as_10 : decode cX7_as 10 = .ok (.bipush 6, 2) := by decide +kernel
theorem dX7_as_12 : decode cX7_as 12 = .ok (.invokestatic 55, 3) := by decide +kernel
theorem dX7_as_15 : decode cX7_as 15 = .ok (.ifCond .ne 9, 3) := by decide +kernel
theorem dX7_as_18 : decode cX7_as 18 = .ok (.aload_n 0, 1) := by decide +kernel
theorem dX7_as_19 : decode cX7_as 19 = .ok (.iconst 1, 1) := by decide +kernel
theorem dX7_as_20 : decode cX7_as 20 = .ok (.invokevirtual 59, 3) := by decide +kernel
theorem dX7_as_23 : decode cX7_as 23 = .ok (.ireturn, 1) := by decide +kernel
theorem dX7_as_24 : decode cX7_as 24 = .ok (.aload_n 0, 1) := by decide +kernel
theorem dX7_as_25 : decode cX7_as 25 = .ok (.getfield 10, 3) := by decide +kernel
theorem dX7_as_28 : decode cX7_as 28 = .ok (.getfield 98, 3) := by decide +kernel
theorem dX7_as_31 : decode cX7_as 31 = .ok (.iload_n 1, 1) := by decide +kernel
theorem dX7_as_32 : decode cX7_as 32 = .ok (.aaload, 1) := by decide +kernel
theorem dX7_as_33 : decode cX7_as 33 = .ok (.astore_n 3, 1) := by decide +kernel
theorem dX7_as_34 : decode cX7_as 34 = .ok (.aload_n 3, 1) := by decide +kernel
theorem dX7_as_35 : decode cX7_as 35 = .ok (.iload_n 2, 1) := by decide +kernel
theorem dX7_as_36 : decode cX7_as 36 = .ok (.invokevirtual 138, 3) := by decide +kernel
theorem dX7_as_39 : decode cX7_as 39 = .ok (.ifCond .eq 10, 3) := by decide +kernel
theorem dX7_as_42 : decode cX7_as 42 = .ok (.aload_n 3, 1) := by decide +kernel
theorem dX7_as_43 : decode cX7_as 43 = .ok (.getfield 114, 3) := by decide +kernel
theorem dX7_as_46 : decode cX7_as 46 = .ok (.goto 8, 3) := by decide +kernel
theorem dX7_as_49 : decode cX7_as 49 = .ok (.aload_n 0, 1) := by decide +kernel
theorem dX7_as_50 : decode cX7_as 50 = .ok (.iconst 5, 1) := by decide +kernel
theorem dX7_as_51 : decode cX7_as 51 = .ok (.invokevirtual 59, 3) := by decide +kernel
theorem dX7_as_54 : decode cX7_as 54 = .ok (.ireturn, 1) := by decide +kernel
theorem dX7_feed_0 : decode cX7_feed 0 = .ok (.iload_n 3, 1) := by decide +kernel
theorem dX7_feed_1 : decode cX7_feed 1 = .ok (.iconst 1, 1) := by decide +kernel
theorem dX7_feed_2 : decode cX7_feed 2 = .ok (.bipush 8, 2) := by decide +kernel
theorem dX7_feed_4 : decode cX7_feed 4 = .ok (.invokestatic 55, 3) := by decide +kernel
theorem dX7_feed_7 : decode cX7_feed 7 = .ok (.ifCond .ne 9, 3) := by decide +kernel
theorem dX7_feed_10 : decode cX7_feed 10 = .ok (.aload_n 0, 1) := by decide +kernel
theorem dX7_feed_11 : decode cX7_feed 11 = .ok (.iconst 1, 1) := by decide +kernel
theorem dX7_feed_12 : decode cX7_feed 12 = .ok (.invokevirtual 59, 3) := by decide +kernel
theorem dX7_feed_15 : decode cX7_feed 15 = .ok (.ireturn, 1) := by decide +kernel
theorem dX7_feed_16 : decode cX7_feed 16 = .ok (.aload_n 0, 1) := by decide +kernel
theorem dX7_feed_17 : decode cX7_feed 17 = .ok (.getfield 10, 3) := by decide +kernel
theorem dX7_feed_20 : decode cX7_feed 20 = .ok (.getfield 141, 3) := by decide +kernel
theorem dX7_feed_23 : decode cX7_feed 23 = .ok (.iload_n 3, 1) := by decide +kernel
theorem dX7_feed_24 : decode cX7_feed 24 = .ok (.iadd, 1) := by decide +kernel
theorem dX7_feed_25 : decode cX7_feed 25 = .ok (.bipush 50, 2) := by decide +kernel
theorem dX7_feed_27 : decode cX7_feed 27 = .ok (.if_icmp .le 9, 3) := by decide +kernel
theorem dX7_feed_30 : decode cX7_feed 30 = .ok (.aload_n 0, 1) := by decide +kernel
theorem dX7_feed_31 : decode cX7_feed 31 = .ok (.iconst 4, 1) := by decide +kernel
theorem dX7_feed_32 : decode cX7_feed 32 = .ok (.invokevirtual 59, 3) := by decide +kernel
theorem dX7_feed_35 : decode cX7_feed 35 = .ok (.ireturn, 1) := by decide +kernel
theorem dX7_feed_36 : decode cX7_feed 36 = .ok (.iconst 0, 1) := by decide +kernel
theorem dX7_feed_37 : decode cX7_feed 37 = .ok (.istore 4, 2) := by decide +kernel
theorem dX7_feed_39 : decode cX7_feed 39 = .ok (.iload 4, 2) := by decide +kernel
theorem dX7_feed_41 : decode cX7_feed 41 = .ok (.iload_n 3, 1) := by decide +kernel
theorem dX7_feed_42 : decode cX7_feed 42 = .ok (.if_icmp .ge 39, 3) := by decide +kernel
theorem dX7_feed_45 : decode cX7_feed 45 = .ok (.aload_n 0, 1) := by decide +kernel
theorem dX7_feed_46 : decode cX7_feed 46 = .ok (.getfield 10, 3) := by decide +kernel
theorem dX7_feed_49 : decode cX7_feed 49 = .ok (.getfield 144, 3) := by decide +kernel
theorem dX7_feed_52 : decode cX7_feed 52 = .ok (.aload_n 0, 1) := by decide +kernel
theorem dX7_feed_53 : decode cX7_feed 53 = .ok (.getfield 10, 3) := by decide +kernel
theorem dX7_feed_56 : decode cX7_feed 56 = .ok (.getfield 141, 3) := by decide +kernel
theorem dX7_feed_59 : decode cX7_feed 59 = .ok (.iload 4, 2) := by decide +kernel
theorem dX7_feed_61 : decode cX7_feed 61 = .ok (.iadd, 1) := by decide +kernel
theorem dX7_feed_62 : decode cX7_feed 62 = .ok (.lload_n 1, 1) := by decide +kernel
theorem dX7_feed_63 : decode cX7_feed 63 = .ok (.bipush 8, 2) := by decide +kernel
theorem dX7_feed_65 : decode cX7_feed 65 = .ok (.iload 4, 2) := by decide +kernel
theorem dX7_feed_67 : decode cX7_feed 67 = .ok (.imul, 1) := by decide +kernel
theorem dX7_feed_68 : decode cX7_feed 68 = .ok (.lushr, 1) := by decide +kernel
theorem dX7_feed_69 : decode cX7_feed 69 = .ok (.l2i, 1) := by decide +kernel
theorem dX7_feed_70 : decode cX7_feed 70 = .ok (.sipush 255, 3) := by decide +kernel
theorem dX7_feed_73 : decode cX7_feed 73 = .ok (.iand, 1) := by decide +kernel
theorem dX7_feed_74 : decode cX7_feed 74 = .ok (.iastore, 1) := by decide +kernel
theorem dX7_feed_75 : decode cX7_feed 75 = .ok (.iinc 4 1, 3) := by decide +kernel
theorem dX7_feed_78 : decode cX7_feed 78 = .ok (.goto (-39), 3) := by decide +kernel
theorem dX7_feed_81 : decode cX7_feed 81 = .ok (.aload_n 0, 1) := by decide +kernel
theorem dX7_feed_82 : decode cX7_feed 82 = .ok (.getfield 10, 3) := by decide +kernel
theorem dX7_feed_85 : decode cX7_feed 85 = .ok (.dup, 1) := by decide +kernel
theorem dX7_feed_86 : decode cX7_feed 86 = .ok (.getfield 141, 3) := by decide +kernel
theorem dX7_feed_89 : decode cX7_feed 89 = .ok (.iload_n 3, 1) := by decide +kernel
theorem dX7_feed_90 : decode cX7_feed 90 = .ok (.iadd, 1) := by decide +kernel
theorem dX7_feed_91 : decode cX7_feed 91 = .ok (.putfield 141, 3) := by decide +kernel
theorem dX7_feed_94 : decode cX7_feed 94 = .ok (.aload_n 0, 1) := by decide +kernel
theorem dX7_feed_95 : decode cX7_feed 95 = .ok (.getfield 10, 3) := by decide +kernel
theorem dX7_feed_98 : decode cX7_feed 98 = .ok (.getfield 141, 3) := by decide +kernel
theorem dX7_feed_101 : decode cX7_feed 101 = .ok (.ireturn, 1) := by decide +kernel
theorem dX7_text_0 : decode cX7_text 0 = .ok (.iload_n 1, 1) := by decide +kernel
theorem dX7_text_1 : decode cX7_text 1 = .ok (.invokestatic 147, 3) := by decide +kernel
theorem dX7_text_4 : decode cX7_text 4 = .ok (.ifCond .ne 9, 3) := by decide +kernel
theorem dX7_text_7 : decode cX7_text 7 = .ok (.aload_n 0, 1) := by decide +kernel
theorem dX7_text_8 : decode cX7_text 8 = .ok (.iconst 1, 1) := by decide +kernel
theorem dX7_text_9 : decode cX7_text 9 = .ok (.invokevirtual 59, 3) := by decide +kernel
theorem dX7_text_12 : decode cX7_text 12 = .ok (.ireturn, 1) := by decide +kernel
theorem dX7_text_13 : decode cX7_text 13 = .ok (.aload_n 0, 1) := by decide +kernel
theorem dX7_text_14 : decode cX7_text 14 = .ok (.getfield 29, 3) := by decide +kernel
theorem dX7_text_17 : decode cX7_text 17 = .ok (.aload_n 0, 1) := by decide +kernel
theorem dX7_text_18 : decode cX7_text 18 = .ok (.getfield 10, 3) := by decide +kernel
theorem dX7_text_21 : decode cX7_text 21 = .ok (.getfield 144, 3) := by decide +kernel
theorem dX7_text_24 : decode cX7_text 24 = .ok (.aload_n 0, 1) := by decide +kernel
theorem dX7_text_25 : decode cX7_text 25 = .ok (.getfield 10, 3) := by decide +kernel
theorem dX7_text_28 : decode cX7_text 28 = .ok (.getfield 141, 3) := by decide +kernel
theorem dX7_text_31 : decode cX7_text 31 = .ok (.iload_n 1, 1) := by decide +kernel
theorem dX7_text_32 : decode cX7_text 32 = .ok (.invokevirtual 150, 3) := by decide +kernel
theorem dX7_text_35 : decode cX7_text 35 = .ok (.istore_n 2, 1) := by decide +kernel
theorem dX7_text_36 : decode cX7_text 36 = .ok (.aload_n 0, 1) := by decide +kernel
theorem dX7_text_37 : decode cX7_text 37 = .ok (.getfield 10, 3) := by decide +kernel
theorem dX7_text_40 : decode cX7_text 40 = .ok (.iconst 0, 1) := by decide +kernel
theorem dX7_text_41 : decode cX7_text 41 = .ok (.putfield 141, 3) := by decide +kernel
theorem dX7_text_44 : decode cX7_text 44 = .ok (.iload_n 2, 1) := by decide +kernel
theorem dX7_text_45 : decode cX7_text 45 = .ok (.ifCond .lt 8, 3) := by decide +kernel
theorem dX7_text_48 : decode cX7_text 48 = .ok (.bipush (-10), 2) := by decide +kernel
theorem dX7_text_50 : decode cX7_text 50 = .ok (.iload_n 2, 1) := by decide +kernel
theorem dX7_text_51 : decode cX7_text 51 = .ok (.isub, 1) := by decide +kernel
theorem dX7_text_52 : decode cX7_text 52 = .ok (.ireturn, 1) := by decide +kernel
theorem dX7_text_53 : decode cX7_text 53 = .ok (.aload_n 0, 1) := by decide +kernel
theorem dX7_text_54 : decode cX7_text 54 = .ok (.getfield 10, 3) := by decide +kernel
theorem dX7_text_57 : decode cX7_text 57 = .ok (.getfield 154, 3) := by decide +kernel
theorem dX7_text_60 : decode cX7_text 60 = .ok (.iload_n 1, 1) := by decide +kernel
theorem dX7_text_61 : decode cX7_text 61 = .ok (.aaload, 1) := by decide +kernel
theorem dX7_text_62 : decode cX7_text 62 = .ok (.aload_n 0, 1) := by decide +kernel
theorem dX7_text_63 : decode cX7_text 63 = .ok (.getfield 29, 3) := by decide +kernel
theorem dX7_text_66 : decode cX7_text 66 = .ok (.getfield 158, 3) := by decide +kernel
theorem dX7_text_69 : decode cX7_text 69 = .ok (.aload_n 0, 1) := by decide +kernel
theorem dX7_text_70 : decode cX7_text 70 = .ok (.getfield 29, 3) := by decide +kernel
theorem dX7_text_73 : decode cX7_text 73 = .ok (.getfield 161, 3) := by decide +kernel
theorem dX7_text_76 : decode cX7_text 76 = .ok (.invokevirtual 164, 3) := by decide +kernel
theorem dX7_text_79 : decode cX7_text 79 = .ok (.iconst 1, 1) := by decide +kernel
theorem dX7_text_80 : decode cX7_text 80 = .ok (.ireturn, 1) := by decide +kernel
theorem dX7_law_0 : decode cX7_law 0 = .ok (.iload_n 1, 1) := by decide +kernel
theorem dX7_law_1 : decode cX7_law 1 = .ok (.invokestatic 147, 3) := by decide +kernel
theorem dX7_law_4 : decode cX7_law 4 = .ok (.ifCond .eq 22, 3) := by decide +kernel
theorem dX7_law_7 : decode cX7_law 7 = .ok (.aload_n 0, 1) := by decide +kernel
theorem dX7_law_8 : decode cX7_law 8 = .ok (.getfield 10, 3) := by decide +kernel
theorem dX7_law_11 : decode cX7_law 11 = .ok (.getfield 154, 3) := by decide +kernel
theorem dX7_law_14 : decode cX7_law 14 = .ok (.iload_n 1, 1) := by decide +kernel
theorem dX7_law_15 : decode cX7_law 15 = .ok (.aaload, 1) := by decide +kernel
theorem dX7_law_16 : decode cX7_law 16 = .ok (.iload_n 2, 1) := by decide +kernel
theorem dX7_law_17 : decode cX7_law 17 = .ok (.iload_n 3, 1) := by decide +kernel
theorem dX7_law_18 : decode cX7_law 18 = .ok (.iload 4, 2) := by decide +kernel
theorem dX7_law_20 : decode cX7_law 20 = .ok (.invokevirtual 170, 3) := by decide +kernel
theorem dX7_law_23 : decode cX7_law 23 = .ok (.goto 8, 3) := by decide +kernel
theorem dX7_law_26 : decode cX7_law 26 = .ok (.aload_n 0, 1) := by decide +kernel
theorem dX7_law_27 : decode cX7_law 27 = .ok (.iconst 1, 1) := by decide +kernel
theorem dX7_law_28 : decode cX7_law 28 = .ok (.invokevirtual 59, 3) := by decide +kernel
theorem dX7_law_31 : decode cX7_law 31 = .ok (.ireturn, 1) := by decide +kernel
theorem dX7_drink_0 : decode cX7_drink 0 = .ok (.aload_n 0, 1) := by decide +kernel
theorem dX7_drink_1 : decode cX7_drink 1 = .ok (.iload_n 1, 1) := by decide +kernel
theorem dX7_drink_2 : decode cX7_drink 2 = .ok (.invokevirtual 108, 3) := by decide +kernel
theorem dX7_drink_5 : decode cX7_drink 5 = .ok (.ifCond .ne 9, 3) := by decide +kernel
theorem dX7_drink_8 : decode cX7_drink 8 = .ok (.aload_n 0, 1) := by decide +kernel
theorem dX7_drink_9 : decode cX7_drink 9 = .ok (.iconst 1, 1) := by decide +kernel
theorem dX7_drink_10 : decode cX7_drink 10 = .ok (.invokevirtual 59, 3) := by decide +kernel
theorem dX7_drink_13 : decode cX7_drink 13 = .ok (.ireturn, 1) := by decide +kernel
theorem dX7_drink_14 : decode cX7_drink 14 = .ok (.aload_n 0, 1) := by decide +kernel
theorem dX7_drink_15 : decode cX7_drink 15 = .ok (.getfield 10, 3) := by decide +kernel
theorem dX7_drink_18 : decode cX7_drink 18 = .ok (.getfield 98, 3) := by decide +kernel
theorem dX7_drink_21 : decode cX7_drink 21 = .ok (.iload_n 1, 1) := by decide +kernel
theorem dX7_drink_22 : decode cX7_drink 22 = .ok (.aaload, 1) := by decide +kernel
theorem dX7_drink_23 : decode cX7_drink 23 = .ok (.astore_n 2, 1) := by decide +kernel
theorem dX7_drink_24 : decode cX7_drink 24 = .ok (.aload_n 0, 1) := by decide +kernel
theorem dX7_drink_25 : decode cX7_drink 25 = .ok (.getfield 10, 3) := by decide +kernel
theorem dX7_drink_28 : decode cX7_drink 28 = .ok (.aload_n 2, 1) := by decide +kernel
theorem dX7_drink_29 : decode cX7_drink 29 = .ok (.aload_n 2, 1) := by decide +kernel
theorem dX7_drink_30 : decode cX7_drink 30 = .ok (.getfield 123, 3) := by decide +kernel
theorem dX7_drink_33 : decode cX7_drink 33 = .ok (.invokevirtual 134, 3) := by decide +kernel
theorem dX7_drink_36 : decode cX7_drink 36 = .ok (.istore_n 3, 1) := by decide +kernel
theorem dX7_drink_37 : decode cX7_drink 37 = .ok (.aload_n 2, 1) := by decide +kernel
theorem dX7_drink_38 : decode cX7_drink 38 = .ok (.getfield 126, 3) := by decide +kernel
theorem dX7_drink_41 : decode cX7_drink 41 = .ok (.ifCond .ne 19, 3) := by decide +kernel
theorem dX7_drink_44 : decode cX7_drink 44 = .ok (.aload_n 0, 1) := by decide +kernel
theorem dX7_drink_45 : decode cX7_drink 45 = .ok (.getfield 10, 3) := by decide +kernel
theorem dX7_drink_48 : decode cX7_drink 48 = .ok (.getfield 63, 3) := by decide +kernel
theorem dX7_drink_51 : decode cX7_drink 51 = .ok (.aload_n 2, 1) := by decide +kernel
theorem dX7_drink_52 : decode cX7_drink 52 = .ok (.getfield 117, 3) := by decide +kernel
theorem dX7_drink_55 : decode cX7_drink 55 = .ok (.iaload, 1) := by decide +kernel
theorem dX7_drink_56 : decode cX7_drink 56 = .ok (.iload_n 3, 1) := by decide +kernel
theorem dX7_drink_57 : decode cX7_drink 57 = .ok (.if_icmp .ge 9, 3) := by decide +kernel
theorem dX7_drink_60 : decode cX7_drink 60 = .ok (.aload_n 0, 1) := by decide +kernel
theorem dX7_drink_61 : decode cX7_drink 61 = .ok (.iconst 3, 1) := by decide +kernel
theorem dX7_drink_62 : decode cX7_drink 62 = .ok (.invokevirtual 59, 3) := by decide +kernel
theorem dX7_drink_65 : decode cX7_drink 65 = .ok (.ireturn, 1) := by decide +kernel
theorem dX7_drink_66 : decode cX7_drink 66 = .ok (.aload_n 0, 1) := by decide +kernel
theorem dX7_drink_67 : decode cX7_drink 67 = .ok (.getfield 10, 3) := by decide +kernel
theorem dX7_drink_70 : decode cX7_drink 70 = .ok (.getfield 63, 3) := by decide +kernel
theorem dX7_drink_73 : decode cX7_drink 73 = .ok (.aload_n 2, 1) := by decide +kernel
theorem dX7_drink_74 : decode cX7_drink 74 = .ok (.getfield 117, 3) := by decide +kernel
theorem dX7_drink_77 : decode cX7_drink 77 = .ok (.dup2, 1) := by decide +kernel
theorem dX7_drink_78 : decode cX7_drink 78 = .ok (.iaload, 1) := by decide +kernel
theorem dX7_drink_79 : decode cX7_drink 79 = .ok (.iload_n 3, 1) := by decide +kernel
theorem dX7_drink_80 : decode cX7_drink 80 = .ok (.isub, 1) := by decide +kernel
theorem dX7_drink_81 : decode cX7_drink 81 = .ok (.iastore, 1) := by decide +kernel
theorem dX7_drink_82 : decode cX7_drink 82 = .ok (.aload_n 2, 1) := by decide +kernel
theorem dX7_drink_83 : decode cX7_drink 83 = .ok (.iconst 0, 1) := by decide +kernel
theorem dX7_drink_84 : decode cX7_drink 84 = .ok (.putfield 123, 3) := by decide +kernel
theorem dX7_drink_87 : decode cX7_drink 87 = .ok (.aload_n 2, 1) := by decide +kernel
theorem dX7_drink_88 : decode cX7_drink 88 = .ok (.aload_n 2, 1) := by decide +kernel
theorem dX7_drink_89 : decode cX7_drink 89 = .ok (.aload_n 0, 1) := by decide +kernel
theorem dX7_drink_90 : decode cX7_drink 90 = .ok (.getfield 10, 3) := by decide +kernel
theorem dX7_drink_93 : decode cX7_drink 93 = .ok (.getfield 174, 3) := by decide +kernel
theorem dX7_drink_96 : decode cX7_drink 96 = .ok (.invokevirtual 177, 3) := by decide +kernel
theorem dX7_drink_99 : decode cX7_drink 99 = .ok (.putfield 120, 3) := by decide +kernel
theorem dX7_drink_102 : decode cX7_drink 102 = .ok (.aload_n 2, 1) := by decide +kernel
theorem dX7_drink_103 : decode cX7_drink 103 = .ok (.getfield 120, 3) := by decide +kernel
theorem dX7_drink_106 : decode cX7_drink 106 = .ok (.ireturn, 1) := by decide +kernel
theorem dX7_go_0 : decode cX7_go 0 = .ok (.aload_n 0, 1) := by decide +kernel
theorem dX7_go_1 : decode cX7_go 1 = .ok (.iload_n 1, 1) := by decide +kernel
theorem dX7_go_2 : decode cX7_go 2 = .ok (.invokevirtual 108, 3) := by decide +kernel
theorem dX7_go_5 : decode cX7_go 5 = .ok (.ifCond .eq 26, 3) := by decide +kernel
theorem dX7_go_8 : decode cX7_go 8 = .ok (.iload_n 2, 1) := by decide +kernel
theorem dX7_go_9 : decode cX7_go 9 = .ok (.invokestatic 51, 3) := by decide +kernel
theorem dX7_go_12 : decode cX7_go 12 = .ok (.ifCond .eq 19, 3) := by decide +kernel
theorem dX7_go_15 : decode cX7_go 15 = .ok (.aload_n 0, 1) := by decide +kernel
theorem dX7_go_16 : decode cX7_go 16 = .ok (.getfield 10, 3) := by decide +kernel
theorem dX7_go_19 : decode cX7_go 19 = .ok (.getfield 98, 3) := by decide +kernel
theorem dX7_go_22 : decode cX7_go 22 = .ok (.iload_n 1, 1) := by decide +kernel
theorem dX7_go_23 : decode cX7_go 23 = .ok (.aaload, 1) := by decide +kernel
theorem dX7_go_24 : decode cX7_go 24 = .ok (.getfield 117, 3) := by decide +kernel
theorem dX7_go_27 : decode cX7_go 27 = .ok (.iload_n 2, 1) := by decide +kernel
theorem dX7_go_28 : decode cX7_go 28 = .ok (.if_icmp .ne 9, 3) := by decide +kernel
theorem dX7_go_31 : decode cX7_go 31 = .ok (.aload_n 0, 1) := by decide +kernel
theorem dX7_go_32 : decode cX7_go 32 = .ok (.iconst 1, 1) := by decide +kernel
theorem dX7_go_33 : decode cX7_go 33 = .ok (.invokevirtual 59, 3) := by decide +kernel
theorem dX7_go_36 : decode cX7_go 36 = .ok (.ireturn, 1) := by decide +kernel
theorem dX7_go_37 : decode cX7_go 37 = .ok (.aload_n 0, 1) := by decide +kernel
theorem dX7_go_38 : decode cX7_go 38 = .ok (.getfield 10, 3) := by decide +kernel
theorem dX7_go_41 : decode cX7_go 41 = .ok (.getfield 98, 3) := by decide +kernel
theorem dX7_go_44 : decode cX7_go 44 = .ok (.iload_n 1, 1) := by decide +kernel
theorem dX7_go_45 : decode cX7_go 45 = .ok (.aaload, 1) := by decide +kernel
theorem dX7_go_46 : decode cX7_go 46 = .ok (.astore_n 3, 1) := by decide +kernel
theorem dX7_go_47 : decode cX7_go 47 = .ok (.aload_n 0, 1) := by decide +kernel
theorem dX7_go_48 : decode cX7_go 48 = .ok (.getfield 10, 3) := by decide +kernel
theorem dX7_go_51 : decode cX7_go 51 = .ok (.getfield 70, 3) := by decide +kernel
theorem dX7_go_54 : decode cX7_go 54 = .ok (.aload_n 3, 1) := by decide +kernel
theorem dX7_go_55 : decode cX7_go 55 = .ok (.getfield 117, 3) := by decide +kernel
theorem dX7_go_58 : decode cX7_go 58 = .ok (.bipush 8, 2) := by decide +kernel
theorem dX7_go_60 : decode cX7_go 60 = .ok (.imul, 1) := by decide +kernel
theorem dX7_go_61 : decode cX7_go 61 = .ok (.iload_n 2, 1) := by decide +kernel
theorem dX7_go_62 : decode cX7_go 62 = .ok (.iadd, 1) := by decide +kernel
theorem dX7_go_63 : decode cX7_go 63 = .ok (.iaload, 1) := by decide +kernel
theorem dX7_go_64 : decode cX7_go 64 = .ok (.istore 4, 2) := by decide +kernel
theorem dX7_go_66 : decode cX7_go 66 = .ok (.aload_n 3, 1) := by decide +kernel
theorem dX7_go_67 : decode cX7_go 67 = .ok (.getfield 126, 3) := by decide +kernel
theorem dX7_go_70 : decode cX7_go 70 = .ok (.ifCond .ne 23, 3) := by decide +kernel
theorem dX7_go_73 : decode cX7_go 73 = .ok (.iload 4, 2) := by decide +kernel
theorem dX7_go_75 : decode cX7_go 75 = .ok (.ifCond .eq 18, 3) := by decide +kernel
theorem dX7_go_78 : decode cX7_go 78 = .ok (.aload_n 0, 1) := by decide +kernel
theorem dX7_go_79 : decode cX7_go 79 = .ok (.getfield 10, 3) := by decide +kernel
theorem dX7_go_82 : decode cX7_go 82 = .ok (.getfield 174, 3) := by decide +kernel
theorem dX7_go_85 : decode cX7_go 85 = .ok (.iload 4, 2) := by decide +kernel
theorem dX7_go_87 : decode cX7_go 87 = .ok (.iadd, 1) := by decide +kernel
theorem dX7_go_88 : decode cX7_go 88 = .ok (.ldc 180, 2) := by decide +kernel
theorem dX7_go_90 : decode cX7_go 90 = .ok (.if_icmp .le 9, 3) := by decide +kernel
theorem dX7_go_93 : decode cX7_go 93 = .ok (.aload_n 0, 1) := by decide +kernel
theorem dX7_go_94 : decode cX7_go 94 = .ok (.iconst 3, 1) := by decide +kernel
theorem dX7_go_95 : decode cX7_go 95 = .ok (.invokevirtual 59, 3) := by decide +kernel
theorem dX7_go_98 : decode cX7_go 98 = .ok (.ireturn, 1) := by decide +kernel
theorem dX7_go_99 : decode cX7_go 99 = .ok (.aload_n 3, 1) := by decide +kernel
theorem dX7_go_100 : decode cX7_go 100 = .ok (.iload_n 2, 1) := by decide +kernel
theorem dX7_go_101 : decode cX7_go 101 = .ok (.putfield 117, 3) := by decide +kernel
theorem dX7_go_104 : decode cX7_go 104 = .ok (.aload_n 3, 1) := by decide +kernel
theorem dX7_go_105 : decode cX7_go 105 = .ok (.aload_n 0, 1) := by decide +kernel
theorem dX7_go_106 : decode cX7_go 106 = .ok (.getfield 10, 3) := by decide +kernel
theorem dX7_go_109 : decode cX7_go 109 = .ok (.aload_n 3, 1) := by decide +kernel
theorem dX7_go_110 : decode cX7_go 110 = .ok (.iload 4, 2) := by decide +kernel
theorem dX7_go_112 : decode cX7_go 112 = .ok (.invokevirtual 181, 3) := by decide +kernel
theorem dX7_go_115 : decode cX7_go 115 = .ok (.invokevirtual 184, 3) := by decide +kernel
theorem dX7_go_118 : decode cX7_go 118 = .ok (.aload_n 0, 1) := by decide +kernel
theorem dX7_go_119 : decode cX7_go 119 = .ok (.getfield 10, 3) := by decide +kernel
theorem dX7_go_122 : decode cX7_go 122 = .ok (.dup, 1) := by decide +kernel
theorem dX7_go_123 : decode cX7_go 123 = .ok (.getfield 174, 3) := by decide +kernel
theorem dX7_go_126 : decode cX7_go 126 = .ok (.iload 4, 2) := by decide +kernel
theorem dX7_go_128 : decode cX7_go 128 = .ok (.iadd, 1) := by decide +kernel
theorem dX7_go_129 : decode cX7_go 129 = .ok (.putfield 174, 3) := by decide +kernel
theorem dX7_go_132 : decode cX7_go 132 = .ok (.aload_n 3, 1) := by decide +kernel
theorem dX7_go_133 : decode cX7_go 133 = .ok (.getfield 123, 3) := by decide +kernel
theorem dX7_go_136 : decode cX7_go 136 = .ok (.ireturn, 1) := by decide +kernel
theorem dX7_pay_0 : decode cX7_pay 0 = .ok (.aload_n 0, 1) := by decide +kernel
theorem dX7_pay_1 : decode cX7_pay 1 = .ok (.iload_n 1, 1) := by decide +kernel
theorem dX7_pay_2 : decode cX7_pay 2 = .ok (.invokevirtual 108, 3) := by decide +kernel
theorem dX7_pay_5 : decode cX7_pay 5 = .ok (.ifCond .eq 37, 3) := by decide +kernel
theorem dX7_pay_8 : decode cX7_pay 8 = .ok (.iload_n 2, 1) := by decide +kernel
theorem dX7_pay_9 : decode cX7_pay 9 = .ok (.invokestatic 51, 3) := by decide +kernel
theorem dX7_pay_12 : decode cX7_pay 12 = .ok (.ifCond .eq 30, 3) := by decide +kernel
theorem dX7_pay_15 : decode cX7_pay 15 = .ok (.iload_n 3, 1) := by decide +kernel
theorem dX7_pay_16 : decode cX7_pay 16 = .ok (.iconst 1, 1) := by decide +kernel
theorem dX7_pay_17 : decode cX7_pay 17 = .ok (.sipush 9999, 3) := by decide +kernel
theorem dX7_pay_20 : decode cX7_pay 20 = .ok (.invokestatic 55, 3) := by decide +kernel
theorem dX7_pay_23 : decode cX7_pay 23 = .ok (.ifCond .eq 19, 3) := by decide +kernel
theorem dX7_pay_26 : decode cX7_pay 26 = .ok (.aload_n 0, 1) := by decide +kernel
theorem dX7_pay_27 : decode cX7_pay 27 = .ok (.getfield 10, 3) := by decide +kernel
theorem dX7_pay_30 : decode cX7_pay 30 = .ok (.getfield 98, 3) := by decide +kernel
theorem dX7_pay_33 : decode cX7_pay 33 = .ok (.iload_n 1, 1) := by decide +kernel
theorem dX7_pay_34 : decode cX7_pay 34 = .ok (.aaload, 1) := by decide +kernel
theorem dX7_pay_35 : decode cX7_pay 35 = .ok (.getfield 120, 3) := by decide +kernel
theorem dX7_pay_38 : decode cX7_pay 38 = .ok (.iload_n 2, 1) := by decide +kernel
theorem dX7_pay_39 : decode cX7_pay 39 = .ok (.if_icmp .ne 9, 3) := by decide +kernel
theorem dX7_pay_42 : decode cX7_pay 42 = .ok (.aload_n 0, 1) := by decide +kernel
theorem dX7_pay_43 : decode cX7_pay 43 = .ok (.iconst 1, 1) := by decide +kernel
theorem dX7_pay_44 : decode cX7_pay 44 = .ok (.invokevirtual 59, 3) := by decide +kernel
theorem dX7_pay_47 : decode cX7_pay 47 = .ok (.ireturn, 1) := by decide +kernel
theorem dX7_pay_48 : decode cX7_pay 48 = .ok (.aload_n 0, 1) := by decide +kernel
theorem dX7_pay_49 : decode cX7_pay 49 = .ok (.getfield 10, 3) := by decide +kernel
theorem dX7_pay_52 : decode cX7_pay 52 = .ok (.getfield 98, 3) := by decide +kernel
theorem dX7_pay_55 : decode cX7_pay 55 = .ok (.iload_n 1, 1) := by decide +kernel
theorem dX7_pay_56 : decode cX7_pay 56 = .ok (.aaload, 1) := by decide +kernel
theorem dX7_pay_57 : decode cX7_pay 57 = .ok (.astore 4, 2) := by decide +kernel
theorem dX7_pay_59 : decode cX7_pay 59 = .ok (.aload 4, 2) := by decide +kernel
theorem dX7_pay_61 : decode cX7_pay 61 = .ok (.getfield 126, 3) := by decide +kernel
theorem dX7_pay_64 : decode cX7_pay 64 = .ok (.ifCond .ne 34, 3) := by decide +kernel
theorem dX7_pay_67 : decode cX7_pay 67 = .ok (.aload 4, 2) := by decide +kernel
theorem dX7_pay_69 : decode cX7_pay 69 = .ok (.getfield 120, 3) := by decide +kernel
theorem dX7_pay_72 : decode cX7_pay 72 = .ok (.iconst (-1), 1) := by decide +kernel
theorem dX7_pay_73 : decode cX7_pay 73 = .ok (.if_icmp .eq 25, 3) := by decide +kernel
theorem dX7_pay_76 : decode cX7_pay 76 = .ok (.aload_n 0, 1) := by decide +kernel
theorem dX7_pay_77 : decode cX7_pay 77 = .ok (.getfield 10, 3) := by decide +kernel
theorem dX7_pay_80 : decode cX7_pay 80 = .ok (.getfield 73, 3) := by decide +kernel
theorem dX7_pay_83 : decode cX7_pay 83 = .ok (.aload 4, 2) := by decide +kernel
theorem dX7_pay_85 : decode cX7_pay 85 = .ok (.getfield 120, 3) := by decide +kernel
theorem dX7_pay_88 : decode cX7_pay 88 = .ok (.bipush 8, 2) := by decide +kernel
theorem dX7_pay_90 : decode cX7_pay 90 = .ok (.imul, 1) := by decide +kernel
theorem dX7_pay_91 : decode cX7_pay 91 = .ok (.iload_n 2, 1) := by decide +kernel
theorem dX7_pay_92 : decode cX7_pay 92 = .ok (.iadd, 1) := by decide +kernel
theorem dX7_pay_93 : decode cX7_pay 93 = .ok (.iaload, 1) := by decide +kernel
theorem dX7_pay_94 : decode cX7_pay 94 = .ok (.iload_n 3, 1) := by decide +kernel
theorem dX7_pay_95 : decode cX7_pay 95 = .ok (.if_icmp .ge 9, 3) := by decide +kernel
theorem dX7_pay_98 : decode cX7_pay 98 = .ok (.aload_n 0, 1) := by decide +kernel
theorem dX7_pay_99 : decode cX7_pay 99 = .ok (.iconst 3, 1) := by decide +kernel
theorem dX7_pay_100 : decode cX7_pay 100 = .ok (.invokevirtual 59, 3) := by decide +kernel
theorem dX7_pay_103 : decode cX7_pay 103 = .ok (.ireturn, 1) := by decide +kernel
theorem dX7_pay_104 : decode cX7_pay 104 = .ok (.aload_n 0, 1) := by decide +kernel
theorem dX7_pay_105 : decode cX7_pay 105 = .ok (.getfield 10, 3) := by decide +kernel
theorem dX7_pay_108 : decode cX7_pay 108 = .ok (.getfield 73, 3) := by decide +kernel
theorem dX7_pay_111 : decode cX7_pay 111 = .ok (.aload 4, 2) := by decide +kernel
theorem dX7_pay_113 : decode cX7_pay 113 = .ok (.getfield 120, 3) := by decide +kernel
theorem dX7_pay_116 : decode cX7_pay 116 = .ok (.bipush 8, 2) := by decide +kernel
theorem dX7_pay_118 : decode cX7_pay 118 = .ok (.imul, 1) := by decide +kernel
theorem dX7_pay_119 : decode cX7_pay 119 = .ok (.iload_n 2, 1) := by decide +kernel
theorem dX7_pay_120 : decode cX7_pay 120 = .ok (.iadd, 1) := by decide +kernel
theorem dX7_pay_121 : decode cX7_pay 121 = .ok (.dup2, 1) := by decide +kernel
theorem dX7_pay_122 : decode cX7_pay 122 = .ok (.iaload, 1) := by decide +kernel
theorem dX7_pay_123 : decode cX7_pay 123 = .ok (.iload_n 3, 1) := by decide +kernel
theorem dX7_pay_124 : decode cX7_pay 124 = .ok (.isub, 1) := by decide +kernel
theorem dX7_pay_125 : decode cX7_pay 125 = .ok (.iastore, 1) := by decide +kernel
theorem dX7_pay_126 : decode cX7_pay 126 = .ok (.aload_n 0, 1) := by decide +kernel
theorem dX7_pay_127 : decode cX7_pay 127 = .ok (.getfield 10, 3) := by decide +kernel
theorem dX7_pay_130 : decode cX7_pay 130 = .ok (.getfield 73, 3) := by decide +kernel
theorem dX7_pay_133 : decode cX7_pay 133 = .ok (.aload 4, 2) := by decide +kernel
theorem dX7_pay_135 : decode cX7_pay 135 = .ok (.getfield 120, 3) := by decide +kernel
theorem dX7_pay_138 : decode cX7_pay 138 = .ok (.bipush 8, 2) := by decide +kernel
theorem dX7_pay_140 : decode cX7_pay 140 = .ok (.imul, 1) := by decide +kernel
theorem dX7_pay_141 : decode cX7_pay 141 = .ok (.iload_n 2, 1) := by decide +kernel
theorem dX7_pay_142 : decode cX7_pay 142 = .ok (.iadd, 1) := by decide +kernel
theorem dX7_pay_143 : decode cX7_pay 143 = .ok (.iaload, 1) := by decide +kernel
theorem dX7_pay_144 : decode cX7_pay 144 = .ok (.ireturn, 1) := by decide +kernel
theorem dX7_days_0 : decode cX7_days 0 = .ok (.aload_n 0, 1) := by decide +kernel
theorem dX7_days_1 : decode cX7_days 1 = .ok (.iload_n 1, 1) := by decide +kernel
theorem dX7_days_2 : decode cX7_days 2 = .ok (.bipush 60, 2) := by decide +kernel
theorem dX7_days_4 : decode cX7_days 4 = .ok (.iconst 0, 1) := by decide +kernel
theorem dX7_days_5 : decode cX7_days 5 = .ok (.invokevirtual 188, 3) := by decide +kernel
theorem dX7_days_8 : decode cX7_days 8 = .ok (.ireturn, 1) := by decide +kernel
theorem dX7_loose_0 : decode cX7_loose 0 = .ok (.aload_n 0, 1) := by decide +kernel
theorem dX7_loose_1 : decode cX7_loose 1 = .ok (.iload_n 1, 1) := by decide +kernel
theorem dX7_loose_2 : decode cX7_loose 2 = .ok (.bipush 40, 2) := by decide +kernel
theorem dX7_loose_4 : decode cX7_loose 4 = .ok (.iconst 1, 1) := by decide +kernel
theorem dX7_loose_5 : decode cX7_loose 5 = .ok (.invokevirtual 188, 3) := by decide +kernel
theorem dX7_loose_8 : decode cX7_loose 8 = .ok (.ireturn, 1) := by decide +kernel
theorem dX7_same_0 : decode cX7_same 0 = .ok (.aload_n 0, 1) := by decide +kernel
theorem dX7_same_1 : decode cX7_same 1 = .ok (.getfield 10, 3) := by decide +kernel
theorem dX7_same_4 : decode cX7_same 4 = .ok (.invokevirtual 192, 3) := by decide +kernel
theorem dX7_same_7 : decode cX7_same 7 = .ok (.ireturn, 1) := by decide +kernel
theorem dX7_soonest_0 : decode cX7_soonest 0 = .ok (.aload_n 0, 1) := by decide +kernel
theorem dX7_soonest_1 : decode cX7_soonest 1 = .ok (.iload_n 1, 1) := by decide +kernel
theorem dX7_soonest_2 : decode cX7_soonest 2 = .ok (.iload_n 2, 1) := by decide +kernel
theorem dX7_soonest_3 : decode cX7_soonest 3 = .ok (.iload_n 3, 1) := by decide +kernel
theorem dX7_soonest_4 : decode cX7_soonest 4 = .ok (.iconst 1, 1) := by decide +kernel
theorem dX7_soonest_5 : decode cX7_soonest 5 = .ok (.invokevirtual 195, 3) := by decide +kernel
theorem dX7_soonest_8 : decode cX7_soonest 8 = .ok (.ireturn, 1) := by decide +kernel
theorem dX7_drinks_0 : decode cX7_drinks 0 = .ok (.aload_n 0, 1) := by decide +kernel
theorem dX7_drinks_1 : decode cX7_drinks 1 = .ok (.iload_n 1, 1) := by decide +kernel
theorem dX7_drinks_2 : decode cX7_drinks 2 = .ok (.iload_n 2, 1) := by decide +kernel
theorem dX7_drinks_3 : decode cX7_drinks 3 = .ok (.iload_n 3, 1) := by decide +kernel
theorem dX7_drinks_4 : decode cX7_drinks 4 = .ok (.iconst 0, 1) := by decide +kernel
theorem dX7_drinks_5 : decode cX7_drinks 5 = .ok (.invokevirtual 195, 3) := by decide +kernel
theorem dX7_drinks_8 : decode cX7_drinks 8 = .ok (.ireturn, 1) := by decide +kernel
theorem dX7_reach_0 : decode cX7_reach 0 = .ok (.aload_n 0, 1) := by decide +kernel
theorem dX7_reach_1 : decode cX7_reach 1 = .ok (.iload_n 1, 1) := by decide +kernel
theorem dX7_reach_2 : decode cX7_reach 2 = .ok (.invokevirtual 108, 3) := by decide +kernel
theorem dX7_reach_5 : decode cX7_reach 5 = .ok (.ifCond .eq 19, 3) := by decide +kernel
theorem dX7_reach_8 : decode cX7_reach 8 = .ok (.iload_n 2, 1) := by decide +kernel
theorem dX7_reach_9 : decode cX7_reach 9 = .ok (.invokestatic 199, 3) := by decide +kernel
theorem dX7_reach_12 : decode cX7_reach 12 = .ok (.ifCond .eq 12, 3) := by decide +kernel
theorem dX7_reach_15 : decode cX7_reach 15 = .ok (.iload_n 3, 1) := by decide +kernel
theorem dX7_reach_16 : decode cX7_reach 16 = .ok (.iconst 0, 1) := by decide +kernel
theorem dX7_reach_17 : decode cX7_reach 17 = .ok (.iconst 1, 1) := by decide +kernel
theorem dX7_reach_18 : decode cX7_reach 18 = .ok (.invokestatic 55, 3) := by decide +kernel
theorem dX7_reach_21 : decode cX7_reach 21 = .ok (.ifCond .ne 9, 3) := by decide +kernel
theorem dX7_reach_24 : decode cX7_reach 24 = .ok (.aload_n 0, 1) := by decide +kernel
theorem dX7_reach_25 : decode cX7_reach 25 = .ok (.iconst 1, 1) := by decide +kernel
theorem dX7_reach_26 : decode cX7_reach 26 = .ok (.invokevirtual 59, 3) := by decide +kernel
theorem dX7_reach_29 : decode cX7_reach 29 = .ok (.ireturn, 1) := by decide +kernel
theorem dX7_reach_30 : decode cX7_reach 30 = .ok (.aload_n 0, 1) := by decide +kernel
theorem dX7_reach_31 : decode cX7_reach 31 = .ok (.getfield 10, 3) := by decide +kernel
theorem dX7_reach_34 : decode cX7_reach 34 = .ok (.getfield 98, 3) := by decide +kernel
theorem dX7_reach_37 : decode cX7_reach 37 = .ok (.iload_n 1, 1) := by decide +kernel
theorem dX7_reach_38 : decode cX7_reach 38 = .ok (.aaload, 1) := by decide +kernel
theorem dX7_reach_39 : decode cX7_reach 39 = .ok (.astore 4, 2) := by decide +kernel
theorem dX7_reach_41 : decode cX7_reach 41 = .ok (.aload 4, 2) := by decide +kernel
theorem dX7_reach_43 : decode cX7_reach 43 = .ok (.getfield 126, 3) := by decide +kernel
theorem dX7_reach_46 : decode cX7_reach 46 = .ok (.ifCond .eq 9, 3) := by decide +kernel
theorem dX7_reach_49 : decode cX7_reach 49 = .ok (.aload_n 0, 1) := by decide +kernel
theorem dX7_reach_50 : decode cX7_reach 50 = .ok (.iconst 3, 1) := by decide +kernel
theorem dX7_reach_51 : decode cX7_reach 51 = .ok (.invokevirtual 59, 3) := by decide +kernel
theorem dX7_reach_54 : decode cX7_reach 54 = .ok (.ireturn, 1) := by decide +kernel
theorem dX7_reach_55 : decode cX7_reach 55 = .ok (.aload_n 0, 1) := by decide +kernel
theorem dX7_reach_56 : decode cX7_reach 56 = .ok (.getfield 22, 3) := by decide +kernel
theorem dX7_reach_59 : decode cX7_reach 59 = .ok (.aload_n 0, 1) := by decide +kernel
theorem dX7_reach_60 : decode cX7_reach 60 = .ok (.getfield 10, 3) := by decide +kernel
theorem dX7_reach_63 : decode cX7_reach 63 = .ok (.aload 4, 2) := by decide +kernel
theorem dX7_reach_65 : decode cX7_reach 65 = .ok (.iload_n 2, 1) := by decide +kernel
theorem dX7_reach_66 : decode cX7_reach 66 = .ok (.invokevirtual 202, 3) := by decide +kernel
theorem dX7_reach_69 : decode cX7_reach 69 = .ok (.aload_n 0, 1) := by decide +kernel
theorem dX7_reach_70 : decode cX7_reach 70 = .ok (.getfield 22, 3) := by decide +kernel
theorem dX7_reach_73 : decode cX7_reach 73 = .ok (.invokevirtual 206, 3) := by decide +kernel
theorem dX7_reach_76 : decode cX7_reach 76 = .ok (.istore 5, 2) := by decide +kernel
theorem dX7_reach_78 : decode cX7_reach 78 = .ok (.iload_n 3, 1) := by decide +kernel
theorem dX7_reach_79 : decode cX7_reach 79 = .ok (.ifCond .ne 8, 3) := by decide +kernel
theorem dX7_reach_82 : decode cX7_reach 82 = .ok (.iload 5, 2) := by decide +kernel
theorem dX7_reach_84 : decode cX7_reach 84 = .ok (.goto 13, 3) := by decide +kernel
theorem dX7_reach_87 : decode cX7_reach 87 = .ok (.iload 5, 2) := by decide +kernel
theorem dX7_reach_89 : decode cX7_reach 89 = .ok (.aload_n 0, 1) := by decide +kernel
theorem dX7_reach_90 : decode cX7_reach 90 = .ok (.getfield 22, 3) := by decide +kernel
theorem dX7_reach_93 : decode cX7_reach 93 = .ok (.getfield 209, 3) := by decide +kernel
theorem dX7_reach_96 : decode cX7_reach 96 = .ok (.iand, 1) := by decide +kernel
theorem dX7_reach_97 : decode cX7_reach 97 = .ok (.ireturn, 1) := by decide +kernel
theorem dX7_dry_0 : decode cX7_dry 0 = .ok (.aload_n 0, 1) := by decide +kernel
theorem dX7_dry_1 : decode cX7_dry 1 = .ok (.iload_n 1, 1) := by decide +kernel
theorem dX7_dry_2 : decode cX7_dry 2 = .ok (.invokevirtual 108, 3) := by decide +kernel
theorem dX7_dry_5 : decode cX7_dry 5 = .ok (.ifCond .eq 12, 3) := by decide +kernel
theorem dX7_dry_8 : decode cX7_dry 8 = .ok (.iload_n 2, 1) := by decide +kernel
theorem dX7_dry_9 : decode cX7_dry 9 = .ok (.iconst 0, 1) := by decide +kernel
theorem dX7_dry_10 : decode cX7_dry 10 = .ok (.iconst 1, 1) := by decide +kernel
theorem dX7_dry_11 : decode cX7_dry 11 = .ok (.invokestatic 55, 3) := by decide +kernel
theorem dX7_dry_14 : decode cX7_dry 14 = .ok (.ifCond .ne 9, 3) := by decide +kernel
theorem dX7_dry_17 : decode cX7_dry 17 = .ok (.aload_n 0, 1) := by decide +kernel
theorem dX7_dry_18 : decode cX7_dry 18 = .ok (.iconst 1, 1) := by decide +kernel
theorem dX7_dry_19 : decode cX7_dry 19 = .ok (.invokevirtual 59, 3) := by decide +kernel
theorem dX7_dry_22 : decode cX7_dry 22 = .ok (.ireturn, 1) := by decide +kernel
theorem dX7_dry_23 : decode cX7_dry 23 = .ok (.aload_n 0, 1) := by decide +kernel
theorem dX7_dry_24 : decode cX7_dry 24 = .ok (.getfield 10, 3) := by decide +kernel
theorem dX7_dry_27 : decode cX7_dry 27 = .ok (.getfield 98, 3) := by decide +kernel
theorem dX7_dry_30 : decode cX7_dry 30 = .ok (.iload_n 1, 1) := by decide +kernel
theorem dX7_dry_31 : decode cX7_dry 31 = .ok (.aaload, 1) := by decide +kernel
theorem dX7_dry_32 : decode cX7_dry 32 = .ok (.astore_n 3, 1) := by decide +kernel
theorem dX7_dry_33 : decode cX7_dry 33 = .ok (.aload_n 3, 1) := by decide +kernel
theorem dX7_dry_34 : decode cX7_dry 34 = .ok (.getfield 126, 3) := by decide +kernel
theorem dX7_dry_37 : decode cX7_dry 37 = .ok (.ifCond .eq 9, 3) := by decide +kernel
theorem dX7_dry_40 : decode cX7_dry 40 = .ok (.aload_n 0, 1) := by decide +kernel
theorem dX7_dry_41 : decode cX7_dry 41 = .ok (.iconst 3, 1) := by decide +kernel
theorem dX7_dry_42 : decode cX7_dry 42 = .ok (.invokevirtual 59, 3) := by decide +kernel
theorem dX7_dry_45 : decode cX7_dry 45 = .ok (.ireturn, 1) := by decide +kernel
theorem dX7_dry_46 : decode cX7_dry 46 = .ok (.iconst 0, 1) := by decide +kernel
theorem dX7_dry_47 : decode cX7_dry 47 = .ok (.istore 4, 2) := by decide +kernel
theorem dX7_dry_49 : decode cX7_dry 49 = .ok (.bipush 8, 2) := by decide +kernel
theorem dX7_dry_51 : decode cX7_dry 51 = .ok (.istore 5, 2) := by decide +kernel
theorem dX7_dry_53 : decode cX7_dry 53 = .ok (.aload_n 0, 1) := by decide +kernel
theorem dX7_dry_54 : decode cX7_dry 54 = .ok (.getfield 22, 3) := by decide +kernel
theorem dX7_dry_57 : decode cX7_dry 57 = .ok (.aload_n 0, 1) := by decide +kernel
theorem dX7_dry_58 : decode cX7_dry 58 = .ok (.getfield 10, 3) := by decide +kernel
theorem dX7_dry_61 : decode cX7_dry 61 = .ok (.aload_n 3, 1) := by decide +kernel
theorem dX7_dry_62 : decode cX7_dry 62 = .ok (.iconst 0, 1) := by decide +kernel
theorem dX7_dry_63 : decode cX7_dry 63 = .ok (.invokevirtual 202, 3) := by decide +kernel
theorem dX7_dry_66 : decode cX7_dry 66 = .ok (.iconst 0, 1) := by decide +kernel
theorem dX7_dry_67 : decode cX7_dry 67 = .ok (.istore 6, 2) := by decide +kernel
theorem dX7_dry_69 : decode cX7_dry 69 = .ok (.iload 6, 2) := by decide +kernel
theorem dX7_dry_71 : decode cX7_dry 71 = .ok (.bipush 8, 2) := by decide +kernel
theorem dX7_dry_73 : decode cX7_dry 73 = .ok (.if_icmp .ge 55, 3) := by decide +kernel
theorem dX7_dry_76 : decode cX7_dry 76 = .ok (.aload_n 0, 1) := by decide +kernel
theorem dX7_dry_77 : decode cX7_dry 77 = .ok (.getfield 22, 3) := by decide +kernel
theorem dX7_dry_80 : decode cX7_dry 80 = .ok (.aload_n 3, 1) := by decide +kernel
theorem dX7_dry_81 : decode cX7_dry 81 = .ok (.iconst 1, 1) := by decide +kernel
theorem dX7_dry_82 : decode cX7_dry 82 = .ok (.iload 6, 2) := by decide +kernel
theorem dX7_dry_84 : decode cX7_dry 84 = .ok (.ishl, 1) := by decide +kernel
theorem dX7_dry_85 : decode cX7_dry 85 = .ok (.invokevirtual 212, 3) := by decide +kernel
theorem dX7_dry_88 : decode cX7_dry 88 = .ok (.aload_n 0, 1) := by decide +kernel
theorem dX7_dry_89 : decode cX7_dry 89 = .ok (.getfield 22, 3) := by decide +kernel
theorem dX7_dry_92 : decode cX7_dry 92 = .ok (.invokevirtual 206, 3) := by decide +kernel
theorem dX7_dry_95 : decode cX7_dry 95 = .ok (.iconst 1, 1) := by decide +kernel
theorem dX7_dry_96 : decode cX7_dry 96 = .ok (.iload 6, 2) := by decide +kernel
theorem dX7_dry_98 : decode cX7_dry 98 = .ok (.ishl, 1) := by decide +kernel
theorem dX7_dry_99 : decode cX7_dry 99 = .ok (.iconst (-1), 1) := by decide +kernel
theorem dX7_dry_100 : decode cX7_dry 100 = .ok (.ixor, 1) := by decide +kernel
theorem dX7_dry_101 : decode cX7_dry 101 = .ok (.iand, 1) := by decide +kernel
theorem dX7_dry_102 : decode cX7_dry 102 = .ok (.invokestatic 216, 3) := by decide +kernel
theorem dX7_dry_105 : decode cX7_dry 105 = .ok (.istore 7, 2) := by decide +kernel
theorem dX7_dry_107 : decode cX7_dry 107 = .ok (.iload 7, 2) := by decide +kernel
theorem dX7_dry_109 : decode cX7_dry 109 = .ok (.iload 5, 2) := by decide +kernel
theorem dX7_dry_111 : decode cX7_dry 111 = .ok (.if_icmp .ge 11, 3) := by decide +kernel
theorem dX7_dry_114 : decode cX7_dry 114 = .ok (.iload 7, 2) := by decide +kernel
theorem dX7_dry_116 : decode cX7_dry 116 = .ok (.istore 5, 2) := by decide +kernel
theorem dX7_dry_118 : decode cX7_dry 118 = .ok (.iload 6, 2) := by decide +kernel
theorem dX7_dry_120 : decode cX7_dry 120 = .ok (.istore 4, 2) := by decide +kernel
theorem dX7_dry_122 : decode cX7_dry 122 = .ok (.iinc 6 1, 3) := by decide +kernel
theorem dX7_dry_125 : decode cX7_dry 125 = .ok (.goto (-56), 3) := by decide +kernel
theorem dX7_dry_128 : decode cX7_dry 128 = .ok (.iload_n 2, 1) := by decide +kernel
theorem dX7_dry_129 : decode cX7_dry 129 = .ok (.ifCond .ne 8, 3) := by decide +kernel
theorem dX7_dry_132 : decode cX7_dry 132 = .ok (.iload 4, 2) := by decide +kernel
theorem dX7_dry_134 : decode cX7_dry 134 = .ok (.goto 5, 3) := by decide +kernel
theorem dX7_dry_137 : decode cX7_dry 137 = .ok (.iload 5, 2) := by decide +kernel
theorem dX7_dry_139 : decode cX7_dry 139 = .ok (.ireturn, 1) := by decide +kernel
theorem dX7_net_0 : decode cX7_net 0 = .ok (.aload_n 0, 1) := by decide +kernel
theorem dX7_net_1 : decode cX7_net 1 = .ok (.getfield 22, 3) := by decide +kernel
theorem dX7_net_4 : decode cX7_net 4 = .ok (.aload_n 0, 1) := by decide +kernel
theorem dX7_net_5 : decode cX7_net 5 = .ok (.getfield 10, 3) := by decide +kernel
theorem dX7_net_8 : decode cX7_net 8 = .ok (.invokevirtual 221, 3) := by decide +kernel
theorem dX7_net_11 : decode cX7_net 11 = .ok (.istore_n 1, 1) := by decide +kernel
theorem dX7_net_12 : decode cX7_net 12 = .ok (.iload_n 1, 1) := by decide +kernel
theorem dX7_net_13 : decode cX7_net 13 = .ok (.ifCond .ge 11, 3) := by decide +kernel
theorem dX7_net_16 : decode cX7_net 16 = .ok (.aload_n 0, 1) := by decide +kernel
theorem dX7_net_17 : decode cX7_net 17 = .ok (.iconst 2, 1) := by decide +kernel
theorem dX7_net_18 : decode cX7_net 18 = .ok (.invokevirtual 59, 3) := by decide +kernel
theorem dX7_net_21 : decode cX7_net 21 = .ok (.goto 4, 3) := by decide +kernel
theorem dX7_net_24 : decode cX7_net 24 = .ok (.iload_n 1, 1) := by decide +kernel
theorem dX7_net_25 : decode cX7_net 25 = .ok (.ireturn, 1) := by decide +kernel
theorem dX7_shortest_0 : decode cX7_shortest 0 = .ok (.iload_n 1, 1) := by decide +kernel
theorem dX7_shortest_1 : decode cX7_shortest 1 = .ok (.invokestatic 51, 3) := by decide +kernel
theorem dX7_shortest_4 : decode cX7_shortest 4 = .ok (.ifCond .eq 10, 3) := by decide +kernel
theorem dX7_shortest_7 : decode cX7_shortest 7 = .ok (.iload_n 2, 1) := by decide +kernel
theorem dX7_shortest_8 : decode cX7_shortest 8 = .ok (.invokestatic 51, 3) := by decide +kernel
theorem dX7_shortest_11 : decode cX7_shortest 11 = .ok (.ifCond .ne 9, 3) := by decide +kernel
theorem dX7_shortest_14 : decode cX7_shortest 14 = .ok (.aload_n 0, 1) := by decide +kernel
theorem dX7_shortest_15 : decode cX7_shortest 15 = .ok (.iconst 1, 1) := by decide +kernel
theorem dX7_shortest_16 : decode cX7_shortest 16 = .ok (.invokevirtual 59, 3) := by decide +kernel
theorem dX7_shortest_19 : decode cX7_shortest 19 = .ok (.ireturn, 1) := by decide +kernel
theorem dX7_shortest_20 : decode cX7_shortest 20 = .ok (.aload_n 0, 1) := by decide +kernel
theorem dX7_shortest_21 : decode cX7_shortest 21 = .ok (.getfield 22, 3) := by decide +kernel
theorem dX7_shortest_24 : decode cX7_shortest 24 = .ok (.aload_n 0, 1) := by decide +kernel
theorem dX7_shortest_25 : decode cX7_shortest 25 = .ok (.getfield 10, 3) := by decide +kernel
theorem dX7_shortest_28 : decode cX7_shortest 28 = .ok (.iload_n 1, 1) := by decide +kernel
theorem dX7_shortest_29 : decode cX7_shortest 29 = .ok (.iload_n 2, 1) := by decide +kernel
theorem dX7_shortest_30 : decode cX7_shortest 30 = .ok (.invokevirtual 225, 3) := by decide +kernel
theorem dX7_shortest_33 : decode cX7_shortest 33 = .ok (.istore_n 3, 1) := by decide +kernel
theorem dX7_shortest_34 : decode cX7_shortest 34 = .ok (.iload_n 3, 1) := by decide +kernel
theorem dX7_shortest_35 : decode cX7_shortest 35 = .ok (.ifCond .ge 11, 3) := by decide +kernel
theorem dX7_shortest_38 : decode cX7_shortest 38 = .ok (.aload_n 0, 1) := by decide +kernel
theorem dX7_shortest_39 : decode cX7_shortest 39 = .ok (.iconst 2, 1) := by decide +kernel
theorem dX7_shortest_40 : decode cX7_shortest 40 = .ok (.invokevirtual 59, 3) := by decide +kernel
theorem dX7_shortest_43 : decode cX7_shortest 43 = .ok (.goto 4, 3) := by decide +kernel
theorem dX7_shortest_46 : decode cX7_shortest 46 = .ok (.iload_n 3, 1) := by decide +kernel
theorem dX7_shortest_47 : decode cX7_shortest 47 = .ok (.ireturn, 1) := by decide +kernel
theorem dX7_walked_0 : decode cX7_walked 0 = .ok (.iload_n 1, 1) := by decide +kernel
theorem dX7_walked_1 : decode cX7_walked 1 = .ok (.invokestatic 229, 3) := by decide +kernel
theorem dX7_walked_4 : decode cX7_walked 4 = .ok (.ifCond .ne 9, 3) := by decide +kernel
theorem dX7_walked_7 : decode cX7_walked 7 = .ok (.aload_n 0, 1) := by decide +kernel
theorem dX7_walked_8 : decode cX7_walked 8 = .ok (.iconst 1, 1) := by decide +kernel
theorem dX7_walked_9 : decode cX7_walked 9 = .ok (.invokevirtual 59, 3) := by decide +kernel
theorem dX7_walked_12 : decode cX7_walked 12 = .ok (.ireturn, 1) := by decide +kernel
theorem dX7_walked_13 : decode cX7_walked 13 = .ok (.aload_n 0, 1) := by decide +kernel
theorem dX7_walked_14 : decode cX7_walked 14 = .ok (.getfield 10, 3) := by decide +kernel
theorem dX7_walked_17 : decode cX7_walked 17 = .ok (.aload_n 0, 1) := by decide +kernel
theorem dX7_walked_18 : decode cX7_walked 18 = .ok (.getfield 42, 3) := by decide +kernel
theorem dX7_walked_21 : decode cX7_walked 21 = .ok (.iload_n 1, 1) := by decide +kernel
theorem dX7_walked_22 : decode cX7_walked 22 = .ok (.aaload, 1) := by decide +kernel
theorem dX7_walked_23 : decode cX7_walked 23 = .ok (.invokestatic 232, 3) := by decide +kernel
theorem dX7_walked_26 : decode cX7_walked 26 = .ok (.istore_n 2, 1) := by decide +kernel
theorem dX7_walked_27 : decode cX7_walked 27 = .ok (.iload_n 2, 1) := by decide +kernel
theorem dX7_walked_28 : decode cX7_walked 28 = .ok (.ifCond .ge 11, 3) := by decide +kernel
theorem dX7_walked_31 : decode cX7_walked 31 = .ok (.aload_n 0, 1) := by decide +kernel
theorem dX7_walked_32 : decode cX7_walked 32 = .ok (.iconst 2, 1) := by decide +kernel
theorem dX7_walked_33 : decode cX7_walked 33 = .ok (.invokevirtual 59, 3) := by decide +kernel
theorem dX7_walked_36 : decode cX7_walked 36 = .ok (.goto 4, 3) := by decide +kernel
theorem dX7_walked_39 : decode cX7_walked 39 = .ok (.iload_n 2, 1) := by decide +kernel
theorem dX7_walked_40 : decode cX7_walked 40 = .ok (.ireturn, 1) := by decide +kernel
theorem dX7_alive_0 : decode cX7_alive 0 = .ok (.iload_n 1, 1) := by decide +kernel
theorem dX7_alive_1 : decode cX7_alive 1 = .ok (.invokestatic 229, 3) := by decide +kernel
theorem dX7_alive_4 : decode cX7_alive 4 = .ok (.ifCond .eq 18, 3) := by decide +kernel
theorem dX7_alive_7 : decode cX7_alive 7 = .ok (.aload_n 0, 1) := by decide +kernel
theorem dX7_alive_8 : decode cX7_alive 8 = .ok (.iload_n 2, 1) := by decide +kernel
theorem dX7_alive_9 : decode cX7_alive 9 = .ok (.invokevirtual 108, 3) := by decide +kernel
theorem dX7_alive_12 : decode cX7_alive 12 = .ok (.ifCond .eq 10, 3) := by decide +kernel
theorem dX7_alive_15 : decode cX7_alive 15 = .ok (.iload_n 3, 1) := by decide +kernel
theorem dX7_alive_16 : decode cX7_alive 16 = .ok (.invokestatic 199, 3) := by decide +kernel
theorem dX7_alive_19 : decode cX7_alive 19 = .ok (.ifCond .ne 9, 3) := by decide +kernel
theorem dX7_alive_22 : decode cX7_alive 22 = .ok (.aload_n 0, 1) := by decide +kernel
theorem dX7_alive_23 : decode cX7_alive 23 = .ok (.iconst 1, 1) := by decide +kernel
theorem dX7_alive_24 : decode cX7_alive 24 = .ok (.invokevirtual 59, 3) := by decide +kernel
theorem dX7_alive_27 : decode cX7_alive 27 = .ok (.ireturn, 1) := by decide +kernel
theorem dX7_alive_28 : decode cX7_alive 28 = .ok (.aload_n 0, 1) := by decide +kernel
theorem dX7_alive_29 : decode cX7_alive 29 = .ok (.getfield 10, 3) := by decide +kernel
theorem dX7_alive_32 : decode cX7_alive 32 = .ok (.aload_n 0, 1) := by decide +kernel
theorem dX7_alive_33 : decode cX7_alive 33 = .ok (.getfield 42, 3) := by decide +kernel
theorem dX7_alive_36 : decode cX7_alive 36 = .ok (.iload_n 1, 1) := by decide +kernel
theorem dX7_alive_37 : decode cX7_alive 37 = .ok (.aaload, 1) := by decide +kernel
theorem dX7_alive_38 : decode cX7_alive 38 = .ok (.invokestatic 232, 3) := by decide +kernel
theorem dX7_alive_41 : decode cX7_alive 41 = .ok (.ifCond .ge 9, 3) := by decide +kernel
theorem dX7_alive_44 : decode cX7_alive 44 = .ok (.aload_n 0, 1) := by decide +kernel
theorem dX7_alive_45 : decode cX7_alive 45 = .ok (.iconst 2, 1) := by decide +kernel
theorem dX7_alive_46 : decode cX7_alive 46 = .ok (.invokevirtual 59, 3) := by decide +kernel
theorem dX7_alive_49 : decode cX7_alive 49 = .ok (.ireturn, 1) := by decide +kernel
theorem dX7_alive_50 : decode cX7_alive 50 = .ok (.aload_n 0, 1) := by decide +kernel
theorem dX7_alive_51 : decode cX7_alive 51 = .ok (.getfield 10, 3) := by decide +kernel
theorem dX7_alive_54 : decode cX7_alive 54 = .ok (.aload_n 0, 1) := by decide +kernel
theorem dX7_alive_55 : decode cX7_alive 55 = .ok (.getfield 42, 3) := by decide +kernel
theorem dX7_alive_58 : decode cX7_alive 58 = .ok (.iload_n 1, 1) := by decide +kernel
theorem dX7_alive_59 : decode cX7_alive 59 = .ok (.aaload, 1) := by decide +kernel
theorem dX7_alive_60 : decode cX7_alive 60 = .ok (.aload_n 0, 1) := by decide +kernel
theorem dX7_alive_61 : decode cX7_alive 61 = .ok (.getfield 10, 3) := by decide +kernel
theorem dX7_alive_64 : decode cX7_alive 64 = .ok (.getfield 98, 3) := by decide +kernel
theorem dX7_alive_67 : decode cX7_alive 67 = .ok (.iload_n 2, 1) := by decide +kernel
theorem dX7_alive_68 : decode cX7_alive 68 = .ok (.aaload, 1) := by decide +kernel
theorem dX7_alive_69 : decode cX7_alive 69 = .ok (.iload_n 3, 1) := by decide +kernel
theorem dX7_alive_70 : decode cX7_alive 70 = .ok (.invokestatic 236, 3) := by decide +kernel
theorem dX7_alive_73 : decode cX7_alive 73 = .ok (.ifCond .eq 7, 3) := by decide +kernel
theorem dX7_alive_76 : decode cX7_alive 76 = .ok (.iconst 1, 1) := by decide +kernel
theorem dX7_alive_77 : decode cX7_alive 77 = .ok (.goto 4, 3) := by decide +kernel
theorem dX7_alive_80 : decode cX7_alive 80 = .ok (.iconst 0, 1) := by decide +kernel
theorem dX7_alive_81 : decode cX7_alive 81 = .ok (.ireturn, 1) := by decide +kernel
theorem dX7_grown_0 : decode cX7_grown 0 = .ok (.iload_n 1, 1) := by decide +kernel
theorem dX7_grown_1 : decode cX7_grown 1 = .ok (.invokestatic 51, 3) := by decide +kernel
theorem dX7_grown_4 : decode cX7_grown 4 = .ok (.ifCond .eq 23, 3) := by decide +kernel
theorem dX7_grown_7 : decode cX7_grown 7 = .ok (.iload_n 2, 1) := by decide +kernel
theorem dX7_grown_8 : decode cX7_grown 8 = .ok (.iconst 0, 1) := by decide +kernel
theorem dX7_grown_9 : decode cX7_grown 9 = .ok (.bipush 100, 2) := by decide +kernel
theorem dX7_grown_11 : decode cX7_grown 11 = .ok (.invokestatic 55, 3) := by decide +kernel
theorem dX7_grown_14 : decode cX7_grown 14 = .ok (.ifCond .eq 13, 3) := by decide +kernel
theorem dX7_grown_17 : decode cX7_grown 17 = .ok (.iload_n 3, 1) := by decide +kernel
theorem dX7_grown_18 : decode cX7_grown 18 = .ok (.iconst 0, 1) := by decide +kernel
theorem dX7_grown_19 : decode cX7_grown 19 = .ok (.bipush 20, 2) := by decide +kernel
theorem dX7_grown_21 : decode cX7_grown 21 = .ok (.invokestatic 55, 3) := by decide +kernel
theorem dX7_grown_24 : decode cX7_grown 24 = .ok (.ifCond .ne 9, 3) := by decide +kernel
theorem dX7_grown_27 : decode cX7_grown 27 = .ok (.aload_n 0, 1) := by decide +kernel
theorem dX7_grown_28 : decode cX7_grown 28 = .ok (.iconst 1, 1) := by decide +kernel
theorem dX7_grown_29 : decode cX7_grown 29 = .ok (.invokevirtual 59, 3) := by decide +kernel
theorem dX7_grown_32 : decode cX7_grown 32 = .ok (.ireturn, 1) := by decide +kernel
theorem dX7_grown_33 : decode cX7_grown 33 = .ok (.aload_n 0, 1) := by decide +kernel
theorem dX7_grown_34 : decode cX7_grown 34 = .ok (.getfield 10, 3) := by decide +kernel
theorem dX7_grown_37 : decode cX7_grown 37 = .ok (.iload_n 1, 1) := by decide +kernel
theorem dX7_grown_38 : decode cX7_grown 38 = .ok (.iload_n 2, 1) := by decide +kernel
theorem dX7_grown_39 : decode cX7_grown 39 = .ok (.iload_n 3, 1) := by decide +kernel
theorem dX7_grown_40 : decode cX7_grown 40 = .ok (.invokevirtual 240, 3) := by decide +kernel
theorem dX7_grown_43 : decode cX7_grown 43 = .ok (.ireturn, 1) := by decide +kernel
theorem dX7_seed_0 : decode cX7_seed 0 = .ok (.aload_n 0, 1) := by decide +kernel
theorem dX7_seed_1 : decode cX7_seed 1 = .ok (.getfield 10, 3) := by decide +kernel
theorem dX7_seed_4 : decode cX7_seed 4 = .ok (.getfield 243, 3) := by decide +kernel
theorem dX7_seed_7 : decode cX7_seed 7 = .ok (.istore_n 2, 1) := by decide +kernel
theorem dX7_seed_8 : decode cX7_seed 8 = .ok (.aload_n 0, 1) := by decide +kernel
theorem dX7_seed_9 : decode cX7_seed 9 = .ok (.getfield 10, 3) := by decide +kernel
theorem dX7_seed_12 : decode cX7_seed 12 = .ok (.iload_n 1, 1) := by decide +kernel
theorem dX7_seed_13 : decode cX7_seed 13 = .ok (.putfield 243, 3) := by decide +kernel
theorem dX7_seed_16 : decode cX7_seed 16 = .ok (.iload_n 2, 1) := by decide +kernel
theorem dX7_seed_17 : decode cX7_seed 17 = .ok (.ireturn, 1) := by decide +kernel
theorem dX7_voice_0 : decode cX7_voice 0 = .ok (.aload_n 0, 1) := by decide +kernel
theorem dX7_voice_1 : decode cX7_voice 1 = .ok (.iload_n 1, 1) := by decide +kernel
theorem dX7_voice_2 : decode cX7_voice 2 = .ok (.invokevirtual 108, 3) := by decide +kernel
theorem dX7_voice_5 : decode cX7_voice 5 = .ok (.ifCond .eq 12, 3) := by decide +kernel
theorem dX7_voice_8 : decode cX7_voice 8 = .ok (.iload_n 2, 1) := by decide +kernel
theorem dX7_voice_9 : decode cX7_voice 9 = .ok (.iconst 0, 1) := by decide +kernel
theorem dX7_voice_10 : decode cX7_voice 10 = .ok (.iconst 3, 1) := by decide +kernel
theorem dX7_voice_11 : decode cX7_voice 11 = .ok (.invokestatic 55, 3) := by decide +kernel
theorem dX7_voice_14 : decode cX7_voice 14 = .ok (.ifCond .ne 9, 3) := by decide +kernel
theorem dX7_voice_17 : decode cX7_voice 17 = .ok (.aload_n 0, 1) := by decide +kernel
theorem dX7_voice_18 : decode cX7_voice 18 = .ok (.iconst 1, 1) := by decide +kernel
theorem dX7_voice_19 : decode cX7_voice 19 = .ok (.invokevirtual 59, 3) := by decide +kernel
theorem dX7_voice_22 : decode cX7_voice 22 = .ok (.ireturn, 1) := by decide +kernel
theorem dX7_voice_23 : decode cX7_voice 23 = .ok (.aload_n 0, 1) := by decide +kernel
theorem dX7_voice_24 : decode cX7_voice 24 = .ok (.getfield 36, 3) := by decide +kernel
theorem dX7_voice_27 : decode cX7_voice 27 = .ok (.iload_n 1, 1) := by decide +kernel
theorem dX7_voice_28 : decode cX7_voice 28 = .ok (.aload_n 0, 1) := by decide +kernel
theorem dX7_voice_29 : decode cX7_voice 29 = .ok (.getfield 10, 3) := by decide +kernel
theorem dX7_voice_32 : decode cX7_voice 32 = .ok (.getfield 98, 3) := by decide +kernel
theorem dX7_voice_35 : decode cX7_voice 35 = .ok (.iload_n 1, 1) := by decide +kernel
theorem dX7_voice_36 : decode cX7_voice 36 = .ok (.aaload, 1) := by decide +kernel
theorem dX7_voice_37 : decode cX7_voice 37 = .ok (.iload_n 2, 1) := by decide +kernel
theorem dX7_voice_38 : decode cX7_voice 38 = .ok (.iload_n 3, 1) := by decide +kernel
theorem dX7_voice_39 : decode cX7_voice 39 = .ok (.invokevirtual 246, 3) := by decide +kernel
theorem dX7_voice_42 : decode cX7_voice 42 = .ok (.ireturn, 1) := by decide +kernel
theorem dX7_trace_0 : decode cX7_trace 0 = .ok (.iload_n 1, 1) := by decide +kernel
theorem dX7_trace_1 : decode cX7_trace 1 = .ok (.iconst 0, 1) := by decide +kernel
theorem dX7_trace_2 : decode cX7_trace 2 = .ok (.aload_n 0, 1) := by decide +kernel
theorem dX7_trace_3 : decode cX7_trace 3 = .ok (.getfield 36, 3) := by decide +kernel
theorem dX7_trace_6 : decode cX7_trace 6 = .ok (.getfield 250, 3) := by decide +kernel
theorem dX7_trace_9 : decode cX7_trace 9 = .ok (.iconst 1, 1) := by decide +kernel
theorem dX7_trace_10 : decode cX7_trace 10 = .ok (.isub, 1) := by decide +kernel
theorem dX7_trace_11 : decode cX7_trace 11 = .ok (.invokestatic 55, 3) := by decide +kernel
theorem dX7_trace_14 : decode cX7_trace 14 = .ok (.ifCond .eq 15, 3) := by decide +kernel
theorem dX7_trace_17 : decode cX7_trace 17 = .ok (.aload_n 0, 1) := by decide +kernel
theorem dX7_trace_18 : decode cX7_trace 18 = .ok (.getfield 36, 3) := by decide +kernel
theorem dX7_trace_21 : decode cX7_trace 21 = .ok (.getfield 253, 3) := by decide +kernel
theorem dX7_trace_24 : decode cX7_trace 24 = .ok (.iload_n 1, 1) := by decide +kernel
theorem dX7_trace_25 : decode cX7_trace 25 = .ok (.iaload, 1) := by decide +kernel
theorem dX7_trace_26 : decode cX7_trace 26 = .ok (.goto 8, 3) := by decide +kernel
theorem dX7_trace_29 : decode cX7_trace 29 = .ok (.aload_n 0, 1) := by decide +kernel
theorem dX7_trace_30 : decode cX7_trace 30 = .ok (.iconst 2, 1) := by decide +kernel
theorem dX7_trace_31 : decode cX7_trace 31 = .ok (.invokevirtual 59, 3) := by decide +kernel
theorem dX7_trace_34 : decode cX7_trace 34 = .ok (.ireturn, 1) := by decide +kernel
theorem dX7_sheet_0 : decode cX7_sheet 0 = .ok (.iload_n 1, 1) := by decide +kernel
theorem dX7_sheet_1 : decode cX7_sheet 1 = .ok (.invokestatic 229, 3) := by decide +kernel
theorem dX7_sheet_4 : decode cX7_sheet 4 = .ok (.ifCond .eq 25, 3) := by decide +kernel
theorem dX7_sheet_7 : decode cX7_sheet 7 = .ok (.iload_n 2, 1) := by decide +kernel
theorem dX7_sheet_8 : decode cX7_sheet 8 = .ok (.ifCond .eq 27, 3) := by decide +kernel
theorem dX7_sheet_11 : decode cX7_sheet 11 = .ok (.iload_n 2, 1) := by decide +kernel
theorem dX7_sheet_12 : decode cX7_sheet 12 = .ok (.bipush 8, 2) := by decide +kernel
theorem dX7_sheet_14 : decode cX7_sheet 14 = .ok (.if_icmp .eq 21, 3) := by decide +kernel
theorem dX7_sheet_17 : decode cX7_sheet 17 = .ok (.iload_n 2, 1) := by decide +kernel
theorem dX7_sheet_18 : decode cX7_sheet 18 = .ok (.bipush 16, 2) := by decide +kernel
theorem dX7_sheet_20 : decode cX7_sheet 20 = .ok (.if_icmp .eq 15, 3) := by decide +kernel
theorem dX7_sheet_23 : decode cX7_sheet 23 = .ok (.iload_n 2, 1) := by decide +kernel
theorem dX7_sheet_24 : decode cX7_sheet 24 = .ok (.bipush 32, 2) := by decide +kernel
theorem dX7_sheet_26 : decode cX7_sheet 26 = .ok (.if_icmp .eq 9, 3) := by decide +kernel
theorem dX7_sheet_29 : decode cX7_sheet 29 = .ok (.aload_n 0, 1) := by decide +kernel
theorem dX7_sheet_30 : decode cX7_sheet 30 = .ok (.iconst 1, 1) := by decide +kernel
theorem dX7_sheet_31 : decode cX7_sheet 31 = .ok (.invokevirtual 59, 3) := by decide +kernel
theorem dX7_sheet_34 : decode cX7_sheet 34 = .ok (.ireturn, 1) := by decide +kernel
theorem dX7_sheet_35 : decode cX7_sheet 35 = .ok (.iload_n 2, 1) := by decide +kernel
theorem dX7_sheet_36 : decode cX7_sheet 36 = .ok (.ifCond .eq 13, 3) := by decide +kernel
theorem dX7_sheet_39 : decode cX7_sheet 39 = .ok (.iload_n 3, 1) := by decide +kernel
theorem dX7_sheet_40 : decode cX7_sheet 40 = .ok (.ifCond .ge 9, 3) := by decide +kernel
theorem dX7_sheet_43 : decode cX7_sheet 43 = .ok (.aload_n 0, 1) := by decide +kernel
theorem dX7_sheet_44 : decode cX7_sheet 44 = .ok (.iconst 3, 1) := by decide +kernel
theorem dX7_sheet_45 : decode cX7_sheet 45 = .ok (.invokevirtual 59, 3) := by decide +kernel
theorem dX7_sheet_48 : decode cX7_sheet 48 = .ok (.ireturn, 1) := by decide +kernel
theorem dX7_sheet_49 : decode cX7_sheet 49 = .ok (.iload_n 2, 1) := by decide +kernel
theorem dX7_sheet_50 : decode cX7_sheet 50 = .ok (.ifCond .eq 15, 3) := by decide +kernel
theorem dX7_sheet_53 : decode cX7_sheet 53 = .ok (.iload_n 3, 1) := by decide +kernel
theorem dX7_sheet_54 : decode cX7_sheet 54 = .ok (.bipush 40, 2) := by decide +kernel
theorem dX7_sheet_56 : decode cX7_sheet 56 = .ok (.if_icmp .le 9, 3) := by decide +kernel
theorem dX7_sheet_59 : decode cX7_sheet 59 = .ok (.aload_n 0, 1) := by decide +kernel
theorem dX7_sheet_60 : decode cX7_sheet 60 = .ok (.iconst 1, 1) := by decide +kernel
theorem dX7_sheet_61 : decode cX7_sheet 61 = .ok (.invokevirtual 59, 3) := by decide +kernel
theorem dX7_sheet_64 : decode cX7_sheet 64 = .ok (.ireturn, 1) := by decide +kernel
theorem dX7_sheet_65 : decode cX7_sheet 65 = .ok (.aload_n 0, 1) := by decide +kernel
theorem dX7_sheet_66 : decode cX7_sheet 66 = .ok (.getfield 42, 3) := by decide +kernel
theorem dX7_sheet_69 : decode cX7_sheet 69 = .ok (.iload_n 1, 1) := by decide +kernel
theorem dX7_sheet_70 : decode cX7_sheet 70 = .ok (.aaload, 1) := by decide +kernel
theorem dX7_sheet_71 : decode cX7_sheet 71 = .ok (.iload_n 2, 1) := by decide +kernel
theorem dX7_sheet_72 : decode cX7_sheet 72 = .ok (.iload_n 2, 1) := by decide +kernel
theorem dX7_sheet_73 : decode cX7_sheet 73 = .ok (.ifCond .ne 7, 3) := by decide +kernel
theorem dX7_sheet_76 : decode cX7_sheet 76 = .ok (.iconst 0, 1) := by decide +kernel
theorem dX7_sheet_77 : decode cX7_sheet 77 = .ok (.goto 4, 3) := by decide +kernel
theorem dX7_sheet_80 : decode cX7_sheet 80 = .ok (.iload_n 3, 1) := by decide +kernel
theorem dX7_sheet_81 : decode cX7_sheet 81 = .ok (.invokevirtual 256, 3) := by decide +kernel
theorem dX7_sheet_84 : decode cX7_sheet 84 = .ok (.iconst 1, 1) := by decide +kernel
theorem dX7_sheet_85 : decode cX7_sheet 85 = .ok (.ireturn, 1) := by decide +kernel
theorem dX7_put_0 : decode cX7_put 0 = .ok (.iload_n 1, 1) := by decide +kernel
theorem dX7_put_1 : decode cX7_put 1 = .ok (.invokestatic 229, 3) := by decide +kernel
theorem dX7_put_4 : decode cX7_put 4 = .ok (.ifCond .ne 9, 3) := by decide +kernel
theorem dX7_put_7 : decode cX7_put 7 = .ok (.aload_n 0, 1) := by decide +kernel
theorem dX7_put_8 : decode cX7_put 8 = .ok (.iconst 1, 1) := by decide +kernel
theorem dX7_put_9 : decode cX7_put 9 = .ok (.invokevirtual 59, 3) := by decide +kernel
theorem dX7_put_12 : decode cX7_put 12 = .ok (.ireturn, 1) := by decide +kernel
theorem dX7_put_13 : decode cX7_put 13 = .ok (.aload_n 0, 1) := by decide +kernel
theorem dX7_put_14 : decode cX7_put 14 = .ok (.getfield 42, 3) := by decide +kernel
theorem dX7_put_17 : decode cX7_put 17 = .ok (.iload_n 1, 1) := by decide +kernel
theorem dX7_put_18 : decode cX7_put 18 = .ok (.aaload, 1) := by decide +kernel
theorem dX7_put_19 : decode cX7_put 19 = .ok (.astore 4, 2) := by decide +kernel
theorem dX7_put_21 : decode cX7_put 21 = .ok (.aload 4, 2) := by decide +kernel
theorem dX7_put_23 : decode cX7_put 23 = .ok (.invokevirtual 259, 3) := by decide +kernel
theorem dX7_put_26 : decode cX7_put 26 = .ok (.ifCond .eq 9, 3) := by decide +kernel
theorem dX7_put_29 : decode cX7_put 29 = .ok (.aload_n 0, 1) := by decide +kernel
theorem dX7_put_30 : decode cX7_put 30 = .ok (.iconst 2, 1) := by decide +kernel
theorem dX7_put_31 : decode cX7_put 31 = .ok (.invokevirtual 59, 3) := by decide +kernel
theorem dX7_put_34 : decode cX7_put 34 = .ok (.ireturn, 1) := by decide +kernel
theorem dX7_put_35 : decode cX7_put 35 = .ok (.iload_n 2, 1) := by decide +kernel
theorem dX7_put_36 : decode cX7_put 36 = .ok (.iconst 0, 1) := by decide +kernel
theorem dX7_put_37 : decode cX7_put 37 = .ok (.aload 4, 2) := by decide +kernel
theorem dX7_put_39 : decode cX7_put 39 = .ok (.getfield 263, 3) := by decide +kernel
theorem dX7_put_42 : decode cX7_put 42 = .ok (.iconst 1, 1) := by decide +kernel
theorem dX7_put_43 : decode cX7_put 43 = .ok (.isub, 1) := by decide +kernel
theorem dX7_put_44 : decode cX7_put 44 = .ok (.invokestatic 55, 3) := by decide +kernel
theorem dX7_put_47 : decode cX7_put 47 = .ok (.ifCond .ne 9, 3) := by decide +kernel
theorem dX7_put_50 : decode cX7_put 50 = .ok (.aload_n 0, 1) := by decide +kernel
theorem dX7_put_51 : decode cX7_put 51 = .ok (.iconst 1, 1) := by decide +kernel
theorem dX7_put_52 : decode cX7_put 52 = .ok (.invokevirtual 59, 3) := by decide +kernel
theorem dX7_put_55 : decode cX7_put 55 = .ok (.ireturn, 1) := by decide +kernel
theorem dX7_put_56 : decode cX7_put 56 = .ok (.aload 4, 2) := by decide +kernel
theorem dX7_put_58 : decode cX7_put 58 = .ok (.iload_n 2, 1) := by decide +kernel
theorem dX7_put_59 : decode cX7_put 59 = .ok (.iload_n 3, 1) := by decide +kernel
theorem dX7_put_60 : decode cX7_put 60 = .ok (.invokevirtual 266, 3) := by decide +kernel
theorem dX7_put_63 : decode cX7_put 63 = .ok (.iconst 1, 1) := by decide +kernel
theorem dX7_put_64 : decode cX7_put 64 = .ok (.ireturn, 1) := by decide +kernel
theorem dX7_move_0 : decode cX7_move 0 = .ok (.iload_n 1, 1) := by decide +kernel
theorem dX7_move_1 : decode cX7_move 1 = .ok (.invokestatic 229, 3) := by decide +kernel
theorem dX7_move_4 : decode cX7_move 4 = .ok (.ifCond .eq 10, 3) := by decide +kernel
theorem dX7_move_7 : decode cX7_move 7 = .ok (.iload_n 3, 1) := by decide +kernel
theorem dX7_move_8 : decode cX7_move 8 = .ok (.invokestatic 229, 3) := by decide +kernel
theorem dX7_move_11 : decode cX7_move 11 = .ok (.ifCond .ne 9, 3) := by decide +kernel
theorem dX7_move_14 : decode cX7_move 14 = .ok (.aload_n 0, 1) := by decide +kernel
theorem dX7_move_15 : decode cX7_move 15 = .ok (.iconst 1, 1) := by decide +kernel
theorem dX7_move_16 : decode cX7_move 16 = .ok (.invokevirtual 59, 3) := by decide +kernel
theorem dX7_move_19 : decode cX7_move 19 = .ok (.ireturn, 1) := by decide +kernel
theorem dX7_move_20 : decode cX7_move 20 = .ok (.aload_n 0, 1) := by decide +kernel
theorem dX7_move_21 : decode cX7_move 21 = .ok (.getfield 42, 3) := by decide +kernel
theorem dX7_move_24 : decode cX7_move 24 = .ok (.iload_n 1, 1) := by decide +kernel
theorem dX7_move_25 : decode cX7_move 25 = .ok (.aaload, 1) := by decide +kernel
theorem dX7_move_26 : decode cX7_move 26 = .ok (.astore 6, 2) := by decide +kernel
theorem dX7_move_28 : decode cX7_move 28 = .ok (.aload_n 0, 1) := by decide +kernel
theorem dX7_move_29 : decode cX7_move 29 = .ok (.getfield 42, 3) := by decide +kernel
theorem dX7_move_32 : decode cX7_move 32 = .ok (.iload_n 3, 1) := by decide +kernel
theorem dX7_move_33 : decode cX7_move 33 = .ok (.aaload, 1) := by decide +kernel
theorem dX7_move_34 : decode cX7_move 34 = .ok (.astore 7, 2) := by decide +kernel
theorem dX7_move_36 : decode cX7_move 36 = .ok (.aload 6, 2) := by decide +kernel
theorem dX7_move_38 : decode cX7_move 38 = .ok (.invokevirtual 259, 3) := by decide +kernel
theorem dX7_move_41 : decode cX7_move 41 = .ok (.ifCond .ne 11, 3) := by decide +kernel
theorem dX7_move_44 : decode cX7_move 44 = .ok (.aload 7, 2) := by decide +kernel
theorem dX7_move_46 : decode cX7_move 46 = .ok (.invokevirtual 259, 3) := by decide +kernel
theorem dX7_move_49 : decode cX7_move 49 = .ok (.ifCond .eq 9, 3) := by decide +kernel
theorem dX7_move_52 : decode cX7_move 52 = .ok (.aload_n 0, 1) := by decide +kernel
theorem dX7_move_53 : decode cX7_move 53 = .ok (.iconst 2, 1) := by decide +kernel
theorem dX7_move_54 : decode cX7_move 54 = .ok (.invokevirtual 59, 3) := by decide +kernel
theorem dX7_move_57 : decode cX7_move 57 = .ok (.ireturn, 1) := by decide +kernel
theorem dX7_move_58 : decode cX7_move 58 = .ok (.aload 6, 2) := by decide +kernel
theorem dX7_move_60 : decode cX7_move 60 = .ok (.getfield 269, 3) := by decide +kernel
theorem dX7_move_63 : decode cX7_move 63 = .ok (.aload 7, 2) := by decide +kernel
theorem dX7_move_65 : decode cX7_move 65 = .ok (.getfield 269, 3) := by decide +kernel
theorem dX7_move_68 : decode cX7_move 68 = .ok (.if_icmp .eq 9, 3) := by decide +kernel
theorem dX7_move_71 : decode cX7_move 71 = .ok (.aload_n 0, 1) := by decide +kernel
theorem dX7_move_72 : decode cX7_move 72 = .ok (.iconst 5, 1) := by decide +kernel
theorem dX7_move_73 : decode cX7_move 73 = .ok (.invokevirtual 59, 3) := by decide +kernel
theorem dX7_move_76 : decode cX7_move 76 = .ok (.ireturn, 1) := by decide +kernel
theorem dX7_move_77 : decode cX7_move 77 = .ok (.aload 6, 2) := by decide +kernel
theorem dX7_move_79 : decode cX7_move 79 = .ok (.iload_n 2, 1) := by decide +kernel
theorem dX7_move_80 : decode cX7_move 80 = .ok (.iload 5, 2) := by decide +kernel
theorem dX7_move_82 : decode cX7_move 82 = .ok (.invokevirtual 272, 3) := by decide +kernel
theorem dX7_move_85 : decode cX7_move 85 = .ok (.ifCond .eq 15, 3) := by decide +kernel
theorem dX7_move_88 : decode cX7_move 88 = .ok (.aload 7, 2) := by decide +kernel
theorem dX7_move_90 : decode cX7_move 90 = .ok (.iload 4, 2) := by decide +kernel
theorem dX7_move_92 : decode cX7_move 92 = .ok (.iload 5, 2) := by decide +kernel
theorem dX7_move_94 : decode cX7_move 94 = .ok (.invokevirtual 272, 3) := by decide +kernel
theorem dX7_move_97 : decode cX7_move 97 = .ok (.ifCond .ne 9, 3) := by decide +kernel
theorem dX7_move_100 : decode cX7_move 100 = .ok (.aload_n 0, 1) := by decide +kernel
theorem dX7_move_101 : decode cX7_move 101 = .ok (.iconst 1, 1) := by decide +kernel
theorem dX7_move_102 : decode cX7_move 102 = .ok (.invokevirtual 59, 3) := by decide +kernel
theorem dX7_move_105 : decode cX7_move 105 = .ok (.ireturn, 1) := by decide +kernel
theorem dX7_move_106 : decode cX7_move 106 = .ok (.aload 6, 2) := by decide +kernel
theorem dX7_move_108 : decode cX7_move 108 = .ok (.getfield 275, 3) := by decide +kernel
theorem dX7_move_111 : decode cX7_move 111 = .ok (.iload_n 2, 1) := by decide +kernel
theorem dX7_move_112 : decode cX7_move 112 = .ok (.aload 7, 2) := by decide +kernel
theorem dX7_move_114 : decode cX7_move 114 = .ok (.getfield 275, 3) := by decide +kernel
theorem dX7_move_117 : decode cX7_move 117 = .ok (.iload 4, 2) := by decide +kernel
theorem dX7_move_119 : decode cX7_move 119 = .ok (.iload 5, 2) := by decide +kernel
theorem dX7_move_121 : decode cX7_move 121 = .ok (.invokestatic 278, 3) := by decide +kernel
theorem dX7_move_124 : decode cX7_move 124 = .ok (.iload 5, 2) := by decide +kernel
theorem dX7_move_126 : decode cX7_move 126 = .ok (.ireturn, 1) := by decide +kernel
theorem dX7_waters_0 : decode cX7_waters 0 = .ok (.iload_n 1, 1) := by decide +kernel
theorem dX7_waters_1 : decode cX7_waters 1 = .ok (.invokestatic 229, 3) := by decide +kernel
theorem dX7_waters_4 : decode cX7_waters 4 = .ok (.ifCond .ne 9, 3) := by decide +kernel
theorem dX7_waters_7 : decode cX7_waters 7 = .ok (.aload_n 0, 1) := by decide +kernel
theorem dX7_waters_8 : decode cX7_waters 8 = .ok (.iconst 1, 1) := by decide +kernel
theorem dX7_waters_9 : decode cX7_waters 9 = .ok (.invokevirtual 59, 3) := by decide +kernel
theorem dX7_waters_12 : decode cX7_waters 12 = .ok (.ireturn, 1) := by decide +kernel
theorem dX7_waters_13 : decode cX7_waters 13 = .ok (.aload_n 0, 1) := by decide +kernel
theorem dX7_waters_14 : decode cX7_waters 14 = .ok (.getfield 42, 3) := by decide +kernel
theorem dX7_waters_17 : decode cX7_waters 17 = .ok (.iload_n 1, 1) := by decide +kernel
theorem dX7_waters_18 : decode cX7_waters 18 = .ok (.aaload, 1) := by decide +kernel
theorem dX7_waters_19 : decode cX7_waters 19 = .ok (.invokevirtual 259, 3) := by decide +kernel
theorem dX7_waters_22 : decode cX7_waters 22 = .ok (.ifCond .eq 9, 3) := by decide +kernel
theorem dX7_waters_25 : decode cX7_waters 25 = .ok (.aload_n 0, 1) := by decide +kernel
theorem dX7_waters_26 : decode cX7_waters 26 = .ok (.iconst 2, 1) := by decide +kernel
theorem dX7_waters_27 : decode cX7_waters 27 = .ok (.invokevirtual 59, 3) := by decide +kernel
theorem dX7_waters_30 : decode cX7_waters 30 = .ok (.ireturn, 1) := by decide +kernel
theorem dX7_waters_31 : decode cX7_waters 31 = .ok (.aload_n 0, 1) := by decide +kernel
theorem dX7_waters_32 : decode cX7_waters 32 = .ok (.getfield 10, 3) := by decide +kernel
theorem dX7_waters_35 : decode cX7_waters 35 = .ok (.aload_n 0, 1) := by decide +kernel
theorem dX7_waters_36 : decode cX7_waters 36 = .ok (.getfield 42, 3) := by decide +kernel
theorem dX7_waters_39 : decode cX7_waters 39 = .ok (.iload_n 1, 1) := by decide +kernel
theorem dX7_waters_40 : decode cX7_waters 40 = .ok (.aaload, 1) := by decide +kernel
theorem dX7_waters_41 : decode cX7_waters 41 = .ok (.invokevirtual 284, 3) := by decide +kernel
theorem dX7_waters_44 : decode cX7_waters 44 = .ok (.ireturn, 1) := by decide +kernel
theorem dX7_judge_0 : decode cX7_judge 0 = .ok (.iload_n 1, 1) := by decide +kernel
theorem dX7_judge_1 : decode cX7_judge 1 = .ok (.invokestatic 229, 3) := by decide +kernel
theorem dX7_judge_4 : decode cX7_judge 4 = .ok (.ifCond .ne 9, 3) := by decide +kernel
theorem dX7_judge_7 : decode cX7_judge 7 = .ok (.aload_n 0, 1) := by decide +kernel
theorem dX7_judge_8 : decode cX7_judge 8 = .ok (.iconst 1, 1) := by decide +kernel
theorem dX7_judge_9 : decode cX7_judge 9 = .ok (.invokevirtual 59, 3) := by decide +kernel
theorem dX7_judge_12 : decode cX7_judge 12 = .ok (.ireturn, 1) := by decide +kernel
theorem dX7_judge_13 : decode cX7_judge 13 = .ok (.aload_n 0, 1) := by decide +kernel
theorem dX7_judge_14 : decode cX7_judge 14 = .ok (.getfield 42, 3) := by decide +kernel
theorem dX7_judge_17 : decode cX7_judge 17 = .ok (.iload_n 1, 1) := by decide +kernel
theorem dX7_judge_18 : decode cX7_judge 18 = .ok (.aaload, 1) := by decide +kernel
theorem dX7_judge_19 : decode cX7_judge 19 = .ok (.invokevirtual 259, 3) := by decide +kernel
theorem dX7_judge_22 : decode cX7_judge 22 = .ok (.ifCond .eq 9, 3) := by decide +kernel
theorem dX7_judge_25 : decode cX7_judge 25 = .ok (.aload_n 0, 1) := by decide +kernel
theorem dX7_judge_26 : decode cX7_judge 26 = .ok (.iconst 2, 1) := by decide +kernel
theorem dX7_judge_27 : decode cX7_judge 27 = .ok (.invokevirtual 59, 3) := by decide +kernel
theorem dX7_judge_30 : decode cX7_judge 30 = .ok (.ireturn, 1) := by decide +kernel
theorem dX7_judge_31 : decode cX7_judge 31 = .ok (.aload_n 0, 1) := by decide +kernel
theorem dX7_judge_32 : decode cX7_judge 32 = .ok (.getfield 10, 3) := by decide +kernel
theorem dX7_judge_35 : decode cX7_judge 35 = .ok (.aload_n 0, 1) := by decide +kernel
theorem dX7_judge_36 : decode cX7_judge 36 = .ok (.getfield 42, 3) := by decide +kernel
theorem dX7_judge_39 : decode cX7_judge 39 = .ok (.iload_n 1, 1) := by decide +kernel
theorem dX7_judge_40 : decode cX7_judge 40 = .ok (.aaload, 1) := by decide +kernel
theorem dX7_judge_41 : decode cX7_judge 41 = .ok (.invokevirtual 288, 3) := by decide +kernel
theorem dX7_judge_44 : decode cX7_judge 44 = .ok (.ireturn, 1) := by decide +kernel
theorem dX7_image_0 : decode cX7_image 0 = .ok (.aload_n 0, 1) := by decide +kernel
theorem dX7_image_1 : decode cX7_image 1 = .ok (.getfield 16, 3) := by decide +kernel
theorem dX7_image_4 : decode cX7_image 4 = .ok (.aload_n 0, 1) := by decide +kernel
theorem dX7_image_5 : decode cX7_image 5 = .ok (.getfield 10, 3) := by decide +kernel
theorem dX7_image_8 : decode cX7_image 8 = .ok (.invokevirtual 291, 3) := by decide +kernel
theorem dX7_image_11 : decode cX7_image 11 = .ok (.aload_n 0, 1) := by decide +kernel
theorem dX7_image_12 : decode cX7_image 12 = .ok (.dup, 1) := by decide +kernel
theorem dX7_image_13 : decode cX7_image 13 = .ok (.getfield 295, 3) := by decide +kernel
theorem dX7_image_16 : decode cX7_image 16 = .ok (.iconst 1, 1) := by decide +kernel
theorem dX7_image_17 : decode cX7_image 17 = .ok (.iadd, 1) := by decide +kernel
theorem dX7_image_18 : decode cX7_image 18 = .ok (.putfield 295, 3) := by decide +kernel
theorem dX7_image_21 : decode cX7_image 21 = .ok (.aload_n 0, 1) := by decide +kernel
theorem dX7_image_22 : decode cX7_image 22 = .ok (.getfield 295, 3) := by decide +kernel
theorem dX7_image_25 : decode cX7_image 25 = .ok (.ireturn, 1) := by decide +kernel
theorem dX7_restore_0 : decode cX7_restore 0 = .ok (.aload_n 0, 1) := by decide +kernel
theorem dX7_restore_1 : decode cX7_restore 1 = .ok (.getfield 295, 3) := by decide +kernel
theorem dX7_restore_4 : decode cX7_restore 4 = .ok (.ifCond .ne 9, 3) := by decide +kernel
theorem dX7_restore_7 : decode cX7_restore 7 = .ok (.aload_n 0, 1) := by decide +kernel
theorem dX7_restore_8 : decode cX7_restore 8 = .ok (.iconst 2, 1) := by decide +kernel
theorem dX7_restore_9 : decode cX7_restore 9 = .ok (.invokevirtual 59, 3) := by decide +kernel
theorem dX7_restore_12 : decode cX7_restore 12 = .ok (.ireturn, 1) := by decide +kernel
theorem dX7_restore_13 : decode cX7_restore 13 = .ok (.aload_n 0, 1) := by decide +kernel
theorem dX7_restore_14 : decode cX7_restore 14 = .ok (.getfield 10, 3) := by decide +kernel
theorem dX7_restore_17 : decode cX7_restore 17 = .ok (.aload_n 0, 1) := by decide +kernel
theorem dX7_restore_18 : decode cX7_restore 18 = .ok (.getfield 16, 3) := by decide +kernel
theorem dX7_restore_21 : decode cX7_restore 21 = .ok (.invokevirtual 291, 3) := by decide +kernel
theorem dX7_restore_24 : decode cX7_restore 24 = .ok (.aload_n 0, 1) := by decide +kernel
theorem dX7_restore_25 : decode cX7_restore 25 = .ok (.getfield 10, 3) := by decide +kernel
theorem dX7_restore_28 : decode cX7_restore 28 = .ok (.getfield 174, 3) := by decide +kernel
theorem dX7_restore_31 : decode cX7_restore 31 = .ok (.ireturn, 1) := by decide +kernel
theorem dX7_tell_0 : decode cX7_tell 0 = .ok (.aload_n 0, 1) := by decide +kernel
theorem dX7_tell_1 : decode cX7_tell 1 = .ok (.getfield 10, 3) := by decide +kernel
theorem dX7_tell_4 : decode cX7_tell 4 = .ok (.getfield 298, 3) := by decide +kernel
theorem dX7_tell_7 : decode cX7_tell 7 = .ok (.bipush 20, 2) := by decide +kernel
theorem dX7_tell_9 : decode cX7_tell 9 = .ok (.if_icmp .lt 9, 3) := by decide +kernel
theorem dX7_tell_12 : decode cX7_tell 12 = .ok (.aload_n 0, 1) := by decide +kernel
theorem dX7_tell_13 : decode cX7_tell 13 = .ok (.iconst 4, 1) := by decide +kernel
theorem dX7_tell_14 : decode cX7_tell 14 = .ok (.invokevirtual 59, 3) := by decide +kernel
theorem dX7_tell_17 : decode cX7_tell 17 = .ok (.ireturn, 1) := by decide +kernel
theorem dX7_tell_18 : decode cX7_tell 18 = .ok (.aload_n 0, 1) := by decide +kernel
theorem dX7_tell_19 : decode cX7_tell 19 = .ok (.getfield 10, 3) := by decide +kernel
theorem dX7_tell_22 : decode cX7_tell 22 = .ok (.getfield 301, 3) := by decide +kernel
theorem dX7_tell_25 : decode cX7_tell 25 = .ok (.aload_n 0, 1) := by decide +kernel
theorem dX7_tell_26 : decode cX7_tell 26 = .ok (.getfield 10, 3) := by decide +kernel
theorem dX7_tell_29 : decode cX7_tell 29 = .ok (.getfield 298, 3) := by decide +kernel
theorem dX7_tell_32 : decode cX7_tell 32 = .ok (.iload_n 1, 1) := by decide +kernel
theorem dX7_tell_33 : decode cX7_tell 33 = .ok (.iastore, 1) := by decide +kernel
theorem dX7_tell_34 : decode cX7_tell 34 = .ok (.aload_n 0, 1) := by decide +kernel
theorem dX7_tell_35 : decode cX7_tell 35 = .ok (.getfield 10, 3) := by decide +kernel
theorem dX7_tell_38 : decode cX7_tell 38 = .ok (.dup, 1) := by decide +kernel
theorem dX7_tell_39 : decode cX7_tell 39 = .ok (.getfield 298, 3) := by decide +kernel
theorem dX7_tell_42 : decode cX7_tell 42 = .ok (.iconst 1, 1) := by decide +kernel
theorem dX7_tell_43 : decode cX7_tell 43 = .ok (.iadd, 1) := by decide +kernel
theorem dX7_tell_44 : decode cX7_tell 44 = .ok (.putfield 298, 3) := by decide +kernel
theorem dX7_tell_47 : decode cX7_tell 47 = .ok (.aload_n 0, 1) := by decide +kernel
theorem dX7_tell_48 : decode cX7_tell 48 = .ok (.getfield 10, 3) := by decide +kernel
theorem dX7_tell_51 : decode cX7_tell 51 = .ok (.getfield 298, 3) := by decide +kernel
theorem dX7_tell_54 : decode cX7_tell 54 = .ok (.ireturn, 1) := by decide +kernel
theorem dX7_check_0 : decode cX7_check 0 = .ok (.iconst 0, 1) := by decide +kernel
theorem dX7_check_1 : decode cX7_check 1 = .ok (.istore_n 1, 1) := by decide +kernel
theorem dX7_check_2 : decode cX7_check 2 = .ok (.iconst 0, 1) := by decide +kernel
theorem dX7_check_3 : decode cX7_check 3 = .ok (.istore_n 2, 1) := by decide +kernel
theorem dX7_check_4 : decode cX7_check 4 = .ok (.iload_n 2, 1) := by decide +kernel
theorem dX7_check_5 : decode cX7_check 5 = .ok (.aload_n 0, 1) := by decide +kernel
theorem dX7_check_6 : decode cX7_check 6 = .ok (.getfield 10, 3) := by decide +kernel
theorem dX7_check_9 : decode cX7_check 9 = .ok (.getfield 298, 3) := by decide +kernel
theorem dX7_check_12 : decode cX7_check 12 = .ok (.if_icmp .ge 39, 3) := by decide +kernel
theorem dX7_check_15 : decode cX7_check 15 = .ok (.iload_n 1, 1) := by decide +kernel
theorem dX7_check_16 : decode cX7_check 16 = .ok (.ifCond .ne 35, 3) := by decide +kernel
theorem dX7_check_19 : decode cX7_check 19 = .ok (.aload_n 0, 1) := by decide +kernel
theorem dX7_check_20 : decode cX7_check 20 = .ok (.getfield 10, 3) := by decide +kernel
theorem dX7_check_23 : decode cX7_check 23 = .ok (.getfield 301, 3) := by decide +kernel
theorem dX7_check_26 : decode cX7_check 26 = .ok (.iload_n 2, 1) := by decide +kernel
theorem dX7_check_27 : decode cX7_check 27 = .ok (.iaload, 1) := by decide +kernel
theorem dX7_check_28 : decode cX7_check 28 = .ok (.aload_n 0, 1) := by decide +kernel
theorem dX7_check_29 : decode cX7_check 29 = .ok (.getfield 10, 3) := by decide +kernel
theorem dX7_check_32 : decode cX7_check 32 = .ok (.iload_n 2, 1) := by decide +kernel
theorem dX7_check_33 : decode cX7_check 33 = .ok (.iconst 1, 1) := by decide +kernel
theorem dX7_check_34 : decode cX7_check 34 = .ok (.iadd, 1) := by decide +kernel
theorem dX7_check_35 : decode cX7_check 35 = .ok (.invokevirtual 304, 3) := by decide +kernel
theorem dX7_check_38 : decode cX7_check 38 = .ok (.if_icmp .eq 7, 3) := by decide +kernel
theorem dX7_check_41 : decode cX7_check 41 = .ok (.iconst 1, 1) := by decide +kernel
theorem dX7_check_42 : decode cX7_check 42 = .ok (.iload_n 2, 1) := by decide +kernel
theorem dX7_check_43 : decode cX7_check 43 = .ok (.iadd, 1) := by decide +kernel
theorem dX7_check_44 : decode cX7_check 44 = .ok (.istore_n 1, 1) := by decide +kernel
theorem dX7_check_45 : decode cX7_check 45 = .ok (.iinc 2 1, 3) := by decide +kernel
theorem dX7_check_48 : decode cX7_check 48 = .ok (.goto (-44), 3) := by decide +kernel
theorem dX7_check_51 : decode cX7_check 51 = .ok (.aload_n 0, 1) := by decide +kernel
theorem dX7_check_52 : decode cX7_check 52 = .ok (.getfield 10, 3) := by decide +kernel
theorem dX7_check_55 : decode cX7_check 55 = .ok (.iconst 0, 1) := by decide +kernel
theorem dX7_check_56 : decode cX7_check 56 = .ok (.putfield 298, 3) := by decide +kernel
theorem dX7_check_59 : decode cX7_check 59 = .ok (.iload_n 1, 1) := by decide +kernel
theorem dX7_check_60 : decode cX7_check 60 = .ok (.ireturn, 1) := by decide +kernel
theorem dX7_count_0 : decode cX7_count 0 = .ok (.iload_n 1, 1) := by decide +kernel
theorem dX7_count_1 : decode cX7_count 1 = .ok (.tableswitch 148 0 10 #[59, 67, 75, 83, 92, 100, 108, 116, 124, 132, 140], 59) := by decide +kernel
theorem dX7_count_60 : decode cX7_count 60 = .ok (.aload_n 0, 1) := by decide +kernel
theorem dX7_count_61 : decode cX7_count 61 = .ok (.getfield 10, 3) := by decide +kernel
theorem dX7_count_64 : decode cX7_count 64 = .ok (.getfield 95, 3) := by decide +kernel
theorem dX7_count_67 : decode cX7_count 67 = .ok (.ireturn, 1) := by decide +kernel
theorem dX7_count_68 : decode cX7_count 68 = .ok (.aload_n 0, 1) := by decide +kernel
theorem dX7_count_69 : decode cX7_count 69 = .ok (.getfield 10, 3) := by decide +kernel
theorem dX7_count_72 : decode cX7_count 72 = .ok (.getfield 174, 3) := by decide +kernel
theorem dX7_count_75 : decode cX7_count 75 = .ok (.ireturn, 1) := by decide +kernel
theorem dX7_count_76 : decode cX7_count 76 = .ok (.aload_n 0, 1) := by decide +kernel
theorem dX7_count_77 : decode cX7_count 77 = .ok (.getfield 10, 3) := by decide +kernel
theorem dX7_count_80 : decode cX7_count 80 = .ok (.getfield 307, 3) := by decide +kernel
theorem dX7_count_83 : decode cX7_count 83 = .ok (.ireturn, 1) := by decide +kernel
theorem dX7_count_84 : decode cX7_count 84 = .ok (.aload_n 0, 1) := by decide +kernel
theorem dX7_count_85 : decode cX7_count 85 = .ok (.getfield 10, 3) := by decide +kernel
theorem dX7_count_88 : decode cX7_count 88 = .ok (.iconst 0, 1) := by decide +kernel
theorem dX7_count_89 : decode cX7_count 89 = .ok (.invokevirtual 304, 3) := by decide +kernel
theorem dX7_count_92 : decode cX7_count 92 = .ok (.ireturn, 1) := by decide +kernel
theorem dX7_count_93 : decode cX7_count 93 = .ok (.aload_n 0, 1) := by decide +kernel
theorem dX7_count_94 : decode cX7_count 94 = .ok (.getfield 10, 3) := by decide +kernel
theorem dX7_count_97 : decode cX7_count 97 = .ok (.invokevirtual 310, 3) := by decide +kernel
theorem dX7_count_100 : decode cX7_count 100 = .ok (.ireturn, 1) := by decide +kernel
theorem dX7_count_101 : decode cX7_count 101 = .ok (.aload_n 0, 1) := by decide +kernel
theorem dX7_count_102 : decode cX7_count 102 = .ok (.getfield 10, 3) := by decide +kernel
theorem dX7_count_105 : decode cX7_count 105 = .ok (.getfield 88, 3) := by decide +kernel
theorem dX7_count_108 : decode cX7_count 108 = .ok (.ireturn, 1) := by decide +kernel
theorem dX7_count_109 : decode cX7_count 109 = .ok (.aload_n 0, 1) := by decide +kernel
theorem dX7_count_110 : decode cX7_count 110 = .ok (.getfield 10, 3) := by decide +kernel
theorem dX7_count_113 : decode cX7_count 113 = .ok (.invokevirtual 313, 3) := by decide +kernel
theorem dX7_count_116 : decode cX7_count 116 = .ok (.ireturn, 1) := by decide +kernel
theorem dX7_count_117 : decode cX7_count 117 = .ok (.aload_n 0, 1) := by decide +kernel
theorem dX7_count_118 : decode cX7_count 118 = .ok (.getfield 10, 3) := by decide +kernel
theorem dX7_count_121 : decode cX7_count 121 = .ok (.getfield 141, 3) := by decide +kernel
theorem dX7_count_124 : decode cX7_count 124 = .ok (.ireturn, 1) := by decide +kernel
theorem dX7_count_125 : decode cX7_count 125 = .ok (.aload_n 0, 1) := by decide +kernel
theorem dX7_count_126 : decode cX7_count 126 = .ok (.getfield 10, 3) := by decide +kernel
theorem dX7_count_129 : decode cX7_count 129 = .ok (.getfield 298, 3) := by decide +kernel
theorem dX7_count_132 : decode cX7_count 132 = .ok (.ireturn, 1) := by decide +kernel
theorem dX7_count_133 : decode cX7_count 133 = .ok (.aload_n 0, 1) := by decide +kernel
theorem dX7_count_134 : decode cX7_count 134 = .ok (.getfield 36, 3) := by decide +kernel
theorem dX7_count_137 : decode cX7_count 137 = .ok (.getfield 250, 3) := by decide +kernel
theorem dX7_count_140 : decode cX7_count 140 = .ok (.ireturn, 1) := by decide +kernel
theorem dX7_count_141 : decode cX7_count 141 = .ok (.aload_n 0, 1) := by decide +kernel
theorem dX7_count_142 : decode cX7_count 142 = .ok (.getfield 10, 3) := by decide +kernel
theorem dX7_count_145 : decode cX7_count 145 = .ok (.getfield 243, 3) := by decide +kernel
theorem dX7_count_148 : decode cX7_count 148 = .ok (.ireturn, 1) := by decide +kernel
theorem dX7_count_149 : decode cX7_count 149 = .ok (.aload_n 0, 1) := by decide +kernel
theorem dX7_count_150 : decode cX7_count 150 = .ok (.iconst 1, 1) := by decide +kernel
theorem dX7_count_151 : decode cX7_count 151 = .ok (.invokevirtual 59, 3) := by decide +kernel
theorem dX7_count_154 : decode cX7_count 154 = .ok (.ireturn, 1) := by decide +kernel
theorem dX7_told_0 : decode cX7_told 0 = .ok (.iload_n 1, 1) := by decide +kernel
theorem dX7_told_1 : decode cX7_told 1 = .ok (.iconst 1, 1) := by decide +kernel
theorem dX7_told_2 : decode cX7_told 2 = .ok (.iconst 5, 1) := by decide +kernel
theorem dX7_told_3 : decode cX7_told 3 = .ok (.invokestatic 55, 3) := by decide +kernel
theorem dX7_told_6 : decode cX7_told 6 = .ok (.ifCond .eq 12, 3) := by decide +kernel
theorem dX7_told_9 : decode cX7_told 9 = .ok (.aload_n 0, 1) := by decide +kernel
theorem dX7_told_10 : decode cX7_told 10 = .ok (.getfield 46, 3) := by decide +kernel
theorem dX7_told_13 : decode cX7_told 13 = .ok (.iload_n 1, 1) := by decide +kernel
theorem dX7_told_14 : decode cX7_told 14 = .ok (.iaload, 1) := by decide +kernel
theorem dX7_told_15 : decode cX7_told 15 = .ok (.goto 8, 3) := by decide +kernel
theorem dX7_told_18 : decode cX7_told 18 = .ok (.aload_n 0, 1) := by decide +kernel
theorem dX7_told_19 : decode cX7_told 19 = .ok (.iconst 1, 1) := by decide +kernel
theorem dX7_told_20 : decode cX7_told 20 = .ok (.invokevirtual 59, 3) := by decide +kernel
theorem dX7_told_23 : decode cX7_told 23 = .ok (.ireturn, 1) := by decide +kernel
theorem dX7_passDays_0 : decode cX7_passDays 0 = .ok (.iload_n 1, 1) := by decide +kernel
theorem dX7_passDays_1 : decode cX7_passDays 1 = .ok (.iconst 1, 1) := by decide +kernel
theorem dX7_passDays_2 : decode cX7_passDays 2 = .ok (.iload_n 2, 1) := by decide +kernel
theorem dX7_passDays_3 : decode cX7_passDays 3 = .ok (.invokestatic 55, 3) := by decide +kernel
theorem dX7_passDays_6 : decode cX7_passDays 6 = .ok (.ifCond .ne 9, 3) := by decide +kernel
theorem dX7_passDays_9 : decode cX7_passDays 9 = .ok (.aload_n 0, 1) := by decide +kernel
theorem dX7_passDays_10 : decode cX7_passDays 10 = .ok (.iconst 1, 1) := by decide +kernel
theorem dX7_passDays_11 : decode cX7_passDays 11 = .ok (.invokevirtual 59, 3) := by decide +kernel
theorem dX7_passDays_14 : decode cX7_passDays 14 = .ok (.ireturn, 1) := by decide +kernel
theorem dX7_passDays_15 : decode cX7_passDays 15 = .ok (.aload_n 0, 1) := by decide +kernel
theorem dX7_passDays_16 : decode cX7_passDays 16 = .ok (.getfield 10, 3) := by decide +kernel
theorem dX7_passDays_19 : decode cX7_passDays 19 = .ok (.iload_n 1, 1) := by decide +kernel
theorem dX7_passDays_20 : decode cX7_passDays 20 = .ok (.invokevirtual 316, 3) := by decide +kernel
theorem dX7_passDays_23 : decode cX7_passDays 23 = .ok (.ifCond .ne 9, 3) := by decide +kernel
theorem dX7_passDays_26 : decode cX7_passDays 26 = .ok (.aload_n 0, 1) := by decide +kernel
theorem dX7_passDays_27 : decode cX7_passDays 27 = .ok (.iconst 3, 1) := by decide +kernel
theorem dX7_passDays_28 : decode cX7_passDays 28 = .ok (.invokevirtual 59, 3) := by decide +kernel
theorem dX7_passDays_31 : decode cX7_passDays 31 = .ok (.ireturn, 1) := by decide +kernel
theorem dX7_passDays_32 : decode cX7_passDays 32 = .ok (.iconst 0, 1) := by decide +kernel
theorem dX7_passDays_33 : decode cX7_passDays 33 = .ok (.istore 4, 2) := by decide +kernel
theorem dX7_passDays_35 : decode cX7_passDays 35 = .ok (.iload 4, 2) := by decide +kernel
theorem dX7_passDays_37 : decode cX7_passDays 37 = .ok (.iload_n 1, 1) := by decide +kernel
theorem dX7_passDays_38 : decode cX7_passDays 38 = .ok (.if_icmp .ge 27, 3) := by decide +kernel
theorem dX7_passDays_41 : decode cX7_passDays 41 = .ok (.iload_n 3, 1) := by decide +kernel
theorem dX7_passDays_42 : decode cX7_passDays 42 = .ok (.ifCond .eq 10, 3) := by decide +kernel
theorem dX7_passDays_45 : decode cX7_passDays 45 = .ok (.aload_n 0, 1) := by decide +kernel
theorem dX7_passDays_46 : decode cX7_passDays 46 = .ok (.getfield 10, 3) := by decide +kernel
theorem dX7_passDays_49 : decode cX7_passDays 49 = .ok (.invokevirtual 319, 3) := by decide +kernel
theorem dX7_passDays_52 : decode cX7_passDays 52 = .ok (.aload_n 0, 1) := by decide +kernel
theorem dX7_passDays_53 : decode cX7_passDays 53 = .ok (.getfield 10, 3) := by decide +kernel
theorem dX7_passDays_56 : decode cX7_passDays 56 = .ok (.invokevirtual 322, 3) := by decide +kernel
theorem dX7_passDays_59 : decode cX7_passDays 59 = .ok (.iinc 4 1, 3) := by decide +kernel
theorem dX7_passDays_62 : decode cX7_passDays 62 = .ok (.goto (-27), 3) := by decide +kernel
theorem dX7_passDays_65 : decode cX7_passDays 65 = .ok (.aload_n 0, 1) := by decide +kernel
theorem dX7_passDays_66 : decode cX7_passDays 66 = .ok (.getfield 10, 3) := by decide +kernel
theorem dX7_passDays_69 : decode cX7_passDays 69 = .ok (.iconst 0, 1) := by decide +kernel
theorem dX7_passDays_70 : decode cX7_passDays 70 = .ok (.invokevirtual 304, 3) := by decide +kernel
theorem dX7_passDays_73 : decode cX7_passDays 73 = .ok (.ireturn, 1) := by decide +kernel
theorem dX7_leastTill_0 : decode cX7_leastTill 0 = .ok (.aload_n 0, 1) := by decide +kernel
theorem dX7_leastTill_1 : decode cX7_leastTill 1 = .ok (.iload_n 1, 1) := by decide +kernel
theorem dX7_leastTill_2 : decode cX7_leastTill 2 = .ok (.invokevirtual 108, 3) := by decide +kernel
theorem dX7_leastTill_5 : decode cX7_leastTill 5 = .ok (.ifCond .eq 17, 3) := by decide +kernel
theorem dX7_leastTill_8 : decode cX7_leastTill 8 = .ok (.iload_n 2, 1) := by decide +kernel
theorem dX7_leastTill_9 : decode cX7_leastTill 9 = .ok (.invokestatic 51, 3) := by decide +kernel
theorem dX7_leastTill_12 : decode cX7_leastTill 12 = .ok (.ifCond .eq 10, 3) := by decide +kernel
theorem dX7_leastTill_15 : decode cX7_leastTill 15 = .ok (.iload_n 3, 1) := by decide +kernel
theorem dX7_leastTill_16 : decode cX7_leastTill 16 = .ok (.invokestatic 199, 3) := by decide +kernel
theorem dX7_leastTill_19 : decode cX7_leastTill 19 = .ok (.ifCond .ne 9, 3) := by decide +kernel
theorem dX7_leastTill_22 : decode cX7_leastTill 22 = .ok (.aload_n 0, 1) := by decide +kernel
theorem dX7_leastTill_23 : decode cX7_leastTill 23 = .ok (.iconst 1, 1) := by decide +kernel
theorem dX7_leastTill_24 : decode cX7_leastTill 24 = .ok (.invokevirtual 59, 3) := by decide +kernel
theorem dX7_leastTill_27 : decode cX7_leastTill 27 = .ok (.ireturn, 1) := by decide +kernel
theorem dX7_leastTill_28 : decode cX7_leastTill 28 = .ok (.aload_n 0, 1) := by decide +kernel
theorem dX7_leastTill_29 : decode cX7_leastTill 29 = .ok (.getfield 10, 3) := by decide +kernel
theorem dX7_leastTill_32 : decode cX7_leastTill 32 = .ok (.getfield 98, 3) := by decide +kernel
theorem dX7_leastTill_35 : decode cX7_leastTill 35 = .ok (.iload_n 1, 1) := by decide +kernel
theorem dX7_leastTill_36 : decode cX7_leastTill 36 = .ok (.aaload, 1) := by decide +kernel
theorem dX7_leastTill_37 : decode cX7_leastTill 37 = .ok (.astore 5, 2) := by decide +kernel
theorem dX7_leastTill_39 : decode cX7_leastTill 39 = .ok (.aload 5, 2) := by decide +kernel
theorem dX7_leastTill_41 : decode cX7_leastTill 41 = .ok (.getfield 126, 3) := by decide +kernel
theorem dX7_leastTill_44 : decode cX7_leastTill 44 = .ok (.ifCond .eq 9, 3) := by decide +kernel
theorem dX7_leastTill_47 : decode cX7_leastTill 47 = .ok (.aload_n 0, 1) := by decide +kernel
theorem dX7_leastTill_48 : decode cX7_leastTill 48 = .ok (.iconst 3, 1) := by decide +kernel
theorem dX7_leastTill_49 : decode cX7_leastTill 49 = .ok (.invokevirtual 59, 3) := by decide +kernel
theorem dX7_leastTill_52 : decode cX7_leastTill 52 = .ok (.ireturn, 1) := by decide +kernel
theorem dX7_leastTill_53 : decode cX7_leastTill 53 = .ok (.aload 5, 2) := by decide +kernel
theorem dX7_leastTill_55 : decode cX7_leastTill 55 = .ok (.getfield 120, 3) := by decide +kernel
theorem dX7_leastTill_58 : decode cX7_leastTill 58 = .ok (.iload_n 2, 1) := by decide +kernel
theorem dX7_leastTill_59 : decode cX7_leastTill 59 = .ok (.if_icmp .ne 5, 3) := by decide +kernel
theorem dX7_leastTill_62 : decode cX7_leastTill 62 = .ok (.iconst 0, 1) := by decide +kernel
theorem dX7_leastTill_63 : decode cX7_leastTill 63 = .ok (.ireturn, 1) := by decide +kernel
theorem dX7_leastTill_64 : decode cX7_leastTill 64 = .ok (.aload_n 0, 1) := by decide +kernel
theorem dX7_leastTill_65 : decode cX7_leastTill 65 = .ok (.getfield 22, 3) := by decide +kernel
theorem dX7_leastTill_68 : decode cX7_leastTill 68 = .ok (.aload_n 0, 1) := by decide +kernel
theorem dX7_leastTill_69 : decode cX7_leastTill 69 = .ok (.getfield 10, 3) := by decide +kernel
theorem dX7_leastTill_72 : decode cX7_leastTill 72 = .ok (.aload 5, 2) := by decide +kernel
theorem dX7_leastTill_74 : decode cX7_leastTill 74 = .ok (.iload_n 3, 1) := by decide +kernel
theorem dX7_leastTill_75 : decode cX7_leastTill 75 = .ok (.invokevirtual 202, 3) := by decide +kernel
theorem dX7_leastTill_78 : decode cX7_leastTill 78 = .ok (.iload 4, 2) := by decide +kernel
theorem dX7_leastTill_80 : decode cX7_leastTill 80 = .ok (.ifCond .eq 14, 3) := by decide +kernel
theorem dX7_leastTill_83 : decode cX7_leastTill 83 = .ok (.aload_n 0, 1) := by decide +kernel
theorem dX7_leastTill_84 : decode cX7_leastTill 84 = .ok (.getfield 22, 3) := by decide +kernel
theorem dX7_leastTill_87 : decode cX7_leastTill 87 = .ok (.iload_n 2, 1) := by decide +kernel
theorem dX7_leastTill_88 : decode cX7_leastTill 88 = .ok (.invokevirtual 325, 3) := by decide +kernel
theorem dX7_leastTill_91 : decode cX7_leastTill 91 = .ok (.goto 11, 3) := by decide +kernel
theorem dX7_leastTill_94 : decode cX7_leastTill 94 = .ok (.aload_n 0, 1) := by decide +kernel
theorem dX7_leastTill_95 : decode cX7_leastTill 95 = .ok (.getfield 22, 3) := by decide +kernel
theorem dX7_leastTill_98 : decode cX7_leastTill 98 = .ok (.iload_n 2, 1) := by decide +kernel
theorem dX7_leastTill_99 : decode cX7_leastTill 99 = .ok (.invokevirtual 328, 3) := by decide +kernel
theorem dX7_leastTill_102 : decode cX7_leastTill 102 = .ok (.istore 6, 2) := by decide +kernel
theorem dX7_leastTill_104 : decode cX7_leastTill 104 = .ok (.iload 6, 2) := by decide +kernel
theorem dX7_leastTill_106 : decode cX7_leastTill 106 = .ok (.ifCond .ge 11, 3) := by decide +kernel
theorem dX7_leastTill_109 : decode cX7_leastTill 109 = .ok (.aload_n 0, 1) := by decide +kernel
theorem dX7_leastTill_110 : decode cX7_leastTill 110 = .ok (.iconst 2, 1) := by decide +kernel
theorem dX7_leastTill_111 : decode cX7_leastTill 111 = .ok (.invokevirtual 59, 3) := by decide +kernel
theorem dX7_leastTill_114 : decode cX7_leastTill 114 = .ok (.goto 5, 3) := by decide +kernel
theorem dX7_leastTill_117 : decode cX7_leastTill 117 = .ok (.iload 6, 2) := by decide +kernel
theorem dX7_leastTill_119 : decode cX7_leastTill 119 = .ok (.ireturn, 1) := by decide +kernel
theorem dX7_refuse_0 : decode cX7_refuse 0 = .ok (.aload_n 0, 1) := by decide +kernel
theorem dX7_refuse_1 : decode cX7_refuse 1 = .ok (.getfield 46, 3) := by decide +kernel
theorem dX7_refuse_4 : decode cX7_refuse 4 = .ok (.iload_n 1, 1) := by decide +kernel
theorem dX7_refuse_5 : decode cX7_refuse 5 = .ok (.dup2, 1) := by decide +kernel
theorem dX7_refuse_6 : decode cX7_refuse 6 = .ok (.iaload, 1) := by decide +kernel
theorem dX7_refuse_7 : decode cX7_refuse 7 = .ok (.iconst 1, 1) := by decide +kernel
theorem dX7_refuse_8 : decode cX7_refuse 8 = .ok (.iadd, 1) := by decide +kernel
theorem dX7_refuse_9 : decode cX7_refuse 9 = .ok (.iastore, 1) := by decide +kernel
theorem dX7_refuse_10 : decode cX7_refuse 10 = .ok (.ldc_w 331, 3) := by decide +kernel
theorem dX7_refuse_13 : decode cX7_refuse 13 = .ok (.iload_n 1, 1) := by decide +kernel
theorem dX7_refuse_14 : decode cX7_refuse 14 = .ok (.isub, 1) := by decide +kernel
theorem dX7_refuse_15 : decode cX7_refuse 15 = .ok (.ireturn, 1) := by decide +kernel
theorem dX7_isPerson_0 : decode cX7_isPerson 0 = .ok (.iload_n 1, 1) := by decide +kernel
theorem dX7_isPerson_1 : decode cX7_isPerson 1 = .ok (.iconst 0, 1) := by decide +kernel
theorem dX7_isPerson_2 : decode cX7_isPerson 2 = .ok (.aload_n 0, 1) := by decide +kernel
theorem dX7_isPerson_3 : decode cX7_isPerson 3 = .ok (.getfield 10, 3) := by decide +kernel
theorem dX7_isPerson_6 : decode cX7_isPerson 6 = .ok (.getfield 95, 3) := by decide +kernel
theorem dX7_isPerson_9 : decode cX7_isPerson 9 = .ok (.iconst 1, 1) := by decide +kernel
theorem dX7_isPerson_10 : decode cX7_isPerson 10 = .ok (.isub, 1) := by decide +kernel
theorem dX7_isPerson_11 : decode cX7_isPerson 11 = .ok (.invokestatic 55, 3) := by decide +kernel
theorem dX7_isPerson_14 : decode cX7_isPerson 14 = .ok (.ireturn, 1) := by decide +kernel
theorem dX7_isWell_0 : decode cX7_isWell 0 = .ok (.iload_n 0, 1) := by decide +kernel
theorem dX7_isWell_1 : decode cX7_isWell 1 = .ok (.iconst 0, 1) := by decide +kernel
theorem dX7_isWell_2 : decode cX7_isWell 2 = .ok (.bipush 7, 2) := by decide +kernel
theorem dX7_isWell_4 : decode cX7_isWell 4 = .ok (.invokestatic 55, 3) := by decide +kernel
theorem dX7_isWell_7 : decode cX7_isWell 7 = .ok (.ireturn, 1) := by decide +kernel
theorem dX7_areTwoWells_0 : decode cX7_areTwoWells 0 = .ok (.iload_n 0, 1) := by decide +kernel
theorem dX7_areTwoWells_1 : decode cX7_areTwoWells 1 = .ok (.invokestatic 51, 3) := by decide +kernel
theorem dX7_areTwoWells_4 : decode cX7_areTwoWells 4 = .ok (.ifCond .eq 19, 3) := by decide +kernel
theorem dX7_areTwoWells_7 : decode cX7_areTwoWells 7 = .ok (.iload_n 1, 1) := by decide +kernel
theorem dX7_areTwoWells_8 : decode cX7_areTwoWells 8 = .ok (.invokestatic 51, 3) := by decide +kernel
theorem dX7_areTwoWells_11 : decode cX7_areTwoWells 11 = .ok (.ifCond .eq 12, 3) := by decide +kernel
theorem dX7_areTwoWells_14 : decode cX7_areTwoWells 14 = .ok (.iload_n 0, 1) := by decide +kernel
theorem dX7_areTwoWells_15 : decode cX7_areTwoWells 15 = .ok (.iload_n 1, 1) := by decide +kernel
theorem dX7_areTwoWells_16 : decode cX7_areTwoWells 16 = .ok (.if_icmp .eq 7, 3) := by decide +kernel
theorem dX7_areTwoWells_19 : decode cX7_areTwoWells 19 = .ok (.iconst 1, 1) := by decide +kernel
theorem dX7_areTwoWells_20 : decode cX7_areTwoWells 20 = .ok (.goto 4, 3) := by decide +kernel
theorem dX7_areTwoWells_23 : decode cX7_areTwoWells 23 = .ok (.iconst 0, 1) := by decide +kernel
theorem dX7_areTwoWells_24 : decode cX7_areTwoWells 24 = .ok (.ireturn, 1) := by decide +kernel
theorem dX7_areWells_0 : decode cX7_areWells 0 = .ok (.iload_n 0, 1) := by decide +kernel
theorem dX7_areWells_1 : decode cX7_areWells 1 = .ok (.iconst 0, 1) := by decide +kernel
theorem dX7_areWells_2 : decode cX7_areWells 2 = .ok (.sipush 255, 3) := by decide +kernel
theorem dX7_areWells_5 : decode cX7_areWells 5 = .ok (.invokestatic 55, 3) := by decide +kernel
theorem dX7_areWells_8 : decode cX7_areWells 8 = .ok (.ireturn, 1) := by decide +kernel
theorem dX7_isKindWithNumber_0 : decode cX7_isKindWithNumber 0 = .ok (.iload_n 0, 1) := by decide +kernel
theorem dX7_isKindWithNumber_1 : decode cX7_isKindWithNumber 1 = .ok (.iconst 0, 1) := by decide +kernel
theorem dX7_isKindWithNumber_2 : decode cX7_isKindWithNumber 2 = .ok (.bipush 69, 2) := by decide +kernel
theorem dX7_isKindWithNumber_4 : decode cX7_isKindWithNumber 4 = .ok (.invokestatic 55, 3) := by decide +kernel
theorem dX7_isKindWithNumber_7 : decode cX7_isKindWithNumber 7 = .ok (.ireturn, 1) := by decide +kernel
theorem dX7_isUse_0 : decode cX7_isUse 0 = .ok (.iload_n 0, 1) := by decide +kernel
theorem dX7_isUse_1 : decode cX7_isUse 1 = .ok (.iconst 0, 1) := by decide +kernel
theorem dX7_isUse_2 : decode cX7_isUse 2 = .ok (.iconst 1, 1) := by decide +kernel
theorem dX7_isUse_3 : decode cX7_isUse 3 = .ok (.invokestatic 55, 3) := by decide +kernel
theorem dX7_isUse_6 : decode cX7_isUse 6 = .ok (.ireturn, 1) := by decide +kernel
theorem dX7_isSheet_0 : decode cX7_isSheet 0 = .ok (.iload_n 0, 1) := by decide +kernel
theorem dX7_isSheet_1 : decode cX7_isSheet 1 = .ok (.iconst 0, 1) := by decide +kernel
theorem dX7_isSheet_2 : decode cX7_isSheet 2 = .ok (.iconst 3, 1) := by decide +kernel
theorem dX7_isSheet_3 : decode cX7_isSheet 3 = .ok (.invokestatic 55, 3) := by decide +kernel
theorem dX7_isSheet_6 : decode cX7_isSheet 6 = .ok (.ireturn, 1) := by decide +kernel
theorem dX7_within_0 : decode cX7_within 0 = .ok (.iload_n 0, 1) := by decide +kernel
theorem dX7_within_1 : decode cX7_within 1 = .ok (.iload_n 1, 1) := by decide +kernel
theorem dX7_within_2 : decode cX7_within 2 = .ok (.if_icmp .lt 12, 3) := by decide +kernel
theorem dX7_within_5 : decode cX7_within 5 = .ok (.iload_n 0, 1) := by decide +kernel
theorem dX7_within_6 : decode cX7_within 6 = .ok (.iload_n 2, 1) := by decide +kernel
theorem dX7_within_7 : decode cX7_within 7 = .ok (.if_icmp .gt 7, 3) := by decide +kernel
theorem dX7_within_10 : decode cX7_within 10 = .ok (.iconst 1, 1) := by decide +kernel
theorem dX7_within_11 : decode cX7_within 11 = .ok (.goto 4, 3) := by decide +kernel
theorem dX7_within_14 : decode cX7_within 14 = .ok (.iconst 0, 1) := by decide +kernel
theorem dX7_within_15 : decode cX7_within 15 = .ok (.ireturn, 1) := by decide +kernel
theorem dX8_init_0 : decode cX8_init 0 = .ok (.aload_n 0, 1) := by decide +kernel
theorem dX8_init_1 : decode cX8_init 1 = .ok (.invokespecial 1, 3) := by decide +kernel
theorem dX8_init_4 : decode cX8_init 4 = .ok (.aload_n 0, 1) := by decide +kernel
theorem dX8_init_5 : decode cX8_init 5 = .ok (.sipush 351, 3) := by decide +kernel
theorem dX8_init_8 : decode cX8_init 8 = .ok (.newarray .int, 2) := by decide +kernel
theorem dX8_init_10 : decode cX8_init 10 = .ok (.putfield 7, 3) := by decide +kernel
theorem dX8_init_13 : decode cX8_init 13 = .ok (.aload_n 0, 1) := by decide +kernel
theorem dX8_init_14 : decode cX8_init 14 = .ok (.sipush 351, 3) := by decide +kernel
theorem dX8_init_17 : decode cX8_init 17 = .ok (.newarray .int, 2) := by decide +kernel
theorem dX8_init_19 : decode cX8_init 19 = .ok (.putfield 13, 3) := by decide +kernel
theorem dX8_init_22 : decode cX8_init 22 = .ok (.aload_n 0, 1) := by decide +kernel
theorem dX8_init_23 : decode cX8_init 23 = .ok (.sipush 176, 3) := by decide +kernel
theorem dX8_init_26 : decode cX8_init 26 = .ok (.newarray .int, 2) := by decide +kernel
theorem dX8_init_28 : decode cX8_init 28 = .ok (.putfield 16, 3) := by decide +kernel
theorem dX8_init_31 : decode cX8_init 31 = .ok (.aload_n 0, 1) := by decide +kernel
theorem dX8_init_32 : decode cX8_init 32 = .ok (.bipush 6, 2) := by decide +kernel
theorem dX8_init_34 : decode cX8_init 34 = .ok (.newarray .int, 2) := by decide +kernel
theorem dX8_init_36 : decode cX8_init 36 = .ok (.putfield 19, 3) := by decide +kernel
theorem dX8_init_39 : decode cX8_init 39 = .ok (.aload_n 0, 1) := by decide +kernel
theorem dX8_init_40 : decode cX8_init 40 = .ok (.sipush 296, 3) := by decide +kernel
theorem dX8_init_43 : decode cX8_init 43 = .ok (.newarray .int, 2) := by decide +kernel
theorem dX8_init_45 : decode cX8_init 45 = .ok (.putfield 22, 3) := by decide +kernel
theorem dX8_init_48 : decode cX8_init 48 = .ok (.aload_n 0, 1) := by decide +kernel
theorem dX8_init_49 : decode cX8_init 49 = .ok (.bipush 64, 2) := by decide +kernel
theorem dX8_init_51 : decode cX8_init 51 = .ok (.newarray .int, 2) := by decide +kernel
theorem dX8_init_53 : decode cX8_init 53 = .ok (.putfield 25, 3) := by decide +kernel
theorem dX8_init_56 : decode cX8_init 56 = .ok (.aload_n 0, 1) := by decide +kernel
theorem dX8_init_57 : decode cX8_init 57 = .ok (.bipush 40, 2) := by decide +kernel
theorem dX8_init_59 : decode cX8_init 59 = .ok (.newarray .int, 2) := by decide +kernel
theorem dX8_init_61 : decode cX8_init 61 = .ok (.putfield 28, 3) := by decide +kernel
theorem dX8_init_64 : decode cX8_init 64 = .ok (.aload_n 0, 1) := by decide +kernel
theorem dX8_init_65 : decode cX8_init 65 = .ok (.iconst 4, 1) := by decide +kernel
theorem dX8_init_66 : decode cX8_init 66 = .ok (.newarray .int, 2) := by decide +kernel
theorem dX8_init_68 : decode cX8_init 68 = .ok (.putfield 31, 3) := by decide +kernel
theorem dX8_init_71 : decode cX8_init 71 = .ok (.aload_n 0, 1) := by decide +kernel
theorem dX8_init_72 : decode cX8_init 72 = .ok (.iconst 4, 1) := by decide +kernel
theorem dX8_init_73 : decode cX8_init 73 = .ok (.newarray .int, 2) := by decide +kernel
theorem dX8_init_75 : decode cX8_init 75 = .ok (.putfield 34, 3) := by decide +kernel
theorem dX8_init_78 : decode cX8_init 78 = .ok (.aload_n 0, 1) := by decide +kernel
theorem dX8_init_79 : decode cX8_init 79 = .ok (.sipush 160, 3) := by decide +kernel
theorem dX8_init_82 : decode cX8_init 82 = .ok (.newarray .int, 2) := by decide +kernel
theorem dX8_init_84 : decode cX8_init 84 = .ok (.putfield 37, 3) := by decide +kernel
theorem dX8_init_87 : decode cX8_init 87 = .ok (.aload_n 0, 1) := by decide +kernel
theorem dX8_init_88 : decode cX8_init 88 = .ok (.bipush 40, 2) := by decide +kernel
theorem dX8_init_90 : decode cX8_init 90 = .ok (.newarray .int, 2) := by decide +kernel
theorem dX8_init_92 : decode cX8_init 92 = .ok (.putfield 40, 3) := by decide +kernel
theorem dX8_init_95 : decode cX8_init 95 = .ok (.iconst 0, 1) := by decide +kernel
theorem dX8_init_96 : decode cX8_init 96 = .ok (.istore_n 1, 1) := by decide +kernel
theorem dX8_init_97 : decode cX8_init 97 = .ok (.iload_n 1, 1) := by decide +kernel
theorem dX8_init_98 : decode cX8_init 98 = .ok (.bipush 8, 2) := by decide +kernel
theorem dX8_init_100 : decode cX8_init 100 = .ok (.if_icmp .ge 19, 3) := by decide +kernel
theorem dX8_init_103 : decode cX8_init 103 = .ok (.aload_n 0, 1) := by decide +kernel
theorem dX8_init_104 : decode cX8_init 104 = .ok (.getfield 7, 3) := by decide +kernel
theorem dX8_init_107 : decode cX8_init 107 = .ok (.iconst 0, 1) := by decide +kernel
theorem dX8_init_108 : decode cX8_init 108 = .ok (.iload_n 1, 1) := by decide +kernel
theorem dX8_init_109 : decode cX8_init 109 = .ok (.iadd, 1) := by decide +kernel
theorem dX8_init_110 : decode cX8_init 110 = .ok (.bipush 9, 2) := by decide +kernel
theorem dX8_init_112 : decode cX8_init 112 = .ok (.iastore, 1) := by decide +kernel
theorem dX8_init_113 : decode cX8_init 113 = .ok (.iinc 1 1, 3) := by decide +kernel
theorem dX8_init_116 : decode cX8_init 116 = .ok (.goto (-19), 3) := by decide +kernel
theorem dX8_init_119 : decode cX8_init 119 = .ok (.aload_n 0, 1) := by decide +kernel
theorem dX8_init_120 : decode cX8_init 120 = .ok (.getfield 7, 3) := by decide +kernel
theorem dX8_init_123 : decode cX8_init 123 = .ok (.sipush 136, 3) := by decide +kernel
theorem dX8_init_126 : decode cX8_init 126 = .ok (.iconst 1, 1) := by decide +kernel
theorem dX8_init_127 : decode cX8_init 127 = .ok (.iastore, 1) := by decide +kernel
theorem dX8_init_128 : decode cX8_init 128 = .ok (.aload_n 0, 1) := by decide +kernel
theorem dX8_init_129 : decode cX8_init 129 = .ok (.getfield 7, 3) := by decide +kernel
theorem dX8_init_132 : decode cX8_init 132 = .ok (.sipush 176, 3) := by decide +kernel
theorem dX8_init_135 : decode cX8_init 135 = .ok (.iconst 1, 1) := by decide +kernel
theorem dX8_init_136 : decode cX8_init 136 = .ok (.iastore, 1) := by decide +kernel
theorem dX8_init_137 : decode cX8_init 137 = .ok (.aload_n 0, 1) := by decide +kernel
theorem dX8_init_138 : decode cX8_init 138 = .ok (.getfield 7, 3) := by decide +kernel
theorem dX8_init_141 : decode cX8_init 141 = .ok (.sipush 179, 3) := by decide +kernel
theorem dX8_init_144 : decode cX8_init 144 = .ok (.iconst (-1), 1) := by decide +kernel
theorem dX8_init_145 : decode cX8_init 145 = .ok (.iastore, 1) := by decide +kernel
theorem dX8_init_146 : decode cX8_init 146 = .ok (.aload_n 0, 1) := by decide +kernel
theorem dX8_init_147 : decode cX8_init 147 = .ok (.getfield 7, 3) := by decide +kernel
theorem dX8_init_150 : decode cX8_init 150 = .ok (.sipush 180, 3) := by decide +kernel
theorem dX8_init_153 : decode cX8_init 153 = .ok (.iconst (-1), 1) := by decide +kernel
theorem dX8_init_154 : decode cX8_init 154 = .ok (.iastore, 1) := by decide +kernel
theorem dX8_init_155 : decode cX8_init 155 = .ok (.return_, 1) := by decide +kernel
theorem dX8_in_0 : decode cX8_in 0 = .ok (.lload_n 0, 1) := by decide +kernel
theorem dX8_in_1 : decode cX8_in 1 = .ok (.lload_n 2, 1) := by decide +kernel
theorem dX8_in_2 : decode cX8_in 2 = .ok (.lcmp, 1) := by decide +kernel
theorem dX8_in_3 : decode cX8_in 3 = .ok (.ifCond .lt 14, 3) := by decide +kernel
theorem dX8_in_6 : decode cX8_in 6 = .ok (.lload_n 0, 1) := by decide +kernel
theorem dX8_in_7 : decode cX8_in 7 = .ok (.lload 4, 2) := by decide +kernel
theorem dX8_in_9 : decode cX8_in 9 = .ok (.lcmp, 1) := by decide +kernel
theorem dX8_in_10 : decode cX8_in 10 = .ok (.ifCond .gt 7, 3) := by decide +kernel
theorem dX8_in_13 : decode cX8_in 13 = .ok (.iconst 1, 1) := by decide +kernel
theorem dX8_in_14 : decode cX8_in 14 = .ok (.goto 4, 3) := by decide +kernel
theorem dX8_in_17 : decode cX8_in 17 = .ok (.iconst 0, 1) := by decide +kernel
theorem dX8_in_18 : decode cX8_in 18 = .ok (.ireturn, 1) := by decide +kernel
theorem dX8_errs_0 : decode cX8_errs 0 = .ok (.aload_n 0, 1) := by decide +kernel
theorem dX8_errs_1 : decode cX8_errs 1 = .ok (.getfield 19, 3) := by decide +kernel
theorem dX8_errs_4 : decode cX8_errs 4 = .ok (.ldc 43, 2) := by decide +kernel
theorem dX8_errs_6 : decode cX8_errs 6 = .ok (.iload_n 1, 1) := by decide +kernel
theorem dX8_errs_7 : decode cX8_errs 7 = .ok (.isub, 1) := by decide +kernel
theorem dX8_errs_8 : decode cX8_errs 8 = .ok (.dup2, 1) := by decide +kernel
theorem dX8_errs_9 : decode cX8_errs 9 = .ok (.iaload, 1) := by decide +kernel
theorem dX8_errs_10 : decode cX8_errs 10 = .ok (.iconst 1, 1) := by decide +kernel
theorem dX8_errs_11 : decode cX8_errs 11 = .ok (.iadd, 1) := by decide +kernel
theorem dX8_errs_12 : decode cX8_errs 12 = .ok (.iastore, 1) := by decide +kernel
theorem dX8_errs_13 : decode cX8_errs 13 = .ok (.iload_n 1, 1) := by decide +kernel
theorem dX8_errs_14 : decode cX8_errs 14 = .ok (.ireturn, 1) := by decide +kernel
theorem dX8_held_0 : decode cX8_held 0 = .ok (.iload_n 0, 1) := by decide +kernel
theorem dX8_held_1 : decode cX8_held 1 = .ok (.iload_n 1, 1) := by decide +kernel
theorem dX8_held_2 : decode cX8_held 2 = .ok (.if_icmp .ge 7, 3) := by decide +kernel
theorem dX8_held_5 : decode cX8_held 5 = .ok (.iload_n 1, 1) := by decide +kernel
theorem dX8_held_6 : decode cX8_held 6 = .ok (.goto 13, 3) := by decide +kernel
theorem dX8_held_9 : decode cX8_held 9 = .ok (.iload_n 0, 1) := by decide +kernel
theorem dX8_held_10 : decode cX8_held 10 = .ok (.iload_n 2, 1) := by decide +kernel
theorem dX8_held_11 : decode cX8_held 11 = .ok (.if_icmp .le 7, 3) := by decide +kernel
theorem dX8_held_14 : decode cX8_held 14 = .ok (.iload_n 2, 1) := by decide +kernel
theorem dX8_held_15 : decode cX8_held 15 = .ok (.goto 4, 3) := by decide +kernel
theorem dX8_held_18 : decode cX8_held 18 = .ok (.iload_n 0, 1) := by decide +kernel
theorem dX8_held_19 : decode cX8_held 19 = .ok (.ireturn, 1) := by decide +kernel
theorem dX8_laysAside_0 : decode cX8_laysAside 0 = .ok (.iconst 0, 1) := by decide +kernel
theorem dX8_laysAside_1 : decode cX8_laysAside 1 = .ok (.istore_n 1, 1) := by decide +kernel
theorem dX8_laysAside_2 : decode cX8_laysAside 2 = .ok (.iload_n 1, 1) := by decide +kernel
theorem dX8_laysAside_3 : decode cX8_laysAside 3 = .ok (.sipush 176, 3) := by decide +kernel
theorem dX8_laysAside_6 : decode cX8_laysAside 6 = .ok (.if_icmp .ge 21, 3) := by decide +kernel
theorem dX8_laysAside_9 : decode cX8_laysAside 9 = .ok (.aload_n 0, 1) := by decide +kernel
theorem dX8_laysAside_10 : decode cX8_laysAside 10 = .ok (.getfield 16, 3) := by decide +kernel
theorem dX8_laysAside_13 : decode cX8_laysAside 13 = .ok (.iload_n 1, 1) := by decide +kernel
theorem dX8_laysAside_14 : decode cX8_laysAside 14 = .ok (.aload_n 0, 1) := by decide +kernel
theorem dX8_laysAside_15 : decode cX8_laysAside 15 = .ok (.getfield 7, 3) := by decide +kernel
theorem dX8_laysAside_18 : decode cX8_laysAside 18 = .ok (.iload_n 1, 1) := by decide +kernel
theorem dX8_laysAside_19 : decode cX8_laysAside 19 = .ok (.iaload, 1) := by decide +kernel
theorem dX8_laysAside_20 : decode cX8_laysAside 20 = .ok (.iastore, 1) := by decide +kernel
theorem dX8_laysAside_21 : decode cX8_laysAside 21 = .ok (.iinc 1 1, 3) := by decide +kernel
theorem dX8_laysAside_24 : decode cX8_laysAside 24 = .ok (.goto (-22), 3) := by decide +kernel
theorem dX8_laysAside_27 : decode cX8_laysAside 27 = .ok (.return_, 1) := by decide +kernel
theorem dX8_takesBack_0 : decode cX8_takesBack 0 = .ok (.iconst 0, 1) := by decide +kernel
theorem dX8_takesBack_1 : decode cX8_takesBack 1 = .ok (.istore_n 2, 1) := by decide +kernel
theorem dX8_takesBack_2 : decode cX8_takesBack 2 = .ok (.iload_n 2, 1) := by decide +kernel
theorem dX8_takesBack_3 : decode cX8_takesBack 3 = .ok (.sipush 176, 3) := by decide +kernel
theorem dX8_takesBack_6 : decode cX8_takesBack 6 = .ok (.if_icmp .ge 21, 3) := by decide +kernel
theorem dX8_takesBack_9 : decode cX8_takesBack 9 = .ok (.aload_n 0, 1) := by decide +kernel
theorem dX8_takesBack_10 : decode cX8_takesBack 10 = .ok (.getfield 7, 3) := by decide +kernel
theorem dX8_takesBack_13 : decode cX8_takesBack 13 = .ok (.iload_n 2, 1) := by decide +kernel
theorem dX8_takesBack_14 : decode cX8_takesBack 14 = .ok (.aload_n 0, 1) := by decide +kernel
theorem dX8_takesBack_15 : decode cX8_takesBack 15 = .ok (.getfield 16, 3) := by decide +kernel
theorem dX8_takesBack_18 : decode cX8_takesBack 18 = .ok (.iload_n 2, 1) := by decide +kernel
theorem dX8_takesBack_19 : decode cX8_takesBack 19 = .ok (.iaload, 1) := by decide +kernel
theorem dX8_takesBack_20 : decode cX8_takesBack 20 = .ok (.iastore, 1) := by decide +kernel
theorem dX8_takesBack_21 : decode cX8_takesBack 21 = .ok (.iinc 2 1, 3) := by decide +kernel
theorem dX8_takesBack_24 : decode cX8_takesBack 24 = .ok (.goto (-22), 3) := by decide +kernel
theorem dX8_takesBack_27 : decode cX8_takesBack 27 = .ok (.iload_n 1, 1) := by decide +kernel
theorem dX8_takesBack_28 : decode cX8_takesBack 28 = .ok (.ireturn, 1) := by decide +kernel
theorem dX8_isWell_0 : decode cX8_isWell 0 = .ok (.iload_n 0, 1) := by decide +kernel
theorem dX8_isWell_1 : decode cX8_isWell 1 = .ok (.i2l, 1) := by decide +kernel
theorem dX8_isWell_2 : decode cX8_isWell 2 = .ok (.lconst 0, 1) := by decide +kernel
theorem dX8_isWell_3 : decode cX8_isWell 3 = .ok (.ldc2_w 44, 3) := by decide +kernel
theorem dX8_isWell_6 : decode cX8_isWell 6 = .ok (.invokestatic 46, 3) := by decide +kernel
theorem dX8_isWell_9 : decode cX8_isWell 9 = .ok (.ireturn, 1) := by decide +kernel
theorem dX8_isPerson_0 : decode cX8_isPerson 0 = .ok (.iload_n 1, 1) := by decide +kernel
theorem dX8_isPerson_1 : decode cX8_isPerson 1 = .ok (.i2l, 1) := by decide +kernel
theorem dX8_isPerson_2 : decode cX8_isPerson 2 = .ok (.lconst 0, 1) := by decide +kernel
theorem dX8_isPerson_3 : decode cX8_isPerson 3 = .ok (.aload_n 0, 1) := by decide +kernel
theorem dX8_isPerson_4 : decode cX8_isPerson 4 = .ok (.getfield 7, 3) := by decide +kernel
theorem dX8_isPerson_7 : decode cX8_isPerson 7 = .ok (.sipush 139, 3) := by decide +kernel
theorem dX8_isPerson_10 : decode cX8_isPerson 10 = .ok (.iaload, 1) := by decide +kernel
theorem dX8_isPerson_11 : decode cX8_isPerson 11 = .ok (.iconst 1, 1) := by decide +kernel
theorem dX8_isPerson_12 : decode cX8_isPerson 12 = .ok (.isub, 1) := by decide +kernel
theorem dX8_isPerson_13 : decode cX8_isPerson 13 = .ok (.i2l, 1) := by decide +kernel
theorem dX8_isPerson_14 : decode cX8_isPerson 14 = .ok (.invokestatic 46, 3) := by decide +kernel
theorem dX8_isPerson_17 : decode cX8_isPerson 17 = .ok (.ireturn, 1) := by decide +kernel
theorem dX8_isSet_0 : decode cX8_isSet 0 = .ok (.iload_n 0, 1) := by decide +kernel
theorem dX8_isSet_1 : decode cX8_isSet 1 = .ok (.i2l, 1) := by decide +kernel
theorem dX8_isSet_2 : decode cX8_isSet 2 = .ok (.lconst 0, 1) := by decide +kernel
theorem dX8_isSet_3 : decode cX8_isSet 3 = .ok (.ldc2_w 50, 3) := by decide +kernel
theorem dX8_isSet_6 : decode cX8_isSet 6 = .ok (.invokestatic 46, 3) := by decide +kernel
theorem dX8_isSet_9 : decode cX8_isSet 9 = .ok (.ireturn, 1) := by decide +kernel
theorem dX8_isMind_0 : decode cX8_isMind 0 = .ok (.iload_n 0, 1) := by decide +kernel
theorem dX8_isMind_1 : decode cX8_isMind 1 = .ok (.i2l, 1) := by decide +kernel
theorem dX8_isMind_2 : decode cX8_isMind 2 = .ok (.lconst 0, 1) := by decide +kernel
theorem dX8_isMind_3 : decode cX8_isMind 3 = .ok (.ldc2_w 52, 3) := by decide +kernel
theorem dX8_isMind_6 : decode cX8_isMind 6 = .ok (.invokestatic 46, 3) := by decide +kernel
theorem dX8_isMind_9 : decode cX8_isMind 9 = .ok (.ireturn, 1) := by decide +kernel
theorem dX8_spot_0 : decode cX8_spot 0 = .ok (.sipush 140, 3) := by decide +kernel
theorem dX8_spot_3 : decode cX8_spot 3 = .ok (.bipush 6, 2) := by decide +kernel
theorem dX8_spot_5 : decode cX8_spot 5 = .ok (.iload_n 0, 1) := by decide +kernel
theorem dX8_spot_6 : decode cX8_spot 6 = .ok (.imul, 1) := by decide +kernel
theorem dX8_spot_7 : decode cX8_spot 7 = .ok (.iadd, 1) := by decide +kernel
theorem dX8_spot_8 : decode cX8_spot 8 = .ok (.iload_n 1, 1) := by decide +kernel
theorem dX8_spot_9 : decode cX8_spot 9 = .ok (.iadd, 1) := by decide +kernel
theorem dX8_spot_10 : decode cX8_spot 10 = .ok (.ireturn, 1) := by decide +kernel
theorem dX8_its_0 : decode cX8_its 0 = .ok (.aload_n 0, 1) := by decide +kernel
theorem dX8_its_1 : decode cX8_its 1 = .ok (.getfield 7, 3) := by decide +kernel
theorem dX8_its_4 : decode cX8_its 4 = .ok (.iload_n 1, 1) := by decide +kernel
theorem dX8_its_5 : decode cX8_its 5 = .ok (.iload_n 2, 1) := by decide +kernel
theorem dX8_its_6 : decode cX8_its 6 = .ok (.invokestatic 54, 3) := by decide +kernel
theorem dX8_its_9 : decode cX8_its 9 = .ok (.iaload, 1) := by decide +kernel
theorem dX8_its_10 : decode cX8_its 10 = .ok (.ireturn, 1) := by decide +kernel
theorem dX8_becomes_0 : decode cX8_becomes 0 = .ok (.aload_n 0, 1) := by decide +kernel
theorem dX8_becomes_1 : decode cX8_becomes 1 = .ok (.getfield 7, 3) := by decide +kernel
theorem dX8_becomes_4 : decode cX8_becomes 4 = .ok (.iload_n 1, 1) := by decide +kernel
theorem dX8_becomes_5 : decode cX8_becomes 5 = .ok (.iaload, 1) := by decide +kernel
theorem dX8_becomes_6 : decode cX8_becomes 6 = .ok (.istore_n 3, 1) := by decide +kernel
theorem dX8_becomes_7 : decode cX8_becomes 7 = .ok (.aload_n 0, 1) := by decide +kernel
theorem dX8_becomes_8 : decode cX8_becomes 8 = .ok (.getfield 7, 3) := by decide +kernel
theorem dX8_becomes_11 : decode cX8_becomes 11 = .ok (.iload_n 1, 1) := by decide +kernel
theorem dX8_becomes_12 : decode cX8_becomes 12 = .ok (.iload_n 2, 1) := by decide +kernel
theorem dX8_becomes_13 : decode cX8_becomes 13 = .ok (.iastore, 1) := by decide +kernel
theorem dX8_becomes_14 : decode cX8_becomes 14 = .ok (.iload_n 3, 1) := by decide +kernel
theorem dX8_becomes_15 : decode cX8_becomes 15 = .ok (.ireturn, 1) := by decide +kernel
theorem dX8_roadOf_0 : decode cX8_roadOf 0 = .ok (.aload_n 0, 1) := by decide +kernel
theorem dX8_roadOf_1 : decode cX8_roadOf 1 = .ok (.getfield 7, 3) := by decide +kernel
theorem dX8_roadOf_4 : decode cX8_roadOf 4 = .ok (.bipush 8, 2) := by decide +kernel
theorem dX8_roadOf_6 : decode cX8_roadOf 6 = .ok (.bipush 8, 2) := by decide +kernel
theorem dX8_roadOf_8 : decode cX8_roadOf 8 = .ok (.iload_n 1, 1) := by decide +kernel
theorem dX8_roadOf_9 : decode cX8_roadOf 9 = .ok (.imul, 1) := by decide +kernel
theorem dX8_roadOf_10 : decode cX8_roadOf 10 = .ok (.iadd, 1) := by decide +kernel
theorem dX8_roadOf_11 : decode cX8_roadOf 11 = .ok (.iload_n 2, 1) := by decide +kernel
theorem dX8_roadOf_12 : decode cX8_roadOf 12 = .ok (.iadd, 1) := by decide +kernel
theorem dX8_roadOf_13 : decode cX8_roadOf 13 = .ok (.iaload, 1) := by decide +kernel
theorem dX8_roadOf_14 : decode cX8_roadOf 14 = .ok (.ireturn, 1) := by decide +kernel
theorem dX8_water_0 : decode cX8_water 0 = .ok (.iload_n 1, 1) := by decide +kernel
theorem dX8_water_1 : decode cX8_water 1 = .ok (.invokestatic 58, 3) := by decide +kernel
theorem dX8_water_4 : decode cX8_water 4 = .ok (.ifCond .eq 26, 3) := by decide +kernel
theorem dX8_water_7 : decode cX8_water 7 = .ok (.iload_n 2, 1) := by decide +kernel
theorem dX8_water_8 : decode cX8_water 8 = .ok (.i2l, 1) := by decide +kernel
theorem dX8_water_9 : decode cX8_water 9 = .ok (.lconst 0, 1) := by decide +kernel
theorem dX8_water_10 : decode cX8_water 10 = .ok (.ldc2_w 62, 3) := by decide +kernel
theorem dX8_water_13 : decode cX8_water 13 = .ok (.invokestatic 46, 3) := by decide +kernel
theorem dX8_water_16 : decode cX8_water 16 = .ok (.ifCond .eq 14, 3) := by decide +kernel
theorem dX8_water_19 : decode cX8_water 19 = .ok (.aload_n 0, 1) := by decide +kernel
theorem dX8_water_20 : decode cX8_water 20 = .ok (.iconst 0, 1) := by decide +kernel
theorem dX8_water_21 : decode cX8_water 21 = .ok (.iload_n 1, 1) := by decide +kernel
theorem dX8_water_22 : decode cX8_water 22 = .ok (.iadd, 1) := by decide +kernel
theorem dX8_water_23 : decode cX8_water 23 = .ok (.iload_n 2, 1) := by decide +kernel
theorem dX8_water_24 : decode cX8_water 24 = .ok (.invokevirtual 64, 3) := by decide +kernel
theorem dX8_water_27 : decode cX8_water 27 = .ok (.goto 9, 3) := by decide +kernel
theorem dX8_water_30 : decode cX8_water 30 = .ok (.aload_n 0, 1) := by decide +kernel
theorem dX8_water_31 : decode cX8_water 31 = .ok (.ldc 67, 2) := by decide +kernel
theorem dX8_water_33 : decode cX8_water 33 = .ok (.invokevirtual 68, 3) := by decide +kernel
theorem dX8_water_36 : decode cX8_water 36 = .ok (.ireturn, 1) := by decide +kernel
theorem dX8_road_0 : decode cX8_road 0 = .ok (.iload_n 1, 1) := by decide +kernel
theorem dX8_road_1 : decode cX8_road 1 = .ok (.invokestatic 58, 3) := by decide +kernel
theorem dX8_road_4 : decode cX8_road 4 = .ok (.ifCond .eq 27, 3) := by decide +kernel
theorem dX8_road_7 : decode cX8_road 7 = .ok (.iload_n 2, 1) := by decide +kernel
theorem dX8_road_8 : decode cX8_road 8 = .ok (.invokestatic 58, 3) := by decide +kernel
theorem dX8_road_11 : decode cX8_road 11 = .ok (.ifCond .eq 20, 3) := by decide +kernel
theorem dX8_road_14 : decode cX8_road 14 = .ok (.iload_n 1, 1) := by decide +kernel
theorem dX8_road_15 : decode cX8_road 15 = .ok (.iload_n 2, 1) := by decide +kernel
theorem dX8_road_16 : decode cX8_road 16 = .ok (.if_icmp .eq 15, 3) := by decide +kernel
theorem dX8_road_19 : decode cX8_road 19 = .ok (.iload_n 3, 1) := by decide +kernel
theorem dX8_road_20 : decode cX8_road 20 = .ok (.i2l, 1) := by decide +kernel
theorem dX8_road_21 : decode cX8_road 21 = .ok (.lconst 0, 1) := by decide +kernel
theorem dX8_road_22 : decode cX8_road 22 = .ok (.ldc2_w 72, 3) := by decide +kernel
theorem dX8_road_25 : decode cX8_road 25 = .ok (.invokestatic 46, 3) := by decide +kernel
theorem dX8_road_28 : decode cX8_road 28 = .ok (.ifCond .ne 10, 3) := by decide +kernel
theorem dX8_road_31 : decode cX8_road 31 = .ok (.aload_n 0, 1) := by decide +kernel
theorem dX8_road_32 : decode cX8_road 32 = .ok (.ldc 67, 2) := by decide +kernel
theorem dX8_road_34 : decode cX8_road 34 = .ok (.invokevirtual 68, 3) := by decide +kernel
theorem dX8_road_37 : decode cX8_road 37 = .ok (.ireturn, 1) := by decide +kernel
theorem dX8_road_38 : decode cX8_road 38 = .ok (.aload_n 0, 1) := by decide +kernel
theorem dX8_road_39 : decode cX8_road 39 = .ok (.getfield 7, 3) := by decide +kernel
theorem dX8_road_42 : decode cX8_road 42 = .ok (.bipush 8, 2) := by decide +kernel
theorem dX8_road_44 : decode cX8_road 44 = .ok (.bipush 8, 2) := by decide +kernel
theorem dX8_road_46 : decode cX8_road 46 = .ok (.iload_n 2, 1) := by decide +kernel
theorem dX8_road_47 : decode cX8_road 47 = .ok (.imul, 1) := by decide +kernel
theorem dX8_road_48 : decode cX8_road 48 = .ok (.iadd, 1) := by decide +kernel
theorem dX8_road_49 : decode cX8_road 49 = .ok (.iload_n 1, 1) := by decide +kernel
theorem dX8_road_50 : decode cX8_road 50 = .ok (.iadd, 1) := by decide +kernel
theorem dX8_road_51 : decode cX8_road 51 = .ok (.iload_n 3, 1) := by decide +kernel
theorem dX8_road_52 : decode cX8_road 52 = .ok (.iastore, 1) := by decide +kernel
theorem dX8_road_53 : decode cX8_road 53 = .ok (.aload_n 0, 1) := by decide +kernel
theorem dX8_road_54 : decode cX8_road 54 = .ok (.bipush 8, 2) := by decide +kernel
theorem dX8_road_56 : decode cX8_road 56 = .ok (.bipush 8, 2) := by decide +kernel
theorem dX8_road_58 : decode cX8_road 58 = .ok (.iload_n 1, 1) := by decide +kernel
theorem dX8_road_59 : decode cX8_road 59 = .ok (.imul, 1) := by decide +kernel
theorem dX8_road_60 : decode cX8_road 60 = .ok (.iadd, 1) := by decide +kernel
theorem dX8_road_61 : decode cX8_road 61 = .ok (.iload_n 2, 1) := by decide +kernel
theorem dX8_road_62 : decode cX8_road 62 = .ok (.iadd, 1) := by decide +kernel
theorem dX8_road_63 : decode cX8_road 63 = .ok (.iload_n 3, 1) := by decide +kernel
theorem dX8_road_64 : decode cX8_road 64 = .ok (.invokevirtual 64, 3) := by decide +kernel
theorem dX8_road_67 : decode cX8_road 67 = .ok (.ireturn, 1) := by decide +kernel
theorem dX8_owe_0 : decode cX8_owe 0 = .ok (.iload_n 1, 1) := by decide +kernel
theorem dX8_owe_1 : decode cX8_owe 1 = .ok (.invokestatic 58, 3) := by decide +kernel
theorem dX8_owe_4 : decode cX8_owe 4 = .ok (.ifCond .eq 44, 3) := by decide +kernel
theorem dX8_owe_7 : decode cX8_owe 7 = .ok (.iload_n 2, 1) := by decide +kernel
theorem dX8_owe_8 : decode cX8_owe 8 = .ok (.invokestatic 58, 3) := by decide +kernel
theorem dX8_owe_11 : decode cX8_owe 11 = .ok (.ifCond .eq 37, 3) := by decide +kernel
theorem dX8_owe_14 : decode cX8_owe 14 = .ok (.iload_n 1, 1) := by decide +kernel
theorem dX8_owe_15 : decode cX8_owe 15 = .ok (.iload_n 2, 1) := by decide +kernel
theorem dX8_owe_16 : decode cX8_owe 16 = .ok (.if_icmp .eq 32, 3) := by decide +kernel
theorem dX8_owe_19 : decode cX8_owe 19 = .ok (.iload_n 3, 1) := by decide +kernel
theorem dX8_owe_20 : decode cX8_owe 20 = .ok (.i2l, 1) := by decide +kernel
theorem dX8_owe_21 : decode cX8_owe 21 = .ok (.lconst 0, 1) := by decide +kernel
theorem dX8_owe_22 : decode cX8_owe 22 = .ok (.ldc2_w 74, 3) := by decide +kernel
theorem dX8_owe_25 : decode cX8_owe 25 = .ok (.invokestatic 46, 3) := by decide +kernel
theorem dX8_owe_28 : decode cX8_owe 28 = .ok (.ifCond .eq 20, 3) := by decide +kernel
theorem dX8_owe_31 : decode cX8_owe 31 = .ok (.aload_n 0, 1) := by decide +kernel
theorem dX8_owe_32 : decode cX8_owe 32 = .ok (.bipush 72, 2) := by decide +kernel
theorem dX8_owe_34 : decode cX8_owe 34 = .ok (.bipush 8, 2) := by decide +kernel
theorem dX8_owe_36 : decode cX8_owe 36 = .ok (.iload_n 1, 1) := by decide +kernel
theorem dX8_owe_37 : decode cX8_owe 37 = .ok (.imul, 1) := by decide +kernel
theorem dX8_owe_38 : decode cX8_owe 38 = .ok (.iadd, 1) := by decide +kernel
theorem dX8_owe_39 : decode cX8_owe 39 = .ok (.iload_n 2, 1) := by decide +kernel
theorem dX8_owe_40 : decode cX8_owe 40 = .ok (.iadd, 1) := by decide +kernel
theorem dX8_owe_41 : decode cX8_owe 41 = .ok (.iload_n 3, 1) := by decide +kernel
theorem dX8_owe_42 : decode cX8_owe 42 = .ok (.invokevirtual 64, 3) := by decide +kernel
theorem dX8_owe_45 : decode cX8_owe 45 = .ok (.goto 9, 3) := by decide +kernel
theorem dX8_owe_48 : decode cX8_owe 48 = .ok (.aload_n 0, 1) := by decide +kernel
theorem dX8_owe_49 : decode cX8_owe 49 = .ok (.ldc 67, 2) := by decide +kernel
theorem dX8_owe_51 : decode cX8_owe 51 = .ok (.invokevirtual 68, 3) := by decide +kernel
theorem dX8_owe_54 : decode cX8_owe 54 = .ok (.ireturn, 1) := by decide +kernel
theorem dX8_owes_0 : decode cX8_owes 0 = .ok (.iconst 0, 1) := by decide +kernel
theorem dX8_owes_1 : decode cX8_owes 1 = .ok (.istore_n 2, 1) := by decide +kernel
theorem dX8_owes_2 : decode cX8_owes 2 = .ok (.iconst 0, 1) := by decide +kernel
theorem dX8_owes_3 : decode cX8_owes 3 = .ok (.istore_n 3, 1) := by decide +kernel
theorem dX8_owes_4 : decode cX8_owes 4 = .ok (.iload_n 3, 1) := by decide +kernel
theorem dX8_owes_5 : decode cX8_owes 5 = .ok (.bipush 8, 2) := by decide +kernel
theorem dX8_owes_7 : decode cX8_owes 7 = .ok (.if_icmp .ge 30, 3) := by decide +kernel
theorem dX8_owes_10 : decode cX8_owes 10 = .ok (.iload_n 1, 1) := by decide +kernel
theorem dX8_owes_11 : decode cX8_owes 11 = .ok (.ifCond .lt 26, 3) := by decide +kernel
theorem dX8_owes_14 : decode cX8_owes 14 = .ok (.iload_n 2, 1) := by decide +kernel
theorem dX8_owes_15 : decode cX8_owes 15 = .ok (.aload_n 0, 1) := by decide +kernel
theorem dX8_owes_16 : decode cX8_owes 16 = .ok (.getfield 7, 3) := by decide +kernel
theorem dX8_owes_19 : decode cX8_owes 19 = .ok (.bipush 72, 2) := by decide +kernel
theorem dX8_owes_21 : decode cX8_owes 21 = .ok (.bipush 8, 2) := by decide +kernel
theorem dX8_owes_23 : decode cX8_owes 23 = .ok (.iload_n 1, 1) := by decide +kernel
theorem dX8_owes_24 : decode cX8_owes 24 = .ok (.imul, 1) := by decide +kernel
theorem dX8_owes_25 : decode cX8_owes 25 = .ok (.iadd, 1) := by decide +kernel
theorem dX8_owes_26 : decode cX8_owes 26 = .ok (.iload_n 3, 1) := by decide +kernel
theorem dX8_owes_27 : decode cX8_owes 27 = .ok (.iadd, 1) := by decide +kernel
theorem dX8_owes_28 : decode cX8_owes 28 = .ok (.iaload, 1) := by decide +kernel
theorem dX8_owes_29 : decode cX8_owes 29 = .ok (.iadd, 1) := by decide +kernel
theorem dX8_owes_30 : decode cX8_owes 30 = .ok (.istore_n 2, 1) := by decide +kernel
theorem dX8_owes_31 : decode cX8_owes 31 = .ok (.iinc 3 1, 3) := by decide +kernel
theorem dX8_owes_34 : decode cX8_owes 34 = .ok (.goto (-30), 3) := by decide +kernel
theorem dX8_owes_37 : decode cX8_owes 37 = .ok (.iload_n 2, 1) := by decide +kernel
theorem dX8_owes_38 : decode cX8_owes 38 = .ok (.ireturn, 1) := by decide +kernel
theorem dX8_roadsOf_0 : decode cX8_roadsOf 0 = .ok (.iconst 0, 1) := by decide +kernel
theorem dX8_roadsOf_1 : decode cX8_roadsOf 1 = .ok (.istore_n 2, 1) := by decide +kernel
theorem dX8_roadsOf_2 : decode cX8_roadsOf 2 = .ok (.iconst 0, 1) := by decide +kernel
theorem dX8_roadsOf_3 : decode cX8_roadsOf 3 = .ok (.istore_n 3, 1) := by decide +kernel
theorem dX8_roadsOf_4 : decode cX8_roadsOf 4 = .ok (.iload_n 3, 1) := by decide +kernel
theorem dX8_roadsOf_5 : decode cX8_roadsOf 5 = .ok (.bipush 8, 2) := by decide +kernel
theorem dX8_roadsOf_7 : decode cX8_roadsOf 7 = .ok (.if_icmp .ge 26, 3) := by decide +kernel
theorem dX8_roadsOf_10 : decode cX8_roadsOf 10 = .ok (.iload_n 2, 1) := by decide +kernel
theorem dX8_roadsOf_11 : decode cX8_roadsOf 11 = .ok (.aload_n 0, 1) := by decide +kernel
theorem dX8_roadsOf_12 : decode cX8_roadsOf 12 = .ok (.iload_n 1, 1) := by decide +kernel
theorem dX8_roadsOf_13 : decode cX8_roadsOf 13 = .ok (.iload_n 3, 1) := by decide +kernel
theorem dX8_roadsOf_14 : decode cX8_roadsOf 14 = .ok (.invokevirtual 76, 3) := by decide +kernel
theorem dX8_roadsOf_17 : decode cX8_roadsOf 17 = .ok (.ifCond .le 7, 3) := by decide +kernel
theorem dX8_roadsOf_20 : decode cX8_roadsOf 20 = .ok (.iconst 1, 1) := by decide +kernel
theorem dX8_roadsOf_21 : decode cX8_roadsOf 21 = .ok (.goto 4, 3) := by decide +kernel
theorem dX8_roadsOf_24 : decode cX8_roadsOf 24 = .ok (.iconst 0, 1) := by decide +kernel
theorem dX8_roadsOf_25 : decode cX8_roadsOf 25 = .ok (.iadd, 1) := by decide +kernel
theorem dX8_roadsOf_26 : decode cX8_roadsOf 26 = .ok (.istore_n 2, 1) := by decide +kernel
theorem dX8_roadsOf_27 : decode cX8_roadsOf 27 = .ok (.iinc 3 1, 3) := by decide +kernel
theorem dX8_roadsOf_30 : decode cX8_roadsOf 30 = .ok (.goto (-26), 3) := by decide +kernel
theorem dX8_roadsOf_33 : decode cX8_roadsOf 33 = .ok (.iload_n 2, 1) := by decide +kernel
theorem dX8_roadsOf_34 : decode cX8_roadsOf 34 = .ok (.ireturn, 1) := by decide +kernel
theorem dX8_those_0 : decode cX8_those 0 = .ok (.iconst 0, 1) := by decide +kernel
theorem dX8_those_1 : decode cX8_those 1 = .ok (.istore_n 3, 1) := by decide +kernel
theorem dX8_those_2 : decode cX8_those 2 = .ok (.iconst 0, 1) := by decide +kernel
theorem dX8_those_3 : decode cX8_those 3 = .ok (.istore 4, 2) := by decide +kernel
theorem dX8_those_5 : decode cX8_those 5 = .ok (.iload 4, 2) := by decide +kernel
theorem dX8_those_7 : decode cX8_those 7 = .ok (.aload_n 0, 1) := by decide +kernel
theorem dX8_those_8 : decode cX8_those 8 = .ok (.getfield 7, 3) := by decide +kernel
theorem dX8_those_11 : decode cX8_those 11 = .ok (.sipush 139, 3) := by decide +kernel
theorem dX8_those_14 : decode cX8_those 14 = .ok (.iaload, 1) := by decide +kernel
theorem dX8_those_15 : decode cX8_those 15 = .ok (.if_icmp .ge 41, 3) := by decide +kernel
theorem dX8_those_18 : decode cX8_those 18 = .ok (.iload_n 3, 1) := by decide +kernel
theorem dX8_those_19 : decode cX8_those 19 = .ok (.aload_n 0, 1) := by decide +kernel
theorem dX8_those_20 : decode cX8_those 20 = .ok (.iload 4, 2) := by decide +kernel
theorem dX8_those_22 : decode cX8_those 22 = .ok (.iconst 5, 1) := by decide +kernel
theorem dX8_those_23 : decode cX8_those 23 = .ok (.invokevirtual 79, 3) := by decide +kernel
theorem dX8_those_26 : decode cX8_those 26 = .ok (.ifCond .ne 21, 3) := by decide +kernel
theorem dX8_those_29 : decode cX8_those 29 = .ok (.aload_n 0, 1) := by decide +kernel
theorem dX8_those_30 : decode cX8_those 30 = .ok (.iload 4, 2) := by decide +kernel
theorem dX8_those_32 : decode cX8_those 32 = .ok (.iload_n 1, 1) := by decide +kernel
theorem dX8_those_33 : decode cX8_those 33 = .ok (.invokevirtual 79, 3) := by decide +kernel
theorem dX8_those_36 : decode cX8_those 36 = .ok (.iload_n 2, 1) := by decide +kernel
theorem dX8_those_37 : decode cX8_those 37 = .ok (.if_icmp .ne 10, 3) := by decide +kernel
theorem dX8_those_40 : decode cX8_those 40 = .ok (.iconst 1, 1) := by decide +kernel
theorem dX8_those_41 : decode cX8_those 41 = .ok (.iload 4, 2) := by decide +kernel
theorem dX8_those_43 : decode cX8_those 43 = .ok (.ishl, 1) := by decide +kernel
theorem dX8_those_44 : decode cX8_those 44 = .ok (.goto 4, 3) := by decide +kernel
theorem dX8_those_47 : decode cX8_those 47 = .ok (.iconst 0, 1) := by decide +kernel
theorem dX8_those_48 : decode cX8_those 48 = .ok (.ior, 1) := by decide +kernel
theorem dX8_those_49 : decode cX8_those 49 = .ok (.istore_n 3, 1) := by decide +kernel
theorem dX8_those_50 : decode cX8_those 50 = .ok (.iinc 4 1, 3) := by decide +kernel
theorem dX8_those_53 : decode cX8_those 53 = .ok (.goto (-48), 3) := by decide +kernel
theorem dX8_those_56 : decode cX8_those 56 = .ok (.iload_n 3, 1) := by decide +kernel
theorem dX8_those_57 : decode cX8_those 57 = .ok (.ireturn, 1) := by decide +kernel
theorem dX8_ofWell_0 : decode cX8_ofWell 0 = .ok (.iload_n 1, 1) := by decide +kernel
theorem dX8_ofWell_1 : decode cX8_ofWell 1 = .ok (.invokestatic 58, 3) := by decide +kernel
theorem dX8_ofWell_4 : decode cX8_ofWell 4 = .ok (.ifCond .eq 15, 3) := by decide +kernel
theorem dX8_ofWell_7 : decode cX8_ofWell 7 = .ok (.iload_n 2, 1) := by decide +kernel
theorem dX8_ofWell_8 : decode cX8_ofWell 8 = .ok (.i2l, 1) := by decide +kernel
theorem dX8_ofWell_9 : decode cX8_ofWell 9 = .ok (.lconst 0, 1) := by decide +kernel
theorem dX8_ofWell_10 : decode cX8_ofWell 10 = .ok (.ldc2_w 82, 3) := by decide +kernel
theorem dX8_ofWell_13 : decode cX8_ofWell 13 = .ok (.invokestatic 46, 3) := by decide +kernel
theorem dX8_ofWell_16 : decode cX8_ofWell 16 = .ok (.ifCond .ne 10, 3) := by decide +kernel
theorem dX8_ofWell_19 : decode cX8_ofWell 19 = .ok (.aload_n 0, 1) := by decide +kernel
theorem dX8_ofWell_20 : decode cX8_ofWell 20 = .ok (.ldc 67, 2) := by decide +kernel
theorem dX8_ofWell_22 : decode cX8_ofWell 22 = .ok (.invokevirtual 68, 3) := by decide +kernel
theorem dX8_ofWell_25 : decode cX8_ofWell 25 = .ok (.ireturn, 1) := by decide +kernel
theorem dX8_ofWell_26 : decode cX8_ofWell 26 = .ok (.iload_n 2, 1) := by decide +kernel
theorem dX8_ofWell_27 : decode cX8_ofWell 27 = .ok (.tableswitch 58 0 3 #[29, 38, 44, 51], 29) := by decide +kernel
theorem dX8_ofWell_56 : decode cX8_ofWell 56 = .ok (.aload_n 0, 1) := by decide +kernel
theorem dX8_ofWell_57 : decode cX8_ofWell 57 = .ok (.getfield 7, 3) := by decide +kernel
theorem dX8_ofWell_60 : decode cX8_ofWell 60 = .ok (.iconst 0, 1) := by decide +kernel
theorem dX8_ofWell_61 : decode cX8_ofWell 61 = .ok (.iload_n 1, 1) := by decide +kernel
theorem dX8_ofWell_62 : decode cX8_ofWell 62 = .ok (.iadd, 1) := by decide +kernel
theorem dX8_ofWell_63 : decode cX8_ofWell 63 = .ok (.iaload, 1) := by decide +kernel
theorem dX8_ofWell_64 : decode cX8_ofWell 64 = .ok (.ireturn, 1) := by decide +kernel
theorem dX8_ofWell_65 : decode cX8_ofWell 65 = .ok (.aload_n 0, 1) := by decide +kernel
theorem dX8_ofWell_66 : decode cX8_ofWell 66 = .ok (.iload_n 1, 1) := by decide +kernel
theorem dX8_ofWell_67 : decode cX8_ofWell 67 = .ok (.invokevirtual 84, 3) := by decide +kernel
theorem dX8_ofWell_70 : decode cX8_ofWell 70 = .ok (.ireturn, 1) := by decide +kernel
theorem dX8_ofWell_71 : decode cX8_ofWell 71 = .ok (.aload_n 0, 1) := by decide +kernel
theorem dX8_ofWell_72 : decode cX8_ofWell 72 = .ok (.iconst 3, 1) := by decide +kernel
theorem dX8_ofWell_73 : decode cX8_ofWell 73 = .ok (.iload_n 1, 1) := by decide +kernel
theorem dX8_ofWell_74 : decode cX8_ofWell 74 = .ok (.invokevirtual 87, 3) := by decide +kernel
theorem dX8_ofWell_77 : decode cX8_ofWell 77 = .ok (.ireturn, 1) := by decide +kernel
theorem dX8_ofWell_78 : decode cX8_ofWell 78 = .ok (.aload_n 0, 1) := by decide +kernel
theorem dX8_ofWell_79 : decode cX8_ofWell 79 = .ok (.iconst 2, 1) := by decide +kernel
theorem dX8_ofWell_80 : decode cX8_ofWell 80 = .ok (.iload_n 1, 1) := by decide +kernel
theorem dX8_ofWell_81 : decode cX8_ofWell 81 = .ok (.invokevirtual 87, 3) := by decide +kernel
theorem dX8_ofWell_84 : decode cX8_ofWell 84 = .ok (.ireturn, 1) := by decide +kernel
theorem dX8_ofWell_85 : decode cX8_ofWell 85 = .ok (.aload_n 0, 1) := by decide +kernel
theorem dX8_ofWell_86 : decode cX8_ofWell 86 = .ok (.iload_n 1, 1) := by decide +kernel
theorem dX8_ofWell_87 : decode cX8_ofWell 87 = .ok (.invokevirtual 90, 3) := by decide +kernel
theorem dX8_ofWell_90 : decode cX8_ofWell 90 = .ok (.ireturn, 1) := by decide +kernel
theorem dX8_rain_0 : decode cX8_rain 0 = .ok (.iload_n 1, 1) := by decide +kernel
theorem dX8_rain_1 : decode cX8_rain 1 = .ok (.i2l, 1) := by decide +kernel
theorem dX8_rain_2 : decode cX8_rain 2 = .ok (.lconst 0, 1) := by decide +kernel
theorem dX8_rain_3 : decode cX8_rain 3 = .ok (.ldc2_w 93, 3) := by decide +kernel
theorem dX8_rain_6 : decode cX8_rain 6 = .ok (.invokestatic 46, 3) := by decide +kernel
theorem dX8_rain_9 : decode cX8_rain 9 = .ok (.ifCond .eq 14, 3) := by decide +kernel
theorem dX8_rain_12 : decode cX8_rain 12 = .ok (.aload_n 0, 1) := by decide +kernel
theorem dX8_rain_13 : decode cX8_rain 13 = .ok (.sipush 136, 3) := by decide +kernel
theorem dX8_rain_16 : decode cX8_rain 16 = .ok (.iload_n 1, 1) := by decide +kernel
theorem dX8_rain_17 : decode cX8_rain 17 = .ok (.invokevirtual 64, 3) := by decide +kernel
theorem dX8_rain_20 : decode cX8_rain 20 = .ok (.goto 9, 3) := by decide +kernel
theorem dX8_rain_23 : decode cX8_rain 23 = .ok (.aload_n 0, 1) := by decide +kernel
theorem dX8_rain_24 : decode cX8_rain 24 = .ok (.ldc 67, 2) := by decide +kernel
theorem dX8_rain_26 : decode cX8_rain 26 = .ok (.invokevirtual 68, 3) := by decide +kernel
theorem dX8_rain_29 : decode cX8_rain 29 = .ok (.ireturn, 1) := by decide +kernel
theorem dX8_person_0 : decode cX8_person 0 = .ok (.iload_n 1, 1) := by decide +kernel
theorem dX8_person_1 : decode cX8_person 1 = .ok (.invokestatic 95, 3) := by decide +kernel
theorem dX8_person_4 : decode cX8_person 4 = .ok (.ifCond .eq 10, 3) := by decide +kernel
theorem dX8_person_7 : decode cX8_person 7 = .ok (.iload_n 2, 1) := by decide +kernel
theorem dX8_person_8 : decode cX8_person 8 = .ok (.invokestatic 58, 3) := by decide +kernel
theorem dX8_person_11 : decode cX8_person 11 = .ok (.ifCond .ne 10, 3) := by decide +kernel
theorem dX8_person_14 : decode cX8_person 14 = .ok (.aload_n 0, 1) := by decide +kernel
theorem dX8_person_15 : decode cX8_person 15 = .ok (.ldc 67, 2) := by decide +kernel
theorem dX8_person_17 : decode cX8_person 17 = .ok (.invokevirtual 68, 3) := by decide +kernel
theorem dX8_person_20 : decode cX8_person 20 = .ok (.ireturn, 1) := by decide +kernel
theorem dX8_person_21 : decode cX8_person 21 = .ok (.aload_n 0, 1) := by decide +kernel
theorem dX8_person_22 : decode cX8_person 22 = .ok (.getfield 7, 3) := by decide +kernel
theorem dX8_person_25 : decode cX8_person 25 = .ok (.sipush 139, 3) := by decide +kernel
theorem dX8_person_28 : decode cX8_person 28 = .ok (.iaload, 1) := by decide +kernel
theorem dX8_person_29 : decode cX8_person 29 = .ok (.bipush 6, 2) := by decide +kernel
theorem dX8_person_31 : decode cX8_person 31 = .ok (.if_icmp .ne 10, 3) := by decide +kernel
theorem dX8_person_34 : decode cX8_person 34 = .ok (.aload_n 0, 1) := by decide +kernel
theorem dX8_person_35 : decode cX8_person 35 = .ok (.ldc 98, 2) := by decide +kernel
theorem dX8_person_37 : decode cX8_person 37 = .ok (.invokevirtual 68, 3) := by decide +kernel
theorem dX8_person_40 : decode cX8_person 40 = .ok (.ireturn, 1) := by decide +kernel
theorem dX8_person_41 : decode cX8_person 41 = .ok (.aload_n 0, 1) := by decide +kernel
theorem dX8_person_42 : decode cX8_person 42 = .ok (.getfield 7, 3) := by decide +kernel
theorem dX8_person_45 : decode cX8_person 45 = .ok (.sipush 139, 3) := by decide +kernel
theorem dX8_person_48 : decode cX8_person 48 = .ok (.iaload, 1) := by decide +kernel
theorem dX8_person_49 : decode cX8_person 49 = .ok (.istore_n 3, 1) := by decide +kernel
theorem dX8_person_50 : decode cX8_person 50 = .ok (.aload_n 0, 1) := by decide +kernel
theorem dX8_person_51 : decode cX8_person 51 = .ok (.getfield 7, 3) := by decide +kernel
theorem dX8_person_54 : decode cX8_person 54 = .ok (.iload_n 3, 1) := by decide +kernel
theorem dX8_person_55 : decode cX8_person 55 = .ok (.iconst 0, 1) := by decide +kernel
theorem dX8_person_56 : decode cX8_person 56 = .ok (.invokestatic 54, 3) := by decide +kernel
theorem dX8_person_59 : decode cX8_person 59 = .ok (.iload_n 1, 1) := by decide +kernel
theorem dX8_person_60 : decode cX8_person 60 = .ok (.bipush 10, 2) := by decide +kernel
theorem dX8_person_62 : decode cX8_person 62 = .ok (.idiv, 1) := by decide +kernel
theorem dX8_person_63 : decode cX8_person 63 = .ok (.iastore, 1) := by decide +kernel
theorem dX8_person_64 : decode cX8_person 64 = .ok (.aload_n 0, 1) := by decide +kernel
theorem dX8_person_65 : decode cX8_person 65 = .ok (.getfield 7, 3) := by decide +kernel
theorem dX8_person_68 : decode cX8_person 68 = .ok (.iload_n 3, 1) := by decide +kernel
theorem dX8_person_69 : decode cX8_person 69 = .ok (.iconst 1, 1) := by decide +kernel
theorem dX8_person_70 : decode cX8_person 70 = .ok (.invokestatic 54, 3) := by decide +kernel
theorem dX8_person_73 : decode cX8_person 73 = .ok (.iload_n 1, 1) := by decide +kernel
theorem dX8_person_74 : decode cX8_person 74 = .ok (.bipush 10, 2) := by decide +kernel
theorem dX8_person_76 : decode cX8_person 76 = .ok (.irem, 1) := by decide +kernel
theorem dX8_person_77 : decode cX8_person 77 = .ok (.iastore, 1) := by decide +kernel
theorem dX8_person_78 : decode cX8_person 78 = .ok (.aload_n 0, 1) := by decide +kernel
theorem dX8_person_79 : decode cX8_person 79 = .ok (.getfield 7, 3) := by decide +kernel
theorem dX8_person_82 : decode cX8_person 82 = .ok (.iload_n 3, 1) := by decide +kernel
theorem dX8_person_83 : decode cX8_person 83 = .ok (.iconst 2, 1) := by decide +kernel
theorem dX8_person_84 : decode cX8_person 84 = .ok (.invokestatic 54, 3) := by decide +kernel
theorem dX8_person_87 : decode cX8_person 87 = .ok (.iload_n 2, 1) := by decide +kernel
theorem dX8_person_88 : decode cX8_person 88 = .ok (.iastore, 1) := by decide +kernel
theorem dX8_person_89 : decode cX8_person 89 = .ok (.aload_n 0, 1) := by decide +kernel
theorem dX8_person_90 : decode cX8_person 90 = .ok (.getfield 7, 3) := by decide +kernel
theorem dX8_person_93 : decode cX8_person 93 = .ok (.iload_n 3, 1) := by decide +kernel
theorem dX8_person_94 : decode cX8_person 94 = .ok (.iconst 3, 1) := by decide +kernel
theorem dX8_person_95 : decode cX8_person 95 = .ok (.invokestatic 54, 3) := by decide +kernel
theorem dX8_person_98 : decode cX8_person 98 = .ok (.iconst (-1), 1) := by decide +kernel
theorem dX8_person_99 : decode cX8_person 99 = .ok (.iastore, 1) := by decide +kernel
theorem dX8_person_100 : decode cX8_person 100 = .ok (.aload_n 0, 1) := by decide +kernel
theorem dX8_person_101 : decode cX8_person 101 = .ok (.getfield 7, 3) := by decide +kernel
theorem dX8_person_104 : decode cX8_person 104 = .ok (.iload_n 3, 1) := by decide +kernel
theorem dX8_person_105 : decode cX8_person 105 = .ok (.iconst 4, 1) := by decide +kernel
theorem dX8_person_106 : decode cX8_person 106 = .ok (.invokestatic 54, 3) := by decide +kernel
theorem dX8_person_109 : decode cX8_person 109 = .ok (.iconst 0, 1) := by decide +kernel
theorem dX8_person_110 : decode cX8_person 110 = .ok (.iastore, 1) := by decide +kernel
theorem dX8_person_111 : decode cX8_person 111 = .ok (.aload_n 0, 1) := by decide +kernel
theorem dX8_person_112 : decode cX8_person 112 = .ok (.getfield 7, 3) := by decide +kernel
theorem dX8_person_115 : decode cX8_person 115 = .ok (.iload_n 3, 1) := by decide +kernel
theorem dX8_person_116 : decode cX8_person 116 = .ok (.iconst 5, 1) := by decide +kernel
theorem dX8_person_117 : decode cX8_person 117 = .ok (.invokestatic 54, 3) := by decide +kernel
theorem dX8_person_120 : decode cX8_person 120 = .ok (.iconst 0, 1) := by decide +kernel
theorem dX8_person_121 : decode cX8_person 121 = .ok (.iastore, 1) := by decide +kernel
theorem dX8_person_122 : decode cX8_person 122 = .ok (.aload_n 0, 1) := by decide +kernel
theorem dX8_person_123 : decode cX8_person 123 = .ok (.getfield 7, 3) := by decide +kernel
theorem dX8_person_126 : decode cX8_person 126 = .ok (.sipush 139, 3) := by decide +kernel
theorem dX8_person_129 : decode cX8_person 129 = .ok (.dup2, 1) := by decide +kernel
theorem dX8_person_130 : decode cX8_person 130 = .ok (.iaload, 1) := by decide +kernel
theorem dX8_person_131 : decode cX8_person 131 = .ok (.iconst 1, 1) := by decide +kernel
theorem dX8_person_132 : decode cX8_person 132 = .ok (.iadd, 1) := by decide +kernel
theorem dX8_person_133 : decode cX8_person 133 = .ok (.iastore, 1) := by decide +kernel
theorem dX8_person_134 : decode cX8_person 134 = .ok (.iload_n 3, 1) := by decide +kernel
theorem dX8_person_135 : decode cX8_person 135 = .ok (.ireturn, 1) := by decide +kernel
theorem dX8_limitOf_0 : decode cX8_limitOf 0 = .ok (.aload_n 0, 1) := by decide +kernel
theorem dX8_limitOf_1 : decode cX8_limitOf 1 = .ok (.iload_n 1, 1) := by decide +kernel
theorem dX8_limitOf_2 : decode cX8_limitOf 2 = .ok (.iconst 1, 1) := by decide +kernel
theorem dX8_limitOf_3 : decode cX8_limitOf 3 = .ok (.invokevirtual 79, 3) := by decide +kernel
theorem dX8_limitOf_6 : decode cX8_limitOf 6 = .ok (.istore_n 2, 1) := by decide +kernel
theorem dX8_limitOf_7 : decode cX8_limitOf 7 = .ok (.aload_n 0, 1) := by decide +kernel
theorem dX8_limitOf_8 : decode cX8_limitOf 8 = .ok (.iload_n 1, 1) := by decide +kernel
theorem dX8_limitOf_9 : decode cX8_limitOf 9 = .ok (.iconst 0, 1) := by decide +kernel
theorem dX8_limitOf_10 : decode cX8_limitOf 10 = .ok (.invokevirtual 79, 3) := by decide +kernel
theorem dX8_limitOf_13 : decode cX8_limitOf 13 = .ok (.tableswitch 57 1 6 #[39, 44, 47, 39, 50, 47], 39) := by decide +kernel
theorem dX8_limitOf_52 : decode cX8_limitOf 52 = .ok (.bipush 12, 2) := by decide +kernel
theorem dX8_limitOf_54 : decode cX8_limitOf 54 = .ok (.iload_n 2, 1) := by decide +kernel
theorem dX8_limitOf_55 : decode cX8_limitOf 55 = .ok (.iadd, 1) := by decide +kernel
theorem dX8_limitOf_56 : decode cX8_limitOf 56 = .ok (.ireturn, 1) := by decide +kernel
theorem dX8_limitOf_57 : decode cX8_limitOf 57 = .ok (.bipush 8, 2) := by decide +kernel
theorem dX8_limitOf_59 : decode cX8_limitOf 59 = .ok (.ireturn, 1) := by decide +kernel
theorem dX8_limitOf_60 : decode cX8_limitOf 60 = .ok (.bipush 36, 2) := by decide +kernel
theorem dX8_limitOf_62 : decode cX8_limitOf 62 = .ok (.ireturn, 1) := by decide +kernel
theorem dX8_limitOf_63 : decode cX8_limitOf 63 = .ok (.bipush 8, 2) := by decide +kernel
theorem dX8_limitOf_65 : decode cX8_limitOf 65 = .ok (.iload_n 2, 1) := by decide +kernel
theorem dX8_limitOf_66 : decode cX8_limitOf 66 = .ok (.iconst 2, 1) := by decide +kernel
theorem dX8_limitOf_67 : decode cX8_limitOf 67 = .ok (.idiv, 1) := by decide +kernel
theorem dX8_limitOf_68 : decode cX8_limitOf 68 = .ok (.iadd, 1) := by decide +kernel
theorem dX8_limitOf_69 : decode cX8_limitOf 69 = .ok (.ireturn, 1) := by decide +kernel
theorem dX8_limitOf_70 : decode cX8_limitOf 70 = .ok (.bipush 12, 2) := by decide +kernel
theorem dX8_limitOf_72 : decode cX8_limitOf 72 = .ok (.ireturn, 1) := by decide +kernel
theorem dX8_needsOf_0 : decode cX8_needsOf 0 = .ok (.aload_n 0, 1) := by decide +kernel
theorem dX8_needsOf_1 : decode cX8_needsOf 1 = .ok (.iload_n 1, 1) := by decide +kernel
theorem dX8_needsOf_2 : decode cX8_needsOf 2 = .ok (.iconst 1, 1) := by decide +kernel
theorem dX8_needsOf_3 : decode cX8_needsOf 3 = .ok (.invokevirtual 79, 3) := by decide +kernel
theorem dX8_needsOf_6 : decode cX8_needsOf 6 = .ok (.istore_n 3, 1) := by decide +kernel
theorem dX8_needsOf_7 : decode cX8_needsOf 7 = .ok (.aload_n 0, 1) := by decide +kernel
theorem dX8_needsOf_8 : decode cX8_needsOf 8 = .ok (.iload_n 1, 1) := by decide +kernel
theorem dX8_needsOf_9 : decode cX8_needsOf 9 = .ok (.iconst 0, 1) := by decide +kernel
theorem dX8_needsOf_10 : decode cX8_needsOf 10 = .ok (.invokevirtual 79, 3) := by decide +kernel
theorem dX8_needsOf_13 : decode cX8_needsOf 13 = .ok (.lookupswitch 59 #[(3, 27), (6, 42)], 27) := by decide +kernel
theorem dX8_needsOf_40 : decode cX8_needsOf 40 = .ok (.aload_n 0, 1) := by decide +kernel
theorem dX8_needsOf_41 : decode cX8_needsOf 41 = .ok (.iload_n 3, 1) := by decide +kernel
theorem dX8_needsOf_42 : decode cX8_needsOf 42 = .ok (.iload_n 2, 1) := by decide +kernel
theorem dX8_needsOf_43 : decode cX8_needsOf 43 = .ok (.aload_n 0, 1) := by decide +kernel
theorem dX8_needsOf_44 : decode cX8_needsOf 44 = .ok (.getfield 7, 3) := by decide +kernel
theorem dX8_needsOf_47 : decode cX8_needsOf 47 = .ok (.sipush 138, 3) := by decide +kernel
theorem dX8_needsOf_50 : decode cX8_needsOf 50 = .ok (.iaload, 1) := by decide +kernel
theorem dX8_needsOf_51 : decode cX8_needsOf 51 = .ok (.invokevirtual 99, 3) := by decide +kernel
theorem dX8_needsOf_54 : decode cX8_needsOf 54 = .ok (.ireturn, 1) := by decide +kernel
theorem dX8_needsOf_55 : decode cX8_needsOf 55 = .ok (.aload_n 0, 1) := by decide +kernel
theorem dX8_needsOf_56 : decode cX8_needsOf 56 = .ok (.iload_n 3, 1) := by decide +kernel
theorem dX8_needsOf_57 : decode cX8_needsOf 57 = .ok (.iload_n 2, 1) := by decide +kernel
theorem dX8_needsOf_58 : decode cX8_needsOf 58 = .ok (.aload_n 0, 1) := by decide +kernel
theorem dX8_needsOf_59 : decode cX8_needsOf 59 = .ok (.getfield 7, 3) := by decide +kernel
theorem dX8_needsOf_62 : decode cX8_needsOf 62 = .ok (.sipush 138, 3) := by decide +kernel
theorem dX8_needsOf_65 : decode cX8_needsOf 65 = .ok (.iaload, 1) := by decide +kernel
theorem dX8_needsOf_66 : decode cX8_needsOf 66 = .ok (.invokevirtual 99, 3) := by decide +kernel
theorem dX8_needsOf_69 : decode cX8_needsOf 69 = .ok (.iload_n 3, 1) := by decide +kernel
theorem dX8_needsOf_70 : decode cX8_needsOf 70 = .ok (.iadd, 1) := by decide +kernel
theorem dX8_needsOf_71 : decode cX8_needsOf 71 = .ok (.ireturn, 1) := by decide +kernel
theorem dX8_needsOf_72 : decode cX8_needsOf 72 = .ok (.iconst 1, 1) := by decide +kernel
theorem dX8_needsOf_73 : decode cX8_needsOf 73 = .ok (.ireturn, 1) := by decide +kernel
theorem dX8_calledOf_0 : decode cX8_calledOf 0 = .ok (.aload_n 0, 1) := by decide +kernel
theorem dX8_calledOf_1 : decode cX8_calledOf 1 = .ok (.iload_n 1, 1) := by decide +kernel
theorem dX8_calledOf_2 : decode cX8_calledOf 2 = .ok (.iconst 3, 1) := by decide +kernel
theorem dX8_calledOf_3 : decode cX8_calledOf 3 = .ok (.invokevirtual 79, 3) := by decide +kernel
theorem dX8_calledOf_6 : decode cX8_calledOf 6 = .ok (.istore_n 3, 1) := by decide +kernel
theorem dX8_calledOf_7 : decode cX8_calledOf 7 = .ok (.aload_n 0, 1) := by decide +kernel
theorem dX8_calledOf_8 : decode cX8_calledOf 8 = .ok (.iload_n 1, 1) := by decide +kernel
theorem dX8_calledOf_9 : decode cX8_calledOf 9 = .ok (.iconst 0, 1) := by decide +kernel
theorem dX8_calledOf_10 : decode cX8_calledOf 10 = .ok (.invokevirtual 79, 3) := by decide +kernel
theorem dX8_calledOf_13 : decode cX8_calledOf 13 = .ok (.tableswitch 71 3 6 #[41, 31, 60, 41], 31) := by decide +kernel
theorem dX8_calledOf_44 : decode cX8_calledOf 44 = .ok (.iload_n 3, 1) := by decide +kernel
theorem dX8_calledOf_45 : decode cX8_calledOf 45 = .ok (.ifCond .ge 7, 3) := by decide +kernel
theorem dX8_calledOf_48 : decode cX8_calledOf 48 = .ok (.iload_n 2, 1) := by decide +kernel
theorem dX8_calledOf_49 : decode cX8_calledOf 49 = .ok (.goto 4, 3) := by decide +kernel
theorem dX8_calledOf_52 : decode cX8_calledOf 52 = .ok (.iload_n 3, 1) := by decide +kernel
theorem dX8_calledOf_53 : decode cX8_calledOf 53 = .ok (.ireturn, 1) := by decide +kernel
theorem dX8_calledOf_54 : decode cX8_calledOf 54 = .ok (.aload_n 0, 1) := by decide +kernel
theorem dX8_calledOf_55 : decode cX8_calledOf 55 = .ok (.getfield 7, 3) := by decide +kernel
theorem dX8_calledOf_58 : decode cX8_calledOf 58 = .ok (.sipush 137, 3) := by decide +kernel
theorem dX8_calledOf_61 : decode cX8_calledOf 61 = .ok (.iaload, 1) := by decide +kernel
theorem dX8_calledOf_62 : decode cX8_calledOf 62 = .ok (.iconst 2, 1) := by decide +kernel
theorem dX8_calledOf_63 : decode cX8_calledOf 63 = .ok (.irem, 1) := by decide +kernel
theorem dX8_calledOf_64 : decode cX8_calledOf 64 = .ok (.ifCond .ne 7, 3) := by decide +kernel
theorem dX8_calledOf_67 : decode cX8_calledOf 67 = .ok (.iload_n 2, 1) := by decide +kernel
theorem dX8_calledOf_68 : decode cX8_calledOf 68 = .ok (.goto 4, 3) := by decide +kernel
theorem dX8_calledOf_71 : decode cX8_calledOf 71 = .ok (.iload_n 3, 1) := by decide +kernel
theorem dX8_calledOf_72 : decode cX8_calledOf 72 = .ok (.ireturn, 1) := by decide +kernel
theorem dX8_calledOf_73 : decode cX8_calledOf 73 = .ok (.iload_n 3, 1) := by decide +kernel
theorem dX8_calledOf_74 : decode cX8_calledOf 74 = .ok (.iload_n 2, 1) := by decide +kernel
theorem dX8_calledOf_75 : decode cX8_calledOf 75 = .ok (.if_icmp .ne 7, 3) := by decide +kernel
theorem dX8_calledOf_78 : decode cX8_calledOf 78 = .ok (.iconst (-1), 1) := by decide +kernel
theorem dX8_calledOf_79 : decode cX8_calledOf 79 = .ok (.goto 4, 3) := by decide +kernel
theorem dX8_calledOf_82 : decode cX8_calledOf 82 = .ok (.iload_n 2, 1) := by decide +kernel
theorem dX8_calledOf_83 : decode cX8_calledOf 83 = .ok (.ireturn, 1) := by decide +kernel
theorem dX8_calledOf_84 : decode cX8_calledOf 84 = .ok (.iload_n 2, 1) := by decide +kernel
theorem dX8_calledOf_85 : decode cX8_calledOf 85 = .ok (.ireturn, 1) := by decide +kernel
theorem dX8_ofPerson_0 : decode cX8_ofPerson 0 = .ok (.aload_n 0, 1) := by decide +kernel
theorem dX8_ofPerson_1 : decode cX8_ofPerson 1 = .ok (.iload_n 1, 1) := by decide +kernel
theorem dX8_ofPerson_2 : decode cX8_ofPerson 2 = .ok (.invokevirtual 103, 3) := by decide +kernel
theorem dX8_ofPerson_5 : decode cX8_ofPerson 5 = .ok (.ifCond .eq 15, 3) := by decide +kernel
theorem dX8_ofPerson_8 : decode cX8_ofPerson 8 = .ok (.iload_n 2, 1) := by decide +kernel
theorem dX8_ofPerson_9 : decode cX8_ofPerson 9 = .ok (.i2l, 1) := by decide +kernel
theorem dX8_ofPerson_10 : decode cX8_ofPerson 10 = .ok (.lconst 0, 1) := by decide +kernel
theorem dX8_ofPerson_11 : decode cX8_ofPerson 11 = .ok (.ldc2_w 106, 3) := by decide +kernel
theorem dX8_ofPerson_14 : decode cX8_ofPerson 14 = .ok (.invokestatic 46, 3) := by decide +kernel
theorem dX8_ofPerson_17 : decode cX8_ofPerson 17 = .ok (.ifCond .ne 10, 3) := by decide +kernel
theorem dX8_ofPerson_20 : decode cX8_ofPerson 20 = .ok (.aload_n 0, 1) := by decide +kernel
theorem dX8_ofPerson_21 : decode cX8_ofPerson 21 = .ok (.ldc 67, 2) := by decide +kernel
theorem dX8_ofPerson_23 : decode cX8_ofPerson 23 = .ok (.invokevirtual 68, 3) := by decide +kernel
theorem dX8_ofPerson_26 : decode cX8_ofPerson 26 = .ok (.ireturn, 1) := by decide +kernel
theorem dX8_ofPerson_27 : decode cX8_ofPerson 27 = .ok (.iload_n 2, 1) := by decide +kernel
theorem dX8_ofPerson_28 : decode cX8_ofPerson 28 = .ok (.bipush 6, 2) := by decide +kernel
theorem dX8_ofPerson_30 : decode cX8_ofPerson 30 = .ok (.if_icmp .ge 12, 3) := by decide +kernel
theorem dX8_ofPerson_33 : decode cX8_ofPerson 33 = .ok (.aload_n 0, 1) := by decide +kernel
theorem dX8_ofPerson_34 : decode cX8_ofPerson 34 = .ok (.iload_n 1, 1) := by decide +kernel
theorem dX8_ofPerson_35 : decode cX8_ofPerson 35 = .ok (.iload_n 2, 1) := by decide +kernel
theorem dX8_ofPerson_36 : decode cX8_ofPerson 36 = .ok (.invokevirtual 79, 3) := by decide +kernel
theorem dX8_ofPerson_39 : decode cX8_ofPerson 39 = .ok (.goto 47, 3) := by decide +kernel
theorem dX8_ofPerson_42 : decode cX8_ofPerson 42 = .ok (.iload_n 2, 1) := by decide +kernel
theorem dX8_ofPerson_43 : decode cX8_ofPerson 43 = .ok (.bipush 6, 2) := by decide +kernel
theorem dX8_ofPerson_45 : decode cX8_ofPerson 45 = .ok (.if_icmp .ne 11, 3) := by decide +kernel
theorem dX8_ofPerson_48 : decode cX8_ofPerson 48 = .ok (.aload_n 0, 1) := by decide +kernel
theorem dX8_ofPerson_49 : decode cX8_ofPerson 49 = .ok (.iload_n 1, 1) := by decide +kernel
theorem dX8_ofPerson_50 : decode cX8_ofPerson 50 = .ok (.invokevirtual 108, 3) := by decide +kernel
theorem dX8_ofPerson_53 : decode cX8_ofPerson 53 = .ok (.goto 33, 3) := by decide +kernel
theorem dX8_ofPerson_56 : decode cX8_ofPerson 56 = .ok (.iload_n 2, 1) := by decide +kernel
theorem dX8_ofPerson_57 : decode cX8_ofPerson 57 = .ok (.bipush 7, 2) := by decide +kernel
theorem dX8_ofPerson_59 : decode cX8_ofPerson 59 = .ok (.if_icmp .ne 17, 3) := by decide +kernel
theorem dX8_ofPerson_62 : decode cX8_ofPerson 62 = .ok (.aload_n 0, 1) := by decide +kernel
theorem dX8_ofPerson_63 : decode cX8_ofPerson 63 = .ok (.iload_n 1, 1) := by decide +kernel
theorem dX8_ofPerson_64 : decode cX8_ofPerson 64 = .ok (.aload_n 0, 1) := by decide +kernel
theorem dX8_ofPerson_65 : decode cX8_ofPerson 65 = .ok (.iload_n 1, 1) := by decide +kernel
theorem dX8_ofPerson_66 : decode cX8_ofPerson 66 = .ok (.iconst 4, 1) := by decide +kernel
theorem dX8_ofPerson_67 : decode cX8_ofPerson 67 = .ok (.invokevirtual 79, 3) := by decide +kernel
theorem dX8_ofPerson_70 : decode cX8_ofPerson 70 = .ok (.invokevirtual 111, 3) := by decide +kernel
theorem dX8_ofPerson_73 : decode cX8_ofPerson 73 = .ok (.goto 13, 3) := by decide +kernel
theorem dX8_ofPerson_76 : decode cX8_ofPerson 76 = .ok (.aload_n 0, 1) := by decide +kernel
theorem dX8_ofPerson_77 : decode cX8_ofPerson 77 = .ok (.aload_n 0, 1) := by decide +kernel
theorem dX8_ofPerson_78 : decode cX8_ofPerson 78 = .ok (.iload_n 1, 1) := by decide +kernel
theorem dX8_ofPerson_79 : decode cX8_ofPerson 79 = .ok (.iconst 3, 1) := by decide +kernel
theorem dX8_ofPerson_80 : decode cX8_ofPerson 80 = .ok (.invokevirtual 79, 3) := by decide +kernel
theorem dX8_ofPerson_83 : decode cX8_ofPerson 83 = .ok (.invokevirtual 90, 3) := by decide +kernel
theorem dX8_ofPerson_86 : decode cX8_ofPerson 86 = .ok (.ireturn, 1) := by decide +kernel
theorem dX8_become_0 : decode cX8_become 0 = .ok (.aload_n 0, 1) := by decide +kernel
theorem dX8_become_1 : decode cX8_become 1 = .ok (.iload_n 1, 1) := by decide +kernel
theorem dX8_become_2 : decode cX8_become 2 = .ok (.invokevirtual 103, 3) := by decide +kernel
theorem dX8_become_5 : decode cX8_become 5 = .ok (.ifCond .eq 10, 3) := by decide +kernel
theorem dX8_become_8 : decode cX8_become 8 = .ok (.iload_n 2, 1) := by decide +kernel
theorem dX8_become_9 : decode cX8_become 9 = .ok (.invokestatic 95, 3) := by decide +kernel
theorem dX8_become_12 : decode cX8_become 12 = .ok (.ifCond .ne 10, 3) := by decide +kernel
theorem dX8_become_15 : decode cX8_become 15 = .ok (.aload_n 0, 1) := by decide +kernel
theorem dX8_become_16 : decode cX8_become 16 = .ok (.ldc 67, 2) := by decide +kernel
theorem dX8_become_18 : decode cX8_become 18 = .ok (.invokevirtual 68, 3) := by decide +kernel
theorem dX8_become_21 : decode cX8_become 21 = .ok (.ireturn, 1) := by decide +kernel
theorem dX8_become_22 : decode cX8_become 22 = .ok (.aload_n 0, 1) := by decide +kernel
theorem dX8_become_23 : decode cX8_become 23 = .ok (.getfield 7, 3) := by decide +kernel
theorem dX8_become_26 : decode cX8_become 26 = .ok (.iload_n 1, 1) := by decide +kernel
theorem dX8_become_27 : decode cX8_become 27 = .ok (.iconst 1, 1) := by decide +kernel
theorem dX8_become_28 : decode cX8_become 28 = .ok (.invokestatic 54, 3) := by decide +kernel
theorem dX8_become_31 : decode cX8_become 31 = .ok (.iload_n 2, 1) := by decide +kernel
theorem dX8_become_32 : decode cX8_become 32 = .ok (.bipush 10, 2) := by decide +kernel
theorem dX8_become_34 : decode cX8_become 34 = .ok (.irem, 1) := by decide +kernel
theorem dX8_become_35 : decode cX8_become 35 = .ok (.iastore, 1) := by decide +kernel
theorem dX8_become_36 : decode cX8_become 36 = .ok (.aload_n 0, 1) := by decide +kernel
theorem dX8_become_37 : decode cX8_become 37 = .ok (.iload_n 1, 1) := by decide +kernel
theorem dX8_become_38 : decode cX8_become 38 = .ok (.iconst 0, 1) := by decide +kernel
theorem dX8_become_39 : decode cX8_become 39 = .ok (.invokestatic 54, 3) := by decide +kernel
theorem dX8_become_42 : decode cX8_become 42 = .ok (.iload_n 2, 1) := by decide +kernel
theorem dX8_become_43 : decode cX8_become 43 = .ok (.bipush 10, 2) := by decide +kernel
theorem dX8_become_45 : decode cX8_become 45 = .ok (.idiv, 1) := by decide +kernel
theorem dX8_become_46 : decode cX8_become 46 = .ok (.invokevirtual 64, 3) := by decide +kernel
theorem dX8_become_49 : decode cX8_become 49 = .ok (.ireturn, 1) := by decide +kernel
theorem dX8_isUnder_0 : decode cX8_isUnder 0 = .ok (.iload_n 1, 1) := by decide +kernel
theorem dX8_isUnder_1 : decode cX8_isUnder 1 = .ok (.ifCond .eq 20, 3) := by decide +kernel
theorem dX8_isUnder_4 : decode cX8_isUnder 4 = .ok (.iload_n 0, 1) := by decide +kernel
theorem dX8_isUnder_5 : decode cX8_isUnder 5 = .ok (.iload_n 1, 1) := by decide +kernel
theorem dX8_isUnder_6 : decode cX8_isUnder 6 = .ok (.if_icmp .eq 15, 3) := by decide +kernel
theorem dX8_isUnder_9 : decode cX8_isUnder 9 = .ok (.iload_n 0, 1) := by decide +kernel
theorem dX8_isUnder_10 : decode cX8_isUnder 10 = .ok (.iconst 3, 1) := by decide +kernel
theorem dX8_isUnder_11 : decode cX8_isUnder 11 = .ok (.if_icmp .le 14, 3) := by decide +kernel
theorem dX8_isUnder_14 : decode cX8_isUnder 14 = .ok (.iload_n 0, 1) := by decide +kernel
theorem dX8_isUnder_15 : decode cX8_isUnder 15 = .ok (.iconst 3, 1) := by decide +kernel
theorem dX8_isUnder_16 : decode cX8_isUnder 16 = .ok (.isub, 1) := by decide +kernel
theorem dX8_isUnder_17 : decode cX8_isUnder 17 = .ok (.iload_n 1, 1) := by decide +kernel
theorem dX8_isUnder_18 : decode cX8_isUnder 18 = .ok (.if_icmp .ne 7, 3) := by decide +kernel
theorem dX8_isUnder_21 : decode cX8_isUnder 21 = .ok (.iconst 1, 1) := by decide +kernel
theorem dX8_isUnder_22 : decode cX8_isUnder 22 = .ok (.goto 4, 3) := by decide +kernel
theorem dX8_isUnder_25 : decode cX8_isUnder 25 = .ok (.iconst 0, 1) := by decide +kernel
theorem dX8_isUnder_26 : decode cX8_isUnder 26 = .ok (.ireturn, 1) := by decide +kernel
theorem dX8_as_0 : decode cX8_as 0 = .ok (.aload_n 0, 1) := by decide +kernel
theorem dX8_as_1 : decode cX8_as 1 = .ok (.iload_n 1, 1) := by decide +kernel
theorem dX8_as_2 : decode cX8_as 2 = .ok (.invokevirtual 103, 3) := by decide +kernel
theorem dX8_as_5 : decode cX8_as 5 = .ok (.ifCond .eq 15, 3) := by decide +kernel
theorem dX8_as_8 : decode cX8_as 8 = .ok (.iload_n 2, 1) := by decide +kernel
theorem dX8_as_9 : decode cX8_as 9 = .ok (.i2l, 1) := by decide +kernel
theorem dX8_as_10 : decode cX8_as 10 = .ok (.lconst 0, 1) := by decide +kernel
theorem dX8_as_11 : decode cX8_as 11 = .ok (.ldc2_w 114, 3) := by decide +kernel
theorem dX8_as_14 : decode cX8_as 14 = .ok (.invokestatic 46, 3) := by decide +kernel
theorem dX8_as_17 : decode cX8_as 17 = .ok (.ifCond .ne 10, 3) := by decide +kernel
theorem dX8_as_20 : decode cX8_as 20 = .ok (.aload_n 0, 1) := by decide +kernel
theorem dX8_as_21 : decode cX8_as 21 = .ok (.ldc 67, 2) := by decide +kernel
theorem dX8_as_23 : decode cX8_as 23 = .ok (.invokevirtual 68, 3) := by decide +kernel
theorem dX8_as_26 : decode cX8_as 26 = .ok (.ireturn, 1) := by decide +kernel
theorem dX8_as_27 : decode cX8_as 27 = .ok (.aload_n 0, 1) := by decide +kernel
theorem dX8_as_28 : decode cX8_as 28 = .ok (.iload_n 1, 1) := by decide +kernel
theorem dX8_as_29 : decode cX8_as 29 = .ok (.iconst 0, 1) := by decide +kernel
theorem dX8_as_30 : decode cX8_as 30 = .ok (.invokevirtual 79, 3) := by decide +kernel
theorem dX8_as_33 : decode cX8_as 33 = .ok (.iload_n 2, 1) := by decide +kernel
theorem dX8_as_34 : decode cX8_as 34 = .ok (.invokestatic 116, 3) := by decide +kernel
theorem dX8_as_37 : decode cX8_as 37 = .ok (.ifCond .eq 12, 3) := by decide +kernel
theorem dX8_as_40 : decode cX8_as 40 = .ok (.aload_n 0, 1) := by decide +kernel
theorem dX8_as_41 : decode cX8_as 41 = .ok (.iload_n 1, 1) := by decide +kernel
theorem dX8_as_42 : decode cX8_as 42 = .ok (.iconst 1, 1) := by decide +kernel
theorem dX8_as_43 : decode cX8_as 43 = .ok (.invokevirtual 79, 3) := by decide +kernel
theorem dX8_as_46 : decode cX8_as 46 = .ok (.goto 9, 3) := by decide +kernel
theorem dX8_as_49 : decode cX8_as 49 = .ok (.aload_n 0, 1) := by decide +kernel
theorem dX8_as_50 : decode cX8_as 50 = .ok (.ldc 120, 2) := by decide +kernel
theorem dX8_as_52 : decode cX8_as 52 = .ok (.invokevirtual 68, 3) := by decide +kernel
theorem dX8_as_55 : decode cX8_as 55 = .ok (.ireturn, 1) := by decide +kernel
theorem dX8_feed_0 : decode cX8_feed 0 = .ok (.iload_n 3, 1) := by decide +kernel
theorem dX8_feed_1 : decode cX8_feed 1 = .ok (.i2l, 1) := by decide +kernel
theorem dX8_feed_2 : decode cX8_feed 2 = .ok (.lconst 1, 1) := by decide +kernel
theorem dX8_feed_3 : decode cX8_feed 3 = .ok (.ldc2_w 106, 3) := by decide +kernel
theorem dX8_feed_6 : decode cX8_feed 6 = .ok (.invokestatic 46, 3) := by decide +kernel
theorem dX8_feed_9 : decode cX8_feed 9 = .ok (.ifCond .ne 10, 3) := by decide +kernel
theorem dX8_feed_12 : decode cX8_feed 12 = .ok (.aload_n 0, 1) := by decide +kernel
theorem dX8_feed_13 : decode cX8_feed 13 = .ok (.ldc 67, 2) := by decide +kernel
theorem dX8_feed_15 : decode cX8_feed 15 = .ok (.invokevirtual 68, 3) := by decide +kernel
theorem dX8_feed_18 : decode cX8_feed 18 = .ok (.ireturn, 1) := by decide +kernel
theorem dX8_feed_19 : decode cX8_feed 19 = .ok (.aload_n 0, 1) := by decide +kernel
theorem dX8_feed_20 : decode cX8_feed 20 = .ok (.getfield 7, 3) := by decide +kernel
theorem dX8_feed_23 : decode cX8_feed 23 = .ok (.sipush 177, 3) := by decide +kernel
theorem dX8_feed_26 : decode cX8_feed 26 = .ok (.iaload, 1) := by decide +kernel
theorem dX8_feed_27 : decode cX8_feed 27 = .ok (.iload_n 3, 1) := by decide +kernel
theorem dX8_feed_28 : decode cX8_feed 28 = .ok (.iadd, 1) := by decide +kernel
theorem dX8_feed_29 : decode cX8_feed 29 = .ok (.bipush 50, 2) := by decide +kernel
theorem dX8_feed_31 : decode cX8_feed 31 = .ok (.if_icmp .le 10, 3) := by decide +kernel
theorem dX8_feed_34 : decode cX8_feed 34 = .ok (.aload_n 0, 1) := by decide +kernel
theorem dX8_feed_35 : decode cX8_feed 35 = .ok (.ldc 98, 2) := by decide +kernel
theorem dX8_feed_37 : decode cX8_feed 37 = .ok (.invokevirtual 68, 3) := by decide +kernel
theorem dX8_feed_40 : decode cX8_feed 40 = .ok (.ireturn, 1) := by decide +kernel
theorem dX8_feed_41 : decode cX8_feed 41 = .ok (.iconst 0, 1) := by decide +kernel
theorem dX8_feed_42 : decode cX8_feed 42 = .ok (.istore 4, 2) := by decide +kernel
theorem dX8_feed_44 : decode cX8_feed 44 = .ok (.iload 4, 2) := by decide +kernel
theorem dX8_feed_46 : decode cX8_feed 46 = .ok (.iload_n 3, 1) := by decide +kernel
theorem dX8_feed_47 : decode cX8_feed 47 = .ok (.if_icmp .ge 50, 3) := by decide +kernel
theorem dX8_feed_50 : decode cX8_feed 50 = .ok (.aload_n 0, 1) := by decide +kernel
theorem dX8_feed_51 : decode cX8_feed 51 = .ok (.getfield 7, 3) := by decide +kernel
theorem dX8_feed_54 : decode cX8_feed 54 = .ok (.sipush 181, 3) := by decide +kernel
theorem dX8_feed_57 : decode cX8_feed 57 = .ok (.aload_n 0, 1) := by decide +kernel
theorem dX8_feed_58 : decode cX8_feed 58 = .ok (.getfield 7, 3) := by decide +kernel
theorem dX8_feed_61 : decode cX8_feed 61 = .ok (.sipush 177, 3) := by decide +kernel
theorem dX8_feed_64 : decode cX8_feed 64 = .ok (.iaload, 1) := by decide +kernel
theorem dX8_feed_65 : decode cX8_feed 65 = .ok (.iadd, 1) := by decide +kernel
theorem dX8_feed_66 : decode cX8_feed 66 = .ok (.lload_n 1, 1) := by decide +kernel
theorem dX8_feed_67 : decode cX8_feed 67 = .ok (.bipush 8, 2) := by decide +kernel
theorem dX8_feed_69 : decode cX8_feed 69 = .ok (.iload 4, 2) := by decide +kernel
theorem dX8_feed_71 : decode cX8_feed 71 = .ok (.imul, 1) := by decide +kernel
theorem dX8_feed_72 : decode cX8_feed 72 = .ok (.lshr, 1) := by decide +kernel
theorem dX8_feed_73 : decode cX8_feed 73 = .ok (.ldc2_w 50, 3) := by decide +kernel
theorem dX8_feed_76 : decode cX8_feed 76 = .ok (.land, 1) := by decide +kernel
theorem dX8_feed_77 : decode cX8_feed 77 = .ok (.l2i, 1) := by decide +kernel
theorem dX8_feed_78 : decode cX8_feed 78 = .ok (.iastore, 1) := by decide +kernel
theorem dX8_feed_79 : decode cX8_feed 79 = .ok (.aload_n 0, 1) := by decide +kernel
theorem dX8_feed_80 : decode cX8_feed 80 = .ok (.getfield 7, 3) := by decide +kernel
theorem dX8_feed_83 : decode cX8_feed 83 = .ok (.sipush 177, 3) := by decide +kernel
theorem dX8_feed_86 : decode cX8_feed 86 = .ok (.dup2, 1) := by decide +kernel
theorem dX8_feed_87 : decode cX8_feed 87 = .ok (.iaload, 1) := by decide +kernel
theorem dX8_feed_88 : decode cX8_feed 88 = .ok (.iconst 1, 1) := by decide +kernel
theorem dX8_feed_89 : decode cX8_feed 89 = .ok (.iadd, 1) := by decide +kernel
theorem dX8_feed_90 : decode cX8_feed 90 = .ok (.iastore, 1) := by decide +kernel
theorem dX8_feed_91 : decode cX8_feed 91 = .ok (.iinc 4 1, 3) := by decide +kernel
theorem dX8_feed_94 : decode cX8_feed 94 = .ok (.goto (-50), 3) := by decide +kernel
theorem dX8_feed_97 : decode cX8_feed 97 = .ok (.aload_n 0, 1) := by decide +kernel
theorem dX8_feed_98 : decode cX8_feed 98 = .ok (.getfield 7, 3) := by decide +kernel
theorem dX8_feed_101 : decode cX8_feed 101 = .ok (.sipush 177, 3) := by decide +kernel
theorem dX8_feed_104 : decode cX8_feed 104 = .ok (.iaload, 1) := by decide +kernel
theorem dX8_feed_105 : decode cX8_feed 105 = .ok (.ireturn, 1) := by decide +kernel
theorem dX8_here_0 : decode cX8_here 0 = .ok (.aload_n 0, 1) := by decide +kernel
theorem dX8_here_1 : decode cX8_here 1 = .ok (.getfield 121, 3) := by decide +kernel
theorem dX8_here_4 : decode cX8_here 4 = .ok (.aload_n 0, 1) := by decide +kernel
theorem dX8_here_5 : decode cX8_here 5 = .ok (.getfield 125, 3) := by decide +kernel
theorem dX8_here_8 : decode cX8_here 8 = .ok (.if_icmp .ge 27, 3) := by decide +kernel
theorem dX8_here_11 : decode cX8_here 11 = .ok (.aload_n 0, 1) := by decide +kernel
theorem dX8_here_12 : decode cX8_here 12 = .ok (.getfield 128, 3) := by decide +kernel
theorem dX8_here_15 : decode cX8_here 15 = .ok (.ifCond .ne 20, 3) := by decide +kernel
theorem dX8_here_18 : decode cX8_here 18 = .ok (.aload_n 0, 1) := by decide +kernel
theorem dX8_here_19 : decode cX8_here 19 = .ok (.getfield 7, 3) := by decide +kernel
theorem dX8_here_22 : decode cX8_here 22 = .ok (.aload_n 0, 1) := by decide +kernel
theorem dX8_here_23 : decode cX8_here 23 = .ok (.getfield 132, 3) := by decide +kernel
theorem dX8_here_26 : decode cX8_here 26 = .ok (.aload_n 0, 1) := by decide +kernel
theorem dX8_here_27 : decode cX8_here 27 = .ok (.getfield 121, 3) := by decide +kernel
theorem dX8_here_30 : decode cX8_here 30 = .ok (.iadd, 1) := by decide +kernel
theorem dX8_here_31 : decode cX8_here 31 = .ok (.iaload, 1) := by decide +kernel
theorem dX8_here_32 : decode cX8_here 32 = .ok (.goto 4, 3) := by decide +kernel
theorem dX8_here_35 : decode cX8_here 35 = .ok (.iconst (-1), 1) := by decide +kernel
theorem dX8_here_36 : decode cX8_here 36 = .ok (.ireturn, 1) := by decide +kernel
theorem dX8_takes_0 : decode cX8_takes 0 = .ok (.aload_n 0, 1) := by decide +kernel
theorem dX8_takes_1 : decode cX8_takes 1 = .ok (.invokevirtual 135, 3) := by decide +kernel
theorem dX8_takes_4 : decode cX8_takes 4 = .ok (.iload_n 1, 1) := by decide +kernel
theorem dX8_takes_5 : decode cX8_takes 5 = .ok (.if_icmp .ne 7, 3) := by decide +kernel
theorem dX8_takes_8 : decode cX8_takes 8 = .ok (.iconst 1, 1) := by decide +kernel
theorem dX8_takes_9 : decode cX8_takes 9 = .ok (.goto 4, 3) := by decide +kernel
theorem dX8_takes_12 : decode cX8_takes 12 = .ok (.iconst 0, 1) := by decide +kernel
theorem dX8_takes_13 : decode cX8_takes 13 = .ok (.istore_n 2, 1) := by decide +kernel
theorem dX8_takes_14 : decode cX8_takes 14 = .ok (.aload_n 0, 1) := by decide +kernel
theorem dX8_takes_15 : decode cX8_takes 15 = .ok (.dup, 1) := by decide +kernel
theorem dX8_takes_16 : decode cX8_takes 16 = .ok (.getfield 121, 3) := by decide +kernel
theorem dX8_takes_19 : decode cX8_takes 19 = .ok (.iload_n 2, 1) := by decide +kernel
theorem dX8_takes_20 : decode cX8_takes 20 = .ok (.ifCond .eq 7, 3) := by decide +kernel
theorem dX8_takes_23 : decode cX8_takes 23 = .ok (.iconst 1, 1) := by decide +kernel
theorem dX8_takes_24 : decode cX8_takes 24 = .ok (.goto 4, 3) := by decide +kernel
theorem dX8_takes_27 : decode cX8_takes 27 = .ok (.iconst 0, 1) := by decide +kernel
theorem dX8_takes_28 : decode cX8_takes 28 = .ok (.iadd, 1) := by decide +kernel
theorem dX8_takes_29 : decode cX8_takes 29 = .ok (.putfield 121, 3) := by decide +kernel
theorem dX8_takes_32 : decode cX8_takes 32 = .ok (.iload_n 2, 1) := by decide +kernel
theorem dX8_takes_33 : decode cX8_takes 33 = .ok (.ireturn, 1) := by decide +kernel
theorem dX8_name_0 : decode cX8_name 0 = .ok (.aload_n 0, 1) := by decide +kernel
theorem dX8_name_1 : decode cX8_name 1 = .ok (.getfield 139, 3) := by decide +kernel
theorem dX8_name_4 : decode cX8_name 4 = .ok (.ifCond .ne 35, 3) := by decide +kernel
theorem dX8_name_7 : decode cX8_name 7 = .ok (.iload_n 1, 1) := by decide +kernel
theorem dX8_name_8 : decode cX8_name 8 = .ok (.bipush 109, 2) := by decide +kernel
theorem dX8_name_10 : decode cX8_name 10 = .ok (.if_icmp .ne 7, 3) := by decide +kernel
theorem dX8_name_13 : decode cX8_name 13 = .ok (.iconst 1, 1) := by decide +kernel
theorem dX8_name_14 : decode cX8_name 14 = .ok (.goto 24, 3) := by decide +kernel
theorem dX8_name_17 : decode cX8_name 17 = .ok (.iload_n 1, 1) := by decide +kernel
theorem dX8_name_18 : decode cX8_name 18 = .ok (.bipush 116, 2) := by decide +kernel
theorem dX8_name_20 : decode cX8_name 20 = .ok (.if_icmp .ne 7, 3) := by decide +kernel
theorem dX8_name_23 : decode cX8_name 23 = .ok (.iconst 2, 1) := by decide +kernel
theorem dX8_name_24 : decode cX8_name 24 = .ok (.goto 14, 3) := by decide +kernel
theorem dX8_name_27 : decode cX8_name 27 = .ok (.iload_n 1, 1) := by decide +kernel
theorem dX8_name_28 : decode cX8_name 28 = .ok (.bipush 100, 2) := by decide +kernel
theorem dX8_name_30 : decode cX8_name 30 = .ok (.if_icmp .ne 7, 3) := by decide +kernel
theorem dX8_name_33 : decode cX8_name 33 = .ok (.iconst 3, 1) := by decide +kernel
theorem dX8_name_34 : decode cX8_name 34 = .ok (.goto 4, 3) := by decide +kernel
theorem dX8_name_37 : decode cX8_name 37 = .ok (.iconst 0, 1) := by decide +kernel
theorem dX8_name_38 : decode cX8_name 38 = .ok (.ireturn, 1) := by decide +kernel
theorem dX8_name_39 : decode cX8_name 39 = .ok (.iload_n 1, 1) := by decide +kernel
theorem dX8_name_40 : decode cX8_name 40 = .ok (.bipush 108, 2) := by decide +kernel
theorem dX8_name_42 : decode cX8_name 42 = .ok (.if_icmp .ne 7, 3) := by decide +kernel
theorem dX8_name_45 : decode cX8_name 45 = .ok (.iconst 1, 1) := by decide +kernel
theorem dX8_name_46 : decode cX8_name 46 = .ok (.goto 24, 3) := by decide +kernel
theorem dX8_name_49 : decode cX8_name 49 = .ok (.iload_n 1, 1) := by decide +kernel
theorem dX8_name_50 : decode cX8_name 50 = .ok (.bipush 109, 2) := by decide +kernel
theorem dX8_name_52 : decode cX8_name 52 = .ok (.if_icmp .ne 7, 3) := by decide +kernel
theorem dX8_name_55 : decode cX8_name 55 = .ok (.iconst 2, 1) := by decide +kernel
theorem dX8_name_56 : decode cX8_name 56 = .ok (.goto 14, 3) := by decide +kernel
theorem dX8_name_59 : decode cX8_name 59 = .ok (.iload_n 1, 1) := by decide +kernel
theorem dX8_name_60 : decode cX8_name 60 = .ok (.bipush 100, 2) := by decide +kernel
theorem dX8_name_62 : decode cX8_name 62 = .ok (.if_icmp .ne 7, 3) := by decide +kernel
theorem dX8_name_65 : decode cX8_name 65 = .ok (.iconst 3, 1) := by decide +kernel
theorem dX8_name_66 : decode cX8_name 66 = .ok (.goto 4, 3) := by decide +kernel
theorem dX8_name_69 : decode cX8_name 69 = .ok (.iconst 0, 1) := by decide +kernel
theorem dX8_name_70 : decode cX8_name 70 = .ok (.ireturn, 1) := by decide +kernel
theorem dX8_isDigit_0 : decode cX8_isDigit 0 = .ok (.iload_n 0, 1) := by decide +kernel
theorem dX8_isDigit_1 : decode cX8_isDigit 1 = .ok (.i2l, 1) := by decide +kernel
theorem dX8_isDigit_2 : decode cX8_isDigit 2 = .ok (.ldc2_w 142, 3) := by decide +kernel
theorem dX8_isDigit_5 : decode cX8_isDigit 5 = .ok (.ldc2_w 144, 3) := by decide +kernel
theorem dX8_isDigit_8 : decode cX8_isDigit 8 = .ok (.invokestatic 46, 3) := by decide +kernel
theorem dX8_isDigit_11 : decode cX8_isDigit 11 = .ok (.ireturn, 1) := by decide +kernel
theorem dX8_single_0 : decode cX8_single 0 = .ok (.aload_n 0, 1) := by decide +kernel
theorem dX8_single_1 : decode cX8_single 1 = .ok (.invokevirtual 135, 3) := by decide +kernel
theorem dX8_single_4 : decode cX8_single 4 = .ok (.istore_n 1, 1) := by decide +kernel
theorem dX8_single_5 : decode cX8_single 5 = .ok (.iconst 0, 1) := by decide +kernel
theorem dX8_single_6 : decode cX8_single 6 = .ok (.istore_n 2, 1) := by decide +kernel
theorem dX8_single_7 : decode cX8_single 7 = .ok (.iload_n 1, 1) := by decide +kernel
theorem dX8_single_8 : decode cX8_single 8 = .ok (.invokestatic 146, 3) := by decide +kernel
theorem dX8_single_11 : decode cX8_single 11 = .ok (.ifCond .eq 52, 3) := by decide +kernel
theorem dX8_single_14 : decode cX8_single 14 = .ok (.iconst 0, 1) := by decide +kernel
theorem dX8_single_15 : decode cX8_single 15 = .ok (.istore_n 3, 1) := by decide +kernel
theorem dX8_single_16 : decode cX8_single 16 = .ok (.iload_n 3, 1) := by decide +kernel
theorem dX8_single_17 : decode cX8_single 17 = .ok (.iconst 4, 1) := by decide +kernel
theorem dX8_single_18 : decode cX8_single 18 = .ok (.if_icmp .ge 42, 3) := by decide +kernel
theorem dX8_single_21 : decode cX8_single 21 = .ok (.aload_n 0, 1) := by decide +kernel
theorem dX8_single_22 : decode cX8_single 22 = .ok (.invokevirtual 135, 3) := by decide +kernel
theorem dX8_single_25 : decode cX8_single 25 = .ok (.invokestatic 146, 3) := by decide +kernel
theorem dX8_single_28 : decode cX8_single 28 = .ok (.ifCond .eq 32, 3) := by decide +kernel
theorem dX8_single_31 : decode cX8_single 31 = .ok (.bipush 10, 2) := by decide +kernel
theorem dX8_single_33 : decode cX8_single 33 = .ok (.iload_n 2, 1) := by decide +kernel
theorem dX8_single_34 : decode cX8_single 34 = .ok (.imul, 1) := by decide +kernel
theorem dX8_single_35 : decode cX8_single 35 = .ok (.aload_n 0, 1) := by decide +kernel
theorem dX8_single_36 : decode cX8_single 36 = .ok (.invokevirtual 135, 3) := by decide +kernel
theorem dX8_single_39 : decode cX8_single 39 = .ok (.iadd, 1) := by decide +kernel
theorem dX8_single_40 : decode cX8_single 40 = .ok (.bipush 48, 2) := by decide +kernel
theorem dX8_single_42 : decode cX8_single 42 = .ok (.isub, 1) := by decide +kernel
theorem dX8_single_43 : decode cX8_single 43 = .ok (.istore_n 2, 1) := by decide +kernel
theorem dX8_single_44 : decode cX8_single 44 = .ok (.aload_n 0, 1) := by decide +kernel
theorem dX8_single_45 : decode cX8_single 45 = .ok (.dup, 1) := by decide +kernel
theorem dX8_single_46 : decode cX8_single 46 = .ok (.getfield 121, 3) := by decide +kernel
theorem dX8_single_49 : decode cX8_single 49 = .ok (.iconst 1, 1) := by decide +kernel
theorem dX8_single_50 : decode cX8_single 50 = .ok (.iadd, 1) := by decide +kernel
theorem dX8_single_51 : decode cX8_single 51 = .ok (.putfield 121, 3) := by decide +kernel
theorem dX8_single_54 : decode cX8_single 54 = .ok (.iinc 3 1, 3) := by decide +kernel
theorem dX8_single_57 : decode cX8_single 57 = .ok (.goto (-41), 3) := by decide +kernel
theorem dX8_single_60 : decode cX8_single 60 = .ok (.goto 190, 3) := by decide +kernel
theorem dX8_single_63 : decode cX8_single 63 = .ok (.aload_n 0, 1) := by decide +kernel
theorem dX8_single_64 : decode cX8_single 64 = .ok (.iload_n 1, 1) := by decide +kernel
theorem dX8_single_65 : decode cX8_single 65 = .ok (.invokevirtual 149, 3) := by decide +kernel
theorem dX8_single_68 : decode cX8_single 68 = .ok (.ifCond .le 53, 3) := by decide +kernel
theorem dX8_single_71 : decode cX8_single 71 = .ok (.aload_n 0, 1) := by decide +kernel
theorem dX8_single_72 : decode cX8_single 72 = .ok (.dup, 1) := by decide +kernel
theorem dX8_single_73 : decode cX8_single 73 = .ok (.getfield 121, 3) := by decide +kernel
theorem dX8_single_76 : decode cX8_single 76 = .ok (.iconst 1, 1) := by decide +kernel
theorem dX8_single_77 : decode cX8_single 77 = .ok (.iadd, 1) := by decide +kernel
theorem dX8_single_78 : decode cX8_single 78 = .ok (.putfield 121, 3) := by decide +kernel
theorem dX8_single_81 : decode cX8_single 81 = .ok (.aload_n 0, 1) := by decide +kernel
theorem dX8_single_82 : decode cX8_single 82 = .ok (.iload_n 1, 1) := by decide +kernel
theorem dX8_single_83 : decode cX8_single 83 = .ok (.invokevirtual 149, 3) := by decide +kernel
theorem dX8_single_86 : decode cX8_single 86 = .ok (.iconst 1, 1) := by decide +kernel
theorem dX8_single_87 : decode cX8_single 87 = .ok (.if_icmp .ne 10, 3) := by decide +kernel
theorem dX8_single_90 : decode cX8_single 90 = .ok (.aload_n 0, 1) := by decide +kernel
theorem dX8_single_91 : decode cX8_single 91 = .ok (.getfield 152, 3) := by decide +kernel
theorem dX8_single_94 : decode cX8_single 94 = .ok (.goto 23, 3) := by decide +kernel
theorem dX8_single_97 : decode cX8_single 97 = .ok (.aload_n 0, 1) := by decide +kernel
theorem dX8_single_98 : decode cX8_single 98 = .ok (.iload_n 1, 1) := by decide +kernel
theorem dX8_single_99 : decode cX8_single 99 = .ok (.invokevirtual 149, 3) := by decide +kernel
theorem dX8_single_102 : decode cX8_single 102 = .ok (.iconst 2, 1) := by decide +kernel
theorem dX8_single_103 : decode cX8_single 103 = .ok (.if_icmp .ne 10, 3) := by decide +kernel
theorem dX8_single_106 : decode cX8_single 106 = .ok (.aload_n 0, 1) := by decide +kernel
theorem dX8_single_107 : decode cX8_single 107 = .ok (.getfield 155, 3) := by decide +kernel
theorem dX8_single_110 : decode cX8_single 110 = .ok (.goto 7, 3) := by decide +kernel
theorem dX8_single_113 : decode cX8_single 113 = .ok (.aload_n 0, 1) := by decide +kernel
theorem dX8_single_114 : decode cX8_single 114 = .ok (.getfield 158, 3) := by decide +kernel
theorem dX8_single_117 : decode cX8_single 117 = .ok (.istore_n 2, 1) := by decide +kernel
theorem dX8_single_118 : decode cX8_single 118 = .ok (.goto 132, 3) := by decide +kernel
theorem dX8_single_121 : decode cX8_single 121 = .ok (.iload_n 1, 1) := by decide +kernel
theorem dX8_single_122 : decode cX8_single 122 = .ok (.bipush 33, 2) := by decide +kernel
theorem dX8_single_124 : decode cX8_single 124 = .ok (.if_icmp .eq 9, 3) := by decide +kernel
theorem dX8_single_127 : decode cX8_single 127 = .ok (.iload_n 1, 1) := by decide +kernel
theorem dX8_single_128 : decode cX8_single 128 = .ok (.bipush 40, 2) := by decide +kernel
theorem dX8_single_130 : decode cX8_single 130 = .ok (.if_icmp .ne 115, 3) := by decide +kernel
theorem dX8_single_133 : decode cX8_single 133 = .ok (.aload_n 0, 1) := by decide +kernel
theorem dX8_single_134 : decode cX8_single 134 = .ok (.getfield 161, 3) := by decide +kernel
theorem dX8_single_137 : decode cX8_single 137 = .ok (.iconst 5, 1) := by decide +kernel
theorem dX8_single_138 : decode cX8_single 138 = .ok (.if_icmp .ge 107, 3) := by decide +kernel
theorem dX8_single_141 : decode cX8_single 141 = .ok (.aload_n 0, 1) := by decide +kernel
theorem dX8_single_142 : decode cX8_single 142 = .ok (.dup, 1) := by decide +kernel
theorem dX8_single_143 : decode cX8_single 143 = .ok (.getfield 121, 3) := by decide +kernel
theorem dX8_single_146 : decode cX8_single 146 = .ok (.iconst 1, 1) := by decide +kernel
theorem dX8_single_147 : decode cX8_single 147 = .ok (.iadd, 1) := by decide +kernel
theorem dX8_single_148 : decode cX8_single 148 = .ok (.putfield 121, 3) := by decide +kernel
theorem dX8_single_151 : decode cX8_single 151 = .ok (.aload_n 0, 1) := by decide +kernel
theorem dX8_single_152 : decode cX8_single 152 = .ok (.dup, 1) := by decide +kernel
theorem dX8_single_153 : decode cX8_single 153 = .ok (.getfield 161, 3) := by decide +kernel
theorem dX8_single_156 : decode cX8_single 156 = .ok (.iconst 1, 1) := by decide +kernel
theorem dX8_single_157 : decode cX8_single 157 = .ok (.iadd, 1) := by decide +kernel
theorem dX8_single_158 : decode cX8_single 158 = .ok (.putfield 161, 3) := by decide +kernel
theorem dX8_single_161 : decode cX8_single 161 = .ok (.iload_n 1, 1) := by decide +kernel
theorem dX8_single_162 : decode cX8_single 162 = .ok (.bipush 33, 2) := by decide +kernel
theorem dX8_single_164 : decode cX8_single 164 = .ok (.if_icmp .ne 10, 3) := by decide +kernel
theorem dX8_single_167 : decode cX8_single 167 = .ok (.aload_n 0, 1) := by decide +kernel
theorem dX8_single_168 : decode cX8_single 168 = .ok (.invokevirtual 164, 3) := by decide +kernel
theorem dX8_single_171 : decode cX8_single 171 = .ok (.goto 7, 3) := by decide +kernel
theorem dX8_single_174 : decode cX8_single 174 = .ok (.aload_n 0, 1) := by decide +kernel
theorem dX8_single_175 : decode cX8_single 175 = .ok (.invokevirtual 167, 3) := by decide +kernel
theorem dX8_single_178 : decode cX8_single 178 = .ok (.istore_n 2, 1) := by decide +kernel
theorem dX8_single_179 : decode cX8_single 179 = .ok (.iload_n 1, 1) := by decide +kernel
theorem dX8_single_180 : decode cX8_single 180 = .ok (.bipush 33, 2) := by decide +kernel
theorem dX8_single_182 : decode cX8_single 182 = .ok (.if_icmp .eq 7, 3) := by decide +kernel
theorem dX8_single_185 : decode cX8_single 185 = .ok (.iload_n 2, 1) := by decide +kernel
theorem dX8_single_186 : decode cX8_single 186 = .ok (.goto 12, 3) := by decide +kernel
theorem dX8_single_189 : decode cX8_single 189 = .ok (.iload_n 2, 1) := by decide +kernel
theorem dX8_single_190 : decode cX8_single 190 = .ok (.ifCond .ne 7, 3) := by decide +kernel
theorem dX8_single_193 : decode cX8_single 193 = .ok (.iconst 1, 1) := by decide +kernel
theorem dX8_single_194 : decode cX8_single 194 = .ok (.goto 4, 3) := by decide +kernel
theorem dX8_single_197 : decode cX8_single 197 = .ok (.iconst 0, 1) := by decide +kernel
theorem dX8_single_198 : decode cX8_single 198 = .ok (.istore_n 2, 1) := by decide +kernel
theorem dX8_single_199 : decode cX8_single 199 = .ok (.iload_n 1, 1) := by decide +kernel
theorem dX8_single_200 : decode cX8_single 200 = .ok (.bipush 40, 2) := by decide +kernel
theorem dX8_single_202 : decode cX8_single 202 = .ok (.if_icmp .ne 30, 3) := by decide +kernel
theorem dX8_single_205 : decode cX8_single 205 = .ok (.aload_n 0, 1) := by decide +kernel
theorem dX8_single_206 : decode cX8_single 206 = .ok (.bipush 41, 2) := by decide +kernel
theorem dX8_single_208 : decode cX8_single 208 = .ok (.invokevirtual 170, 3) := by decide +kernel
theorem dX8_single_211 : decode cX8_single 211 = .ok (.istore_n 3, 1) := by decide +kernel
theorem dX8_single_212 : decode cX8_single 212 = .ok (.aload_n 0, 1) := by decide +kernel
theorem dX8_single_213 : decode cX8_single 213 = .ok (.aload_n 0, 1) := by decide +kernel
theorem dX8_single_214 : decode cX8_single 214 = .ok (.getfield 128, 3) := by decide +kernel
theorem dX8_single_217 : decode cX8_single 217 = .ok (.ifCond .ne 7, 3) := by decide +kernel
theorem dX8_single_220 : decode cX8_single 220 = .ok (.iload_n 3, 1) := by decide +kernel
theorem dX8_single_221 : decode cX8_single 221 = .ok (.ifCond .ne 7, 3) := by decide +kernel
theorem dX8_single_224 : decode cX8_single 224 = .ok (.iconst 1, 1) := by decide +kernel
theorem dX8_single_225 : decode cX8_single 225 = .ok (.goto 4, 3) := by decide +kernel
theorem dX8_single_228 : decode cX8_single 228 = .ok (.iconst 0, 1) := by decide +kernel
theorem dX8_single_229 : decode cX8_single 229 = .ok (.putfield 128, 3) := by decide +kernel
theorem dX8_single_232 : decode cX8_single 232 = .ok (.aload_n 0, 1) := by decide +kernel
theorem dX8_single_233 : decode cX8_single 233 = .ok (.dup, 1) := by decide +kernel
theorem dX8_single_234 : decode cX8_single 234 = .ok (.getfield 161, 3) := by decide +kernel
theorem dX8_single_237 : decode cX8_single 237 = .ok (.iconst 1, 1) := by decide +kernel
theorem dX8_single_238 : decode cX8_single 238 = .ok (.isub, 1) := by decide +kernel
theorem dX8_single_239 : decode cX8_single 239 = .ok (.putfield 161, 3) := by decide +kernel
theorem dX8_single_242 : decode cX8_single 242 = .ok (.goto 8, 3) := by decide +kernel
theorem dX8_single_245 : decode cX8_single 245 = .ok (.aload_n 0, 1) := by decide +kernel
theorem dX8_single_246 : decode cX8_single 246 = .ok (.iconst 1, 1) := by decide +kernel
theorem dX8_single_247 : decode cX8_single 247 = .ok (.putfield 128, 3) := by decide +kernel
theorem dX8_single_250 : decode cX8_single 250 = .ok (.iload_n 2, 1) := by decide +kernel
theorem dX8_single_251 : decode cX8_single 251 = .ok (.ireturn, 1) := by decide +kernel
theorem dX8_product_0 : decode cX8_product 0 = .ok (.aload_n 0, 1) := by decide +kernel
theorem dX8_product_1 : decode cX8_product 1 = .ok (.invokevirtual 164, 3) := by decide +kernel
theorem dX8_product_4 : decode cX8_product 4 = .ok (.istore_n 1, 1) := by decide +kernel
theorem dX8_product_5 : decode cX8_product 5 = .ok (.aload_n 0, 1) := by decide +kernel
theorem dX8_product_6 : decode cX8_product 6 = .ok (.invokevirtual 135, 3) := by decide +kernel
theorem dX8_product_9 : decode cX8_product 9 = .ok (.istore_n 2, 1) := by decide +kernel
theorem dX8_product_10 : decode cX8_product 10 = .ok (.iload_n 2, 1) := by decide +kernel
theorem dX8_product_11 : decode cX8_product 11 = .ok (.bipush 42, 2) := by decide +kernel
theorem dX8_product_13 : decode cX8_product 13 = .ok (.if_icmp .eq 15, 3) := by decide +kernel
theorem dX8_product_16 : decode cX8_product 16 = .ok (.iload_n 2, 1) := by decide +kernel
theorem dX8_product_17 : decode cX8_product 17 = .ok (.bipush 47, 2) := by decide +kernel
theorem dX8_product_19 : decode cX8_product 19 = .ok (.if_icmp .eq 9, 3) := by decide +kernel
theorem dX8_product_22 : decode cX8_product 22 = .ok (.iload_n 2, 1) := by decide +kernel
theorem dX8_product_23 : decode cX8_product 23 = .ok (.bipush 37, 2) := by decide +kernel
theorem dX8_product_25 : decode cX8_product 25 = .ok (.if_icmp .ne 62, 3) := by decide +kernel
theorem dX8_product_28 : decode cX8_product 28 = .ok (.aload_n 0, 1) := by decide +kernel
theorem dX8_product_29 : decode cX8_product 29 = .ok (.dup, 1) := by decide +kernel
theorem dX8_product_30 : decode cX8_product 30 = .ok (.getfield 121, 3) := by decide +kernel
theorem dX8_product_33 : decode cX8_product 33 = .ok (.iconst 1, 1) := by decide +kernel
theorem dX8_product_34 : decode cX8_product 34 = .ok (.iadd, 1) := by decide +kernel
theorem dX8_product_35 : decode cX8_product 35 = .ok (.putfield 121, 3) := by decide +kernel
theorem dX8_product_38 : decode cX8_product 38 = .ok (.aload_n 0, 1) := by decide +kernel
theorem dX8_product_39 : decode cX8_product 39 = .ok (.invokevirtual 164, 3) := by decide +kernel
theorem dX8_product_42 : decode cX8_product 42 = .ok (.istore_n 3, 1) := by decide +kernel
theorem dX8_product_43 : decode cX8_product 43 = .ok (.iload_n 2, 1) := by decide +kernel
theorem dX8_product_44 : decode cX8_product 44 = .ok (.bipush 42, 2) := by decide +kernel
theorem dX8_product_46 : decode cX8_product 46 = .ok (.if_icmp .ne 9, 3) := by decide +kernel
theorem dX8_product_49 : decode cX8_product 49 = .ok (.iload_n 1, 1) := by decide +kernel
theorem dX8_product_50 : decode cX8_product 50 = .ok (.iload_n 3, 1) := by decide +kernel
theorem dX8_product_51 : decode cX8_product 51 = .ok (.imul, 1) := by decide +kernel
theorem dX8_product_52 : decode cX8_product 52 = .ok (.goto 26, 3) := by decide +kernel
theorem dX8_product_55 : decode cX8_product 55 = .ok (.iload_n 3, 1) := by decide +kernel
theorem dX8_product_56 : decode cX8_product 56 = .ok (.ifCond .ne 7, 3) := by decide +kernel
theorem dX8_product_59 : decode cX8_product 59 = .ok (.iconst 0, 1) := by decide +kernel
theorem dX8_product_60 : decode cX8_product 60 = .ok (.goto 18, 3) := by decide +kernel
theorem dX8_product_63 : decode cX8_product 63 = .ok (.iload_n 2, 1) := by decide +kernel
theorem dX8_product_64 : decode cX8_product 64 = .ok (.bipush 47, 2) := by decide +kernel
theorem dX8_product_66 : decode cX8_product 66 = .ok (.if_icmp .ne 9, 3) := by decide +kernel
theorem dX8_product_69 : decode cX8_product 69 = .ok (.iload_n 1, 1) := by decide +kernel
theorem dX8_product_70 : decode cX8_product 70 = .ok (.iload_n 3, 1) := by decide +kernel
theorem dX8_product_71 : decode cX8_product 71 = .ok (.idiv, 1) := by decide +kernel
theorem dX8_product_72 : decode cX8_product 72 = .ok (.goto 6, 3) := by decide +kernel
theorem dX8_product_75 : decode cX8_product 75 = .ok (.iload_n 1, 1) := by decide +kernel
theorem dX8_product_76 : decode cX8_product 76 = .ok (.iload_n 3, 1) := by decide +kernel
theorem dX8_product_77 : decode cX8_product 77 = .ok (.irem, 1) := by decide +kernel
theorem dX8_product_78 : decode cX8_product 78 = .ok (.istore_n 1, 1) := by decide +kernel
theorem dX8_product_79 : decode cX8_product 79 = .ok (.aload_n 0, 1) := by decide +kernel
theorem dX8_product_80 : decode cX8_product 80 = .ok (.invokevirtual 135, 3) := by decide +kernel
theorem dX8_product_83 : decode cX8_product 83 = .ok (.istore_n 2, 1) := by decide +kernel
theorem dX8_product_84 : decode cX8_product 84 = .ok (.goto (-74), 3) := by decide +kernel
theorem dX8_product_87 : decode cX8_product 87 = .ok (.iload_n 1, 1) := by decide +kernel
theorem dX8_product_88 : decode cX8_product 88 = .ok (.ireturn, 1) := by decide +kernel
theorem dX8_sum_0 : decode cX8_sum 0 = .ok (.aload_n 0, 1) := by decide +kernel
theorem dX8_sum_1 : decode cX8_sum 1 = .ok (.invokevirtual 173, 3) := by decide +kernel
theorem dX8_sum_4 : decode cX8_sum 4 = .ok (.istore_n 1, 1) := by decide +kernel
theorem dX8_sum_5 : decode cX8_sum 5 = .ok (.aload_n 0, 1) := by decide +kernel
theorem dX8_sum_6 : decode cX8_sum 6 = .ok (.invokevirtual 135, 3) := by decide +kernel
theorem dX8_sum_9 : decode cX8_sum 9 = .ok (.istore_n 2, 1) := by decide +kernel
theorem dX8_sum_10 : decode cX8_sum 10 = .ok (.iload_n 2, 1) := by decide +kernel
theorem dX8_sum_11 : decode cX8_sum 11 = .ok (.bipush 43, 2) := by decide +kernel
theorem dX8_sum_13 : decode cX8_sum 13 = .ok (.if_icmp .eq 9, 3) := by decide +kernel
theorem dX8_sum_16 : decode cX8_sum 16 = .ok (.iload_n 2, 1) := by decide +kernel
theorem dX8_sum_17 : decode cX8_sum 17 = .ok (.bipush 45, 2) := by decide +kernel
theorem dX8_sum_19 : decode cX8_sum 19 = .ok (.if_icmp .ne 42, 3) := by decide +kernel
theorem dX8_sum_22 : decode cX8_sum 22 = .ok (.aload_n 0, 1) := by decide +kernel
theorem dX8_sum_23 : decode cX8_sum 23 = .ok (.dup, 1) := by decide +kernel
theorem dX8_sum_24 : decode cX8_sum 24 = .ok (.getfield 121, 3) := by decide +kernel
theorem dX8_sum_27 : decode cX8_sum 27 = .ok (.iconst 1, 1) := by decide +kernel
theorem dX8_sum_28 : decode cX8_sum 28 = .ok (.iadd, 1) := by decide +kernel
theorem dX8_sum_29 : decode cX8_sum 29 = .ok (.putfield 121, 3) := by decide +kernel
theorem dX8_sum_32 : decode cX8_sum 32 = .ok (.aload_n 0, 1) := by decide +kernel
theorem dX8_sum_33 : decode cX8_sum 33 = .ok (.invokevirtual 173, 3) := by decide +kernel
theorem dX8_sum_36 : decode cX8_sum 36 = .ok (.istore_n 3, 1) := by decide +kernel
theorem dX8_sum_37 : decode cX8_sum 37 = .ok (.iload_n 2, 1) := by decide +kernel
theorem dX8_sum_38 : decode cX8_sum 38 = .ok (.bipush 43, 2) := by decide +kernel
theorem dX8_sum_40 : decode cX8_sum 40 = .ok (.if_icmp .ne 9, 3) := by decide +kernel
theorem dX8_sum_43 : decode cX8_sum 43 = .ok (.iload_n 1, 1) := by decide +kernel
theorem dX8_sum_44 : decode cX8_sum 44 = .ok (.iload_n 3, 1) := by decide +kernel
theorem dX8_sum_45 : decode cX8_sum 45 = .ok (.iadd, 1) := by decide +kernel
theorem dX8_sum_46 : decode cX8_sum 46 = .ok (.goto 6, 3) := by decide +kernel
theorem dX8_sum_49 : decode cX8_sum 49 = .ok (.iload_n 1, 1) := by decide +kernel
theorem dX8_sum_50 : decode cX8_sum 50 = .ok (.iload_n 3, 1) := by decide +kernel
theorem dX8_sum_51 : decode cX8_sum 51 = .ok (.isub, 1) := by decide +kernel
theorem dX8_sum_52 : decode cX8_sum 52 = .ok (.istore_n 1, 1) := by decide +kernel
theorem dX8_sum_53 : decode cX8_sum 53 = .ok (.aload_n 0, 1) := by decide +kernel
theorem dX8_sum_54 : decode cX8_sum 54 = .ok (.invokevirtual 135, 3) := by decide +kernel
theorem dX8_sum_57 : decode cX8_sum 57 = .ok (.istore_n 2, 1) := by decide +kernel
theorem dX8_sum_58 : decode cX8_sum 58 = .ok (.goto (-48), 3) := by decide +kernel
theorem dX8_sum_61 : decode cX8_sum 61 = .ok (.iload_n 1, 1) := by decide +kernel
theorem dX8_sum_62 : decode cX8_sum 62 = .ok (.ireturn, 1) := by decide +kernel
theorem dX8_test_0 : decode cX8_test 0 = .ok (.aload_n 0, 1) := by decide +kernel
theorem dX8_test_1 : decode cX8_test 1 = .ok (.invokevirtual 176, 3) := by decide +kernel
theorem dX8_test_4 : decode cX8_test 4 = .ok (.istore_n 1, 1) := by decide +kernel
theorem dX8_test_5 : decode cX8_test 5 = .ok (.aload_n 0, 1) := by decide +kernel
theorem dX8_test_6 : decode cX8_test 6 = .ok (.invokevirtual 135, 3) := by decide +kernel
theorem dX8_test_9 : decode cX8_test 9 = .ok (.istore_n 2, 1) := by decide +kernel
theorem dX8_test_10 : decode cX8_test 10 = .ok (.iload_n 2, 1) := by decide +kernel
theorem dX8_test_11 : decode cX8_test 11 = .ok (.bipush 60, 2) := by decide +kernel
theorem dX8_test_13 : decode cX8_test 13 = .ok (.if_icmp .eq 17, 3) := by decide +kernel
theorem dX8_test_16 : decode cX8_test 16 = .ok (.iload_n 2, 1) := by decide +kernel
theorem dX8_test_17 : decode cX8_test 17 = .ok (.bipush 61, 2) := by decide +kernel
theorem dX8_test_19 : decode cX8_test 19 = .ok (.if_icmp .eq 11, 3) := by decide +kernel
theorem dX8_test_22 : decode cX8_test 22 = .ok (.iload_n 2, 1) := by decide +kernel
theorem dX8_test_23 : decode cX8_test 23 = .ok (.bipush 62, 2) := by decide +kernel
theorem dX8_test_25 : decode cX8_test 25 = .ok (.if_icmp .eq 5, 3) := by decide +kernel
theorem dX8_test_28 : decode cX8_test 28 = .ok (.iload_n 1, 1) := by decide +kernel
theorem dX8_test_29 : decode cX8_test 29 = .ok (.ireturn, 1) := by decide +kernel
theorem dX8_test_30 : decode cX8_test 30 = .ok (.aload_n 0, 1) := by decide +kernel
theorem dX8_test_31 : decode cX8_test 31 = .ok (.dup, 1) := by decide +kernel
theorem dX8_test_32 : decode cX8_test 32 = .ok (.getfield 121, 3) := by decide +kernel
theorem dX8_test_35 : decode cX8_test 35 = .ok (.iconst 1, 1) := by decide +kernel
theorem dX8_test_36 : decode cX8_test 36 = .ok (.iadd, 1) := by decide +kernel
theorem dX8_test_37 : decode cX8_test 37 = .ok (.putfield 121, 3) := by decide +kernel
theorem dX8_test_40 : decode cX8_test 40 = .ok (.aload_n 0, 1) := by decide +kernel
theorem dX8_test_41 : decode cX8_test 41 = .ok (.invokevirtual 176, 3) := by decide +kernel
theorem dX8_test_44 : decode cX8_test 44 = .ok (.istore_n 3, 1) := by decide +kernel
theorem dX8_test_45 : decode cX8_test 45 = .ok (.iload_n 2, 1) := by decide +kernel
theorem dX8_test_46 : decode cX8_test 46 = .ok (.bipush 60, 2) := by decide +kernel
theorem dX8_test_48 : decode cX8_test 48 = .ok (.if_icmp .ne 16, 3) := by decide +kernel
theorem dX8_test_51 : decode cX8_test 51 = .ok (.iload_n 1, 1) := by decide +kernel
theorem dX8_test_52 : decode cX8_test 52 = .ok (.iload_n 3, 1) := by decide +kernel
theorem dX8_test_53 : decode cX8_test 53 = .ok (.if_icmp .ge 7, 3) := by decide +kernel
theorem dX8_test_56 : decode cX8_test 56 = .ok (.iconst 1, 1) := by decide +kernel
theorem dX8_test_57 : decode cX8_test 57 = .ok (.goto 36, 3) := by decide +kernel
theorem dX8_test_60 : decode cX8_test 60 = .ok (.iconst 0, 1) := by decide +kernel
theorem dX8_test_61 : decode cX8_test 61 = .ok (.goto 32, 3) := by decide +kernel
theorem dX8_test_64 : decode cX8_test 64 = .ok (.iload_n 2, 1) := by decide +kernel
theorem dX8_test_65 : decode cX8_test 65 = .ok (.bipush 61, 2) := by decide +kernel
theorem dX8_test_67 : decode cX8_test 67 = .ok (.if_icmp .ne 16, 3) := by decide +kernel
theorem dX8_test_70 : decode cX8_test 70 = .ok (.iload_n 1, 1) := by decide +kernel
theorem dX8_test_71 : decode cX8_test 71 = .ok (.iload_n 3, 1) := by decide +kernel
theorem dX8_test_72 : decode cX8_test 72 = .ok (.if_icmp .ne 7, 3) := by decide +kernel
theorem dX8_test_75 : decode cX8_test 75 = .ok (.iconst 1, 1) := by decide +kernel
theorem dX8_test_76 : decode cX8_test 76 = .ok (.goto 17, 3) := by decide +kernel
theorem dX8_test_79 : decode cX8_test 79 = .ok (.iconst 0, 1) := by decide +kernel
theorem dX8_test_80 : decode cX8_test 80 = .ok (.goto 13, 3) := by decide +kernel
theorem dX8_test_83 : decode cX8_test 83 = .ok (.iload_n 1, 1) := by decide +kernel
theorem dX8_test_84 : decode cX8_test 84 = .ok (.iload_n 3, 1) := by decide +kernel
theorem dX8_test_85 : decode cX8_test 85 = .ok (.if_icmp .le 7, 3) := by decide +kernel
theorem dX8_test_88 : decode cX8_test 88 = .ok (.iconst 1, 1) := by decide +kernel
theorem dX8_test_89 : decode cX8_test 89 = .ok (.goto 4, 3) := by decide +kernel
theorem dX8_test_92 : decode cX8_test 92 = .ok (.iconst 0, 1) := by decide +kernel
theorem dX8_test_93 : decode cX8_test 93 = .ok (.istore 4, 2) := by decide +kernel
theorem dX8_test_95 : decode cX8_test 95 = .ok (.iload 4, 2) := by decide +kernel
theorem dX8_test_97 : decode cX8_test 97 = .ok (.ifCond .eq 7, 3) := by decide +kernel
theorem dX8_test_100 : decode cX8_test 100 = .ok (.iconst 1, 1) := by decide +kernel
theorem dX8_test_101 : decode cX8_test 101 = .ok (.goto 4, 3) := by decide +kernel
theorem dX8_test_104 : decode cX8_test 104 = .ok (.iconst 0, 1) := by decide +kernel
theorem dX8_test_105 : decode cX8_test 105 = .ok (.ireturn, 1) := by decide +kernel
theorem dX8_both_0 : decode cX8_both 0 = .ok (.aload_n 0, 1) := by decide +kernel
theorem dX8_both_1 : decode cX8_both 1 = .ok (.invokevirtual 179, 3) := by decide +kernel
theorem dX8_both_4 : decode cX8_both 4 = .ok (.istore_n 1, 1) := by decide +kernel
theorem dX8_both_5 : decode cX8_both 5 = .ok (.aload_n 0, 1) := by decide +kernel
theorem dX8_both_6 : decode cX8_both 6 = .ok (.bipush 38, 2) := by decide +kernel
theorem dX8_both_8 : decode cX8_both 8 = .ok (.invokevirtual 170, 3) := by decide +kernel
theorem dX8_both_11 : decode cX8_both 11 = .ok (.ifCond .eq 25, 3) := by decide +kernel
theorem dX8_both_14 : decode cX8_both 14 = .ok (.aload_n 0, 1) := by decide +kernel
theorem dX8_both_15 : decode cX8_both 15 = .ok (.invokevirtual 179, 3) := by decide +kernel
theorem dX8_both_18 : decode cX8_both 18 = .ok (.istore_n 2, 1) := by decide +kernel
theorem dX8_both_19 : decode cX8_both 19 = .ok (.iload_n 1, 1) := by decide +kernel
theorem dX8_both_20 : decode cX8_both 20 = .ok (.ifCond .eq 11, 3) := by decide +kernel
theorem dX8_both_23 : decode cX8_both 23 = .ok (.iload_n 2, 1) := by decide +kernel
theorem dX8_both_24 : decode cX8_both 24 = .ok (.ifCond .eq 7, 3) := by decide +kernel
theorem dX8_both_27 : decode cX8_both 27 = .ok (.iconst 1, 1) := by decide +kernel
theorem dX8_both_28 : decode cX8_both 28 = .ok (.goto 4, 3) := by decide +kernel
theorem dX8_both_31 : decode cX8_both 31 = .ok (.iconst 0, 1) := by decide +kernel
theorem dX8_both_32 : decode cX8_both 32 = .ok (.istore_n 1, 1) := by decide +kernel
theorem dX8_both_33 : decode cX8_both 33 = .ok (.goto (-28), 3) := by decide +kernel
theorem dX8_both_36 : decode cX8_both 36 = .ok (.iload_n 1, 1) := by decide +kernel
theorem dX8_both_37 : decode cX8_both 37 = .ok (.ireturn, 1) := by decide +kernel
theorem dX8_any_0 : decode cX8_any 0 = .ok (.aload_n 0, 1) := by decide +kernel
theorem dX8_any_1 : decode cX8_any 1 = .ok (.invokevirtual 182, 3) := by decide +kernel
theorem dX8_any_4 : decode cX8_any 4 = .ok (.istore_n 1, 1) := by decide +kernel
theorem dX8_any_5 : decode cX8_any 5 = .ok (.aload_n 0, 1) := by decide +kernel
theorem dX8_any_6 : decode cX8_any 6 = .ok (.bipush 124, 2) := by decide +kernel
theorem dX8_any_8 : decode cX8_any 8 = .ok (.invokevirtual 170, 3) := by decide +kernel
theorem dX8_any_11 : decode cX8_any 11 = .ok (.ifCond .eq 25, 3) := by decide +kernel
theorem dX8_any_14 : decode cX8_any 14 = .ok (.aload_n 0, 1) := by decide +kernel
theorem dX8_any_15 : decode cX8_any 15 = .ok (.invokevirtual 182, 3) := by decide +kernel
theorem dX8_any_18 : decode cX8_any 18 = .ok (.istore_n 2, 1) := by decide +kernel
theorem dX8_any_19 : decode cX8_any 19 = .ok (.iload_n 1, 1) := by decide +kernel
theorem dX8_any_20 : decode cX8_any 20 = .ok (.ifCond .ne 7, 3) := by decide +kernel
theorem dX8_any_23 : decode cX8_any 23 = .ok (.iload_n 2, 1) := by decide +kernel
theorem dX8_any_24 : decode cX8_any 24 = .ok (.ifCond .eq 7, 3) := by decide +kernel
theorem dX8_any_27 : decode cX8_any 27 = .ok (.iconst 1, 1) := by decide +kernel
theorem dX8_any_28 : decode cX8_any 28 = .ok (.goto 4, 3) := by decide +kernel
theorem dX8_any_31 : decode cX8_any 31 = .ok (.iconst 0, 1) := by decide +kernel
theorem dX8_any_32 : decode cX8_any 32 = .ok (.istore_n 1, 1) := by decide +kernel
theorem dX8_any_33 : decode cX8_any 33 = .ok (.goto (-28), 3) := by decide +kernel
theorem dX8_any_36 : decode cX8_any 36 = .ok (.iload_n 1, 1) := by decide +kernel
theorem dX8_any_37 : decode cX8_any 37 = .ok (.ireturn, 1) := by decide +kernel
theorem dX8_readsText_0 : decode cX8_readsText 0 = .ok (.aload_n 0, 1) := by decide +kernel
theorem dX8_readsText_1 : decode cX8_readsText 1 = .ok (.iload_n 1, 1) := by decide +kernel
theorem dX8_readsText_2 : decode cX8_readsText 2 = .ok (.putfield 132, 3) := by decide +kernel
theorem dX8_readsText_5 : decode cX8_readsText 5 = .ok (.aload_n 0, 1) := by decide +kernel
theorem dX8_readsText_6 : decode cX8_readsText 6 = .ok (.iload_n 2, 1) := by decide +kernel
theorem dX8_readsText_7 : decode cX8_readsText 7 = .ok (.putfield 125, 3) := by decide +kernel
theorem dX8_readsText_10 : decode cX8_readsText 10 = .ok (.aload_n 0, 1) := by decide +kernel
theorem dX8_readsText_11 : decode cX8_readsText 11 = .ok (.iconst 0, 1) := by decide +kernel
theorem dX8_readsText_12 : decode cX8_readsText 12 = .ok (.putfield 121, 3) := by decide +kernel
theorem dX8_readsText_15 : decode cX8_readsText 15 = .ok (.aload_n 0, 1) := by decide +kernel
theorem dX8_readsText_16 : decode cX8_readsText 16 = .ok (.iconst 0, 1) := by decide +kernel
theorem dX8_readsText_17 : decode cX8_readsText 17 = .ok (.putfield 161, 3) := by decide +kernel
theorem dX8_readsText_20 : decode cX8_readsText 20 = .ok (.aload_n 0, 1) := by decide +kernel
theorem dX8_readsText_21 : decode cX8_readsText 21 = .ok (.iload_n 3, 1) := by decide +kernel
theorem dX8_readsText_22 : decode cX8_readsText 22 = .ok (.putfield 139, 3) := by decide +kernel
theorem dX8_readsText_25 : decode cX8_readsText 25 = .ok (.aload_n 0, 1) := by decide +kernel
theorem dX8_readsText_26 : decode cX8_readsText 26 = .ok (.iload 4, 2) := by decide +kernel
theorem dX8_readsText_28 : decode cX8_readsText 28 = .ok (.putfield 152, 3) := by decide +kernel
theorem dX8_readsText_31 : decode cX8_readsText 31 = .ok (.aload_n 0, 1) := by decide +kernel
theorem dX8_readsText_32 : decode cX8_readsText 32 = .ok (.iload 5, 2) := by decide +kernel
theorem dX8_readsText_34 : decode cX8_readsText 34 = .ok (.putfield 155, 3) := by decide +kernel
theorem dX8_readsText_37 : decode cX8_readsText 37 = .ok (.aload_n 0, 1) := by decide +kernel
theorem dX8_readsText_38 : decode cX8_readsText 38 = .ok (.iload 6, 2) := by decide +kernel
theorem dX8_readsText_40 : decode cX8_readsText 40 = .ok (.putfield 158, 3) := by decide +kernel
theorem dX8_readsText_43 : decode cX8_readsText 43 = .ok (.aload_n 0, 1) := by decide +kernel
theorem dX8_readsText_44 : decode cX8_readsText 44 = .ok (.iconst 0, 1) := by decide +kernel
theorem dX8_readsText_45 : decode cX8_readsText 45 = .ok (.putfield 128, 3) := by decide +kernel
theorem dX8_readsText_48 : decode cX8_readsText 48 = .ok (.aload_n 0, 1) := by decide +kernel
theorem dX8_readsText_49 : decode cX8_readsText 49 = .ok (.invokevirtual 167, 3) := by decide +kernel
theorem dX8_readsText_52 : decode cX8_readsText 52 = .ok (.istore 7, 2) := by decide +kernel
theorem dX8_readsText_54 : decode cX8_readsText 54 = .ok (.aload_n 0, 1) := by decide +kernel
theorem dX8_readsText_55 : decode cX8_readsText 55 = .ok (.aload_n 0, 1) := by decide +kernel
theorem dX8_readsText_56 : decode cX8_readsText 56 = .ok (.getfield 128, 3) := by decide +kernel
theorem dX8_readsText_59 : decode cX8_readsText 59 = .ok (.ifCond .ne 14, 3) := by decide +kernel
theorem dX8_readsText_62 : decode cX8_readsText 62 = .ok (.aload_n 0, 1) := by decide +kernel
theorem dX8_readsText_63 : decode cX8_readsText 63 = .ok (.getfield 121, 3) := by decide +kernel
theorem dX8_readsText_66 : decode cX8_readsText 66 = .ok (.aload_n 0, 1) := by decide +kernel
theorem dX8_readsText_67 : decode cX8_readsText 67 = .ok (.getfield 125, 3) := by decide +kernel
theorem dX8_readsText_70 : decode cX8_readsText 70 = .ok (.if_icmp .ge 7, 3) := by decide +kernel
theorem dX8_readsText_73 : decode cX8_readsText 73 = .ok (.iconst 1, 1) := by decide +kernel
theorem dX8_readsText_74 : decode cX8_readsText 74 = .ok (.goto 4, 3) := by decide +kernel
theorem dX8_readsText_77 : decode cX8_readsText 77 = .ok (.iconst 0, 1) := by decide +kernel
theorem dX8_readsText_78 : decode cX8_readsText 78 = .ok (.putfield 128, 3) := by decide +kernel
theorem dX8_readsText_81 : decode cX8_readsText 81 = .ok (.iload 7, 2) := by decide +kernel
theorem dX8_readsText_83 : decode cX8_readsText 83 = .ok (.ireturn, 1) := by decide +kernel
theorem dX8_worked_0 : decode cX8_worked 0 = .ok (.aload_n 0, 1) := by decide +kernel
theorem dX8_worked_1 : decode cX8_worked 1 = .ok (.sipush 231, 3) := by decide +kernel
theorem dX8_worked_4 : decode cX8_worked 4 = .ok (.bipush 50, 2) := by decide +kernel
theorem dX8_worked_6 : decode cX8_worked 6 = .ok (.iload_n 1, 1) := by decide +kernel
theorem dX8_worked_7 : decode cX8_worked 7 = .ok (.imul, 1) := by decide +kernel
theorem dX8_worked_8 : decode cX8_worked 8 = .ok (.iadd, 1) := by decide +kernel
theorem dX8_worked_9 : decode cX8_worked 9 = .ok (.aload_n 0, 1) := by decide +kernel
theorem dX8_worked_10 : decode cX8_worked 10 = .ok (.getfield 7, 3) := by decide +kernel
theorem dX8_worked_13 : decode cX8_worked 13 = .ok (.sipush 179, 3) := by decide +kernel
theorem dX8_worked_16 : decode cX8_worked 16 = .ok (.iload_n 1, 1) := by decide +kernel
theorem dX8_worked_17 : decode cX8_worked 17 = .ok (.iadd, 1) := by decide +kernel
theorem dX8_worked_18 : decode cX8_worked 18 = .ok (.iaload, 1) := by decide +kernel
theorem dX8_worked_19 : decode cX8_worked 19 = .ok (.iload_n 1, 1) := by decide +kernel
theorem dX8_worked_20 : decode cX8_worked 20 = .ok (.iload_n 2, 1) := by decide +kernel
theorem dX8_worked_21 : decode cX8_worked 21 = .ok (.iload_n 3, 1) := by decide +kernel
theorem dX8_worked_22 : decode cX8_worked 22 = .ok (.iload 4, 2) := by decide +kernel
theorem dX8_worked_24 : decode cX8_worked 24 = .ok (.invokevirtual 185, 3) := by decide +kernel
theorem dX8_worked_27 : decode cX8_worked 27 = .ok (.ireturn, 1) := by decide +kernel
theorem dX8_text_0 : decode cX8_text 0 = .ok (.iload_n 1, 1) := by decide +kernel
theorem dX8_text_1 : decode cX8_text 1 = .ok (.i2l, 1) := by decide +kernel
theorem dX8_text_2 : decode cX8_text 2 = .ok (.lconst 0, 1) := by decide +kernel
theorem dX8_text_3 : decode cX8_text 3 = .ok (.lconst 1, 1) := by decide +kernel
theorem dX8_text_4 : decode cX8_text 4 = .ok (.invokestatic 46, 3) := by decide +kernel
theorem dX8_text_7 : decode cX8_text 7 = .ok (.ifCond .ne 10, 3) := by decide +kernel
theorem dX8_text_10 : decode cX8_text 10 = .ok (.aload_n 0, 1) := by decide +kernel
theorem dX8_text_11 : decode cX8_text 11 = .ok (.ldc 67, 2) := by decide +kernel
theorem dX8_text_13 : decode cX8_text 13 = .ok (.invokevirtual 68, 3) := by decide +kernel
theorem dX8_text_16 : decode cX8_text 16 = .ok (.ireturn, 1) := by decide +kernel
theorem dX8_text_17 : decode cX8_text 17 = .ok (.aload_n 0, 1) := by decide +kernel
theorem dX8_text_18 : decode cX8_text 18 = .ok (.sipush 181, 3) := by decide +kernel
theorem dX8_text_21 : decode cX8_text 21 = .ok (.aload_n 0, 1) := by decide +kernel
theorem dX8_text_22 : decode cX8_text 22 = .ok (.getfield 7, 3) := by decide +kernel
theorem dX8_text_25 : decode cX8_text 25 = .ok (.sipush 177, 3) := by decide +kernel
theorem dX8_text_28 : decode cX8_text 28 = .ok (.iaload, 1) := by decide +kernel
theorem dX8_text_29 : decode cX8_text 29 = .ok (.iload_n 1, 1) := by decide +kernel
theorem dX8_text_30 : decode cX8_text 30 = .ok (.iconst 0, 1) := by decide +kernel
theorem dX8_text_31 : decode cX8_text 31 = .ok (.iconst 0, 1) := by decide +kernel
theorem dX8_text_32 : decode cX8_text 32 = .ok (.iconst 0, 1) := by decide +kernel
theorem dX8_text_33 : decode cX8_text 33 = .ok (.invokevirtual 185, 3) := by decide +kernel
theorem dX8_text_36 : decode cX8_text 36 = .ok (.istore_n 2, 1) := by decide +kernel
theorem dX8_text_37 : decode cX8_text 37 = .ok (.aload_n 0, 1) := by decide +kernel
theorem dX8_text_38 : decode cX8_text 38 = .ok (.getfield 128, 3) := by decide +kernel
theorem dX8_text_41 : decode cX8_text 41 = .ok (.ifCond .ne 66, 3) := by decide +kernel
theorem dX8_text_44 : decode cX8_text 44 = .ok (.iconst 0, 1) := by decide +kernel
theorem dX8_text_45 : decode cX8_text 45 = .ok (.istore_n 3, 1) := by decide +kernel
theorem dX8_text_46 : decode cX8_text 46 = .ok (.iload_n 3, 1) := by decide +kernel
theorem dX8_text_47 : decode cX8_text 47 = .ok (.aload_n 0, 1) := by decide +kernel
theorem dX8_text_48 : decode cX8_text 48 = .ok (.getfield 7, 3) := by decide +kernel
theorem dX8_text_51 : decode cX8_text 51 = .ok (.sipush 177, 3) := by decide +kernel
theorem dX8_text_54 : decode cX8_text 54 = .ok (.iaload, 1) := by decide +kernel
theorem dX8_text_55 : decode cX8_text 55 = .ok (.if_icmp .ge 34, 3) := by decide +kernel
theorem dX8_text_58 : decode cX8_text 58 = .ok (.aload_n 0, 1) := by decide +kernel
theorem dX8_text_59 : decode cX8_text 59 = .ok (.getfield 7, 3) := by decide +kernel
theorem dX8_text_62 : decode cX8_text 62 = .ok (.sipush 231, 3) := by decide +kernel
theorem dX8_text_65 : decode cX8_text 65 = .ok (.bipush 50, 2) := by decide +kernel
theorem dX8_text_67 : decode cX8_text 67 = .ok (.iload_n 1, 1) := by decide +kernel
theorem dX8_text_68 : decode cX8_text 68 = .ok (.imul, 1) := by decide +kernel
theorem dX8_text_69 : decode cX8_text 69 = .ok (.iadd, 1) := by decide +kernel
theorem dX8_text_70 : decode cX8_text 70 = .ok (.iload_n 3, 1) := by decide +kernel
theorem dX8_text_71 : decode cX8_text 71 = .ok (.iadd, 1) := by decide +kernel
theorem dX8_text_72 : decode cX8_text 72 = .ok (.aload_n 0, 1) := by decide +kernel
theorem dX8_text_73 : decode cX8_text 73 = .ok (.getfield 7, 3) := by decide +kernel
theorem dX8_text_76 : decode cX8_text 76 = .ok (.sipush 181, 3) := by decide +kernel
theorem dX8_text_79 : decode cX8_text 79 = .ok (.iload_n 3, 1) := by decide +kernel
theorem dX8_text_80 : decode cX8_text 80 = .ok (.iadd, 1) := by decide +kernel
theorem dX8_text_81 : decode cX8_text 81 = .ok (.iaload, 1) := by decide +kernel
theorem dX8_text_82 : decode cX8_text 82 = .ok (.iastore, 1) := by decide +kernel
theorem dX8_text_83 : decode cX8_text 83 = .ok (.iinc 3 1, 3) := by decide +kernel
theorem dX8_text_86 : decode cX8_text 86 = .ok (.goto (-40), 3) := by decide +kernel
theorem dX8_text_89 : decode cX8_text 89 = .ok (.aload_n 0, 1) := by decide +kernel
theorem dX8_text_90 : decode cX8_text 90 = .ok (.getfield 7, 3) := by decide +kernel
theorem dX8_text_93 : decode cX8_text 93 = .ok (.sipush 179, 3) := by decide +kernel
theorem dX8_text_96 : decode cX8_text 96 = .ok (.iload_n 1, 1) := by decide +kernel
theorem dX8_text_97 : decode cX8_text 97 = .ok (.iadd, 1) := by decide +kernel
theorem dX8_text_98 : decode cX8_text 98 = .ok (.aload_n 0, 1) := by decide +kernel
theorem dX8_text_99 : decode cX8_text 99 = .ok (.getfield 7, 3) := by decide +kernel
theorem dX8_text_102 : decode cX8_text 102 = .ok (.sipush 177, 3) := by decide +kernel
theorem dX8_text_105 : decode cX8_text 105 = .ok (.iaload, 1) := by decide +kernel
theorem dX8_text_106 : decode cX8_text 106 = .ok (.iastore, 1) := by decide +kernel
theorem dX8_text_107 : decode cX8_text 107 = .ok (.aload_n 0, 1) := by decide +kernel
theorem dX8_text_108 : decode cX8_text 108 = .ok (.getfield 7, 3) := by decide +kernel
theorem dX8_text_111 : decode cX8_text 111 = .ok (.sipush 177, 3) := by decide +kernel
theorem dX8_text_114 : decode cX8_text 114 = .ok (.iconst 0, 1) := by decide +kernel
theorem dX8_text_115 : decode cX8_text 115 = .ok (.iastore, 1) := by decide +kernel
theorem dX8_text_116 : decode cX8_text 116 = .ok (.aload_n 0, 1) := by decide +kernel
theorem dX8_text_117 : decode cX8_text 117 = .ok (.getfield 128, 3) := by decide +kernel
theorem dX8_text_120 : decode cX8_text 120 = .ok (.ifCond .eq 13, 3) := by decide +kernel
theorem dX8_text_123 : decode cX8_text 123 = .ok (.bipush (-10), 2) := by decide +kernel
theorem dX8_text_125 : decode cX8_text 125 = .ok (.aload_n 0, 1) := by decide +kernel
theorem dX8_text_126 : decode cX8_text 126 = .ok (.getfield 121, 3) := by decide +kernel
theorem dX8_text_129 : decode cX8_text 129 = .ok (.isub, 1) := by decide +kernel
theorem dX8_text_130 : decode cX8_text 130 = .ok (.goto 4, 3) := by decide +kernel
theorem dX8_text_133 : decode cX8_text 133 = .ok (.iconst 1, 1) := by decide +kernel
theorem dX8_text_134 : decode cX8_text 134 = .ok (.ireturn, 1) := by decide +kernel
theorem dX8_needed_0 : decode cX8_needed 0 = .ok (.aload_n 0, 1) := by decide +kernel
theorem dX8_needed_1 : decode cX8_needed 1 = .ok (.getfield 7, 3) := by decide +kernel
theorem dX8_needed_4 : decode cX8_needed 4 = .ok (.sipush 179, 3) := by decide +kernel
theorem dX8_needed_7 : decode cX8_needed 7 = .ok (.iaload, 1) := by decide +kernel
theorem dX8_needed_8 : decode cX8_needed 8 = .ok (.ifCond .ge 11, 3) := by decide +kernel
theorem dX8_needed_11 : decode cX8_needed 11 = .ok (.iconst 1, 1) := by decide +kernel
theorem dX8_needed_12 : decode cX8_needed 12 = .ok (.iload_n 2, 1) := by decide +kernel
theorem dX8_needed_13 : decode cX8_needed 13 = .ok (.iconst 4, 1) := by decide +kernel
theorem dX8_needed_14 : decode cX8_needed 14 = .ok (.idiv, 1) := by decide +kernel
theorem dX8_needed_15 : decode cX8_needed 15 = .ok (.iadd, 1) := by decide +kernel
theorem dX8_needed_16 : decode cX8_needed 16 = .ok (.goto 11, 3) := by decide +kernel
theorem dX8_needed_19 : decode cX8_needed 19 = .ok (.aload_n 0, 1) := by decide +kernel
theorem dX8_needed_20 : decode cX8_needed 20 = .ok (.iconst 0, 1) := by decide +kernel
theorem dX8_needed_21 : decode cX8_needed 21 = .ok (.iload_n 1, 1) := by decide +kernel
theorem dX8_needed_22 : decode cX8_needed 22 = .ok (.iload_n 2, 1) := by decide +kernel
theorem dX8_needed_23 : decode cX8_needed 23 = .ok (.iload_n 3, 1) := by decide +kernel
theorem dX8_needed_24 : decode cX8_needed 24 = .ok (.invokevirtual 189, 3) := by decide +kernel
theorem dX8_needed_27 : decode cX8_needed 27 = .ok (.iconst 0, 1) := by decide +kernel
theorem dX8_needed_28 : decode cX8_needed 28 = .ok (.bipush 99, 2) := by decide +kernel
theorem dX8_needed_30 : decode cX8_needed 30 = .ok (.invokestatic 193, 3) := by decide +kernel
theorem dX8_needed_33 : decode cX8_needed 33 = .ok (.ireturn, 1) := by decide +kernel
theorem dX8_parched_0 : decode cX8_parched 0 = .ok (.aload_n 0, 1) := by decide +kernel
theorem dX8_parched_1 : decode cX8_parched 1 = .ok (.getfield 7, 3) := by decide +kernel
theorem dX8_parched_4 : decode cX8_parched 4 = .ok (.sipush 180, 3) := by decide +kernel
theorem dX8_parched_7 : decode cX8_parched 7 = .ok (.iaload, 1) := by decide +kernel
theorem dX8_parched_8 : decode cX8_parched 8 = .ok (.ifCond .ge 7, 3) := by decide +kernel
theorem dX8_parched_11 : decode cX8_parched 11 = .ok (.iload_n 1, 1) := by decide +kernel
theorem dX8_parched_12 : decode cX8_parched 12 = .ok (.goto 11, 3) := by decide +kernel
theorem dX8_parched_15 : decode cX8_parched 15 = .ok (.aload_n 0, 1) := by decide +kernel
theorem dX8_parched_16 : decode cX8_parched 16 = .ok (.iconst 1, 1) := by decide +kernel
theorem dX8_parched_17 : decode cX8_parched 17 = .ok (.iload_n 1, 1) := by decide +kernel
theorem dX8_parched_18 : decode cX8_parched 18 = .ok (.iload_n 2, 1) := by decide +kernel
theorem dX8_parched_19 : decode cX8_parched 19 = .ok (.iload_n 3, 1) := by decide +kernel
theorem dX8_parched_20 : decode cX8_parched 20 = .ok (.invokevirtual 189, 3) := by decide +kernel
theorem dX8_parched_23 : decode cX8_parched 23 = .ok (.iconst 0, 1) := by decide +kernel
theorem dX8_parched_24 : decode cX8_parched 24 = .ok (.bipush 99, 2) := by decide +kernel
theorem dX8_parched_26 : decode cX8_parched 26 = .ok (.invokestatic 193, 3) := by decide +kernel
theorem dX8_parched_29 : decode cX8_parched 29 = .ok (.ireturn, 1) := by decide +kernel
theorem dX8_law_0 : decode cX8_law 0 = .ok (.iload_n 1, 1) := by decide +kernel
theorem dX8_law_1 : decode cX8_law 1 = .ok (.i2l, 1) := by decide +kernel
theorem dX8_law_2 : decode cX8_law 2 = .ok (.lconst 0, 1) := by decide +kernel
theorem dX8_law_3 : decode cX8_law 3 = .ok (.lconst 1, 1) := by decide +kernel
theorem dX8_law_4 : decode cX8_law 4 = .ok (.invokestatic 46, 3) := by decide +kernel
theorem dX8_law_7 : decode cX8_law 7 = .ok (.ifCond .ne 10, 3) := by decide +kernel
theorem dX8_law_10 : decode cX8_law 10 = .ok (.aload_n 0, 1) := by decide +kernel
theorem dX8_law_11 : decode cX8_law 11 = .ok (.ldc 67, 2) := by decide +kernel
theorem dX8_law_13 : decode cX8_law 13 = .ok (.invokevirtual 68, 3) := by decide +kernel
theorem dX8_law_16 : decode cX8_law 16 = .ok (.ireturn, 1) := by decide +kernel
theorem dX8_law_17 : decode cX8_law 17 = .ok (.iload_n 1, 1) := by decide +kernel
theorem dX8_law_18 : decode cX8_law 18 = .ok (.ifCond .ne 14, 3) := by decide +kernel
theorem dX8_law_21 : decode cX8_law 21 = .ok (.aload_n 0, 1) := by decide +kernel
theorem dX8_law_22 : decode cX8_law 22 = .ok (.iload_n 2, 1) := by decide +kernel
theorem dX8_law_23 : decode cX8_law 23 = .ok (.iload_n 3, 1) := by decide +kernel
theorem dX8_law_24 : decode cX8_law 24 = .ok (.iload 4, 2) := by decide +kernel
theorem dX8_law_26 : decode cX8_law 26 = .ok (.invokevirtual 99, 3) := by decide +kernel
theorem dX8_law_29 : decode cX8_law 29 = .ok (.goto 11, 3) := by decide +kernel
theorem dX8_law_32 : decode cX8_law 32 = .ok (.aload_n 0, 1) := by decide +kernel
theorem dX8_law_33 : decode cX8_law 33 = .ok (.iload_n 2, 1) := by decide +kernel
theorem dX8_law_34 : decode cX8_law 34 = .ok (.iload_n 3, 1) := by decide +kernel
theorem dX8_law_35 : decode cX8_law 35 = .ok (.iload 4, 2) := by decide +kernel
theorem dX8_law_37 : decode cX8_law 37 = .ok (.invokevirtual 196, 3) := by decide +kernel
theorem dX8_law_40 : decode cX8_law 40 = .ok (.ireturn, 1) := by decide +kernel
theorem dX8_drink_0 : decode cX8_drink 0 = .ok (.aload_n 0, 1) := by decide +kernel
theorem dX8_drink_1 : decode cX8_drink 1 = .ok (.iload_n 1, 1) := by decide +kernel
theorem dX8_drink_2 : decode cX8_drink 2 = .ok (.invokevirtual 103, 3) := by decide +kernel
theorem dX8_drink_5 : decode cX8_drink 5 = .ok (.ifCond .ne 10, 3) := by decide +kernel
theorem dX8_drink_8 : decode cX8_drink 8 = .ok (.aload_n 0, 1) := by decide +kernel
theorem dX8_drink_9 : decode cX8_drink 9 = .ok (.ldc 67, 2) := by decide +kernel
theorem dX8_drink_11 : decode cX8_drink 11 = .ok (.invokevirtual 68, 3) := by decide +kernel
theorem dX8_drink_14 : decode cX8_drink 14 = .ok (.ireturn, 1) := by decide +kernel
theorem dX8_drink_15 : decode cX8_drink 15 = .ok (.aload_n 0, 1) := by decide +kernel
theorem dX8_drink_16 : decode cX8_drink 16 = .ok (.iload_n 1, 1) := by decide +kernel
theorem dX8_drink_17 : decode cX8_drink 17 = .ok (.iconst 2, 1) := by decide +kernel
theorem dX8_drink_18 : decode cX8_drink 18 = .ok (.invokevirtual 79, 3) := by decide +kernel
theorem dX8_drink_21 : decode cX8_drink 21 = .ok (.istore_n 2, 1) := by decide +kernel
theorem dX8_drink_22 : decode cX8_drink 22 = .ok (.aload_n 0, 1) := by decide +kernel
theorem dX8_drink_23 : decode cX8_drink 23 = .ok (.iload_n 1, 1) := by decide +kernel
theorem dX8_drink_24 : decode cX8_drink 24 = .ok (.aload_n 0, 1) := by decide +kernel
theorem dX8_drink_25 : decode cX8_drink 25 = .ok (.iload_n 1, 1) := by decide +kernel
theorem dX8_drink_26 : decode cX8_drink 26 = .ok (.iconst 4, 1) := by decide +kernel
theorem dX8_drink_27 : decode cX8_drink 27 = .ok (.invokevirtual 79, 3) := by decide +kernel
theorem dX8_drink_30 : decode cX8_drink 30 = .ok (.invokevirtual 111, 3) := by decide +kernel
theorem dX8_drink_33 : decode cX8_drink 33 = .ok (.istore_n 3, 1) := by decide +kernel
theorem dX8_drink_34 : decode cX8_drink 34 = .ok (.aload_n 0, 1) := by decide +kernel
theorem dX8_drink_35 : decode cX8_drink 35 = .ok (.iload_n 1, 1) := by decide +kernel
theorem dX8_drink_36 : decode cX8_drink 36 = .ok (.iconst 5, 1) := by decide +kernel
theorem dX8_drink_37 : decode cX8_drink 37 = .ok (.invokevirtual 79, 3) := by decide +kernel
theorem dX8_drink_40 : decode cX8_drink 40 = .ok (.iconst 1, 1) := by decide +kernel
theorem dX8_drink_41 : decode cX8_drink 41 = .ok (.if_icmp .eq 15, 3) := by decide +kernel
theorem dX8_drink_44 : decode cX8_drink 44 = .ok (.aload_n 0, 1) := by decide +kernel
theorem dX8_drink_45 : decode cX8_drink 45 = .ok (.getfield 7, 3) := by decide +kernel
theorem dX8_drink_48 : decode cX8_drink 48 = .ok (.iconst 0, 1) := by decide +kernel
theorem dX8_drink_49 : decode cX8_drink 49 = .ok (.iload_n 2, 1) := by decide +kernel
theorem dX8_drink_50 : decode cX8_drink 50 = .ok (.iadd, 1) := by decide +kernel
theorem dX8_drink_51 : decode cX8_drink 51 = .ok (.iaload, 1) := by decide +kernel
theorem dX8_drink_52 : decode cX8_drink 52 = .ok (.iload_n 3, 1) := by decide +kernel
theorem dX8_drink_53 : decode cX8_drink 53 = .ok (.if_icmp .ge 10, 3) := by decide +kernel
theorem dX8_drink_56 : decode cX8_drink 56 = .ok (.aload_n 0, 1) := by decide +kernel
theorem dX8_drink_57 : decode cX8_drink 57 = .ok (.ldc 199, 2) := by decide +kernel
theorem dX8_drink_59 : decode cX8_drink 59 = .ok (.invokevirtual 68, 3) := by decide +kernel
theorem dX8_drink_62 : decode cX8_drink 62 = .ok (.ireturn, 1) := by decide +kernel
theorem dX8_drink_63 : decode cX8_drink 63 = .ok (.aload_n 0, 1) := by decide +kernel
theorem dX8_drink_64 : decode cX8_drink 64 = .ok (.getfield 7, 3) := by decide +kernel
theorem dX8_drink_67 : decode cX8_drink 67 = .ok (.iconst 0, 1) := by decide +kernel
theorem dX8_drink_68 : decode cX8_drink 68 = .ok (.iload_n 2, 1) := by decide +kernel
theorem dX8_drink_69 : decode cX8_drink 69 = .ok (.iadd, 1) := by decide +kernel
theorem dX8_drink_70 : decode cX8_drink 70 = .ok (.dup2, 1) := by decide +kernel
theorem dX8_drink_71 : decode cX8_drink 71 = .ok (.iaload, 1) := by decide +kernel
theorem dX8_drink_72 : decode cX8_drink 72 = .ok (.iload_n 3, 1) := by decide +kernel
theorem dX8_drink_73 : decode cX8_drink 73 = .ok (.isub, 1) := by decide +kernel
theorem dX8_drink_74 : decode cX8_drink 74 = .ok (.iastore, 1) := by decide +kernel
theorem dX8_drink_75 : decode cX8_drink 75 = .ok (.aload_n 0, 1) := by decide +kernel
theorem dX8_drink_76 : decode cX8_drink 76 = .ok (.getfield 7, 3) := by decide +kernel
theorem dX8_drink_79 : decode cX8_drink 79 = .ok (.iload_n 1, 1) := by decide +kernel
theorem dX8_drink_80 : decode cX8_drink 80 = .ok (.iconst 4, 1) := by decide +kernel
theorem dX8_drink_81 : decode cX8_drink 81 = .ok (.invokestatic 54, 3) := by decide +kernel
theorem dX8_drink_84 : decode cX8_drink 84 = .ok (.iconst 0, 1) := by decide +kernel
theorem dX8_drink_85 : decode cX8_drink 85 = .ok (.iastore, 1) := by decide +kernel
theorem dX8_drink_86 : decode cX8_drink 86 = .ok (.aload_n 0, 1) := by decide +kernel
theorem dX8_drink_87 : decode cX8_drink 87 = .ok (.getfield 7, 3) := by decide +kernel
theorem dX8_drink_90 : decode cX8_drink 90 = .ok (.iload_n 1, 1) := by decide +kernel
theorem dX8_drink_91 : decode cX8_drink 91 = .ok (.iconst 3, 1) := by decide +kernel
theorem dX8_drink_92 : decode cX8_drink 92 = .ok (.invokestatic 54, 3) := by decide +kernel
theorem dX8_drink_95 : decode cX8_drink 95 = .ok (.aload_n 0, 1) := by decide +kernel
theorem dX8_drink_96 : decode cX8_drink 96 = .ok (.iload_n 1, 1) := by decide +kernel
theorem dX8_drink_97 : decode cX8_drink 97 = .ok (.iload_n 2, 1) := by decide +kernel
theorem dX8_drink_98 : decode cX8_drink 98 = .ok (.invokevirtual 200, 3) := by decide +kernel
theorem dX8_drink_101 : decode cX8_drink 101 = .ok (.iastore, 1) := by decide +kernel
theorem dX8_drink_102 : decode cX8_drink 102 = .ok (.aload_n 0, 1) := by decide +kernel
theorem dX8_drink_103 : decode cX8_drink 103 = .ok (.iload_n 1, 1) := by decide +kernel
theorem dX8_drink_104 : decode cX8_drink 104 = .ok (.iconst 3, 1) := by decide +kernel
theorem dX8_drink_105 : decode cX8_drink 105 = .ok (.invokevirtual 79, 3) := by decide +kernel
theorem dX8_drink_108 : decode cX8_drink 108 = .ok (.ireturn, 1) := by decide +kernel
theorem dX8_thirstBy_0 : decode cX8_thirstBy 0 = .ok (.aload_n 0, 1) := by decide +kernel
theorem dX8_thirstBy_1 : decode cX8_thirstBy 1 = .ok (.iload_n 2, 1) := by decide +kernel
theorem dX8_thirstBy_2 : decode cX8_thirstBy 2 = .ok (.aload_n 0, 1) := by decide +kernel
theorem dX8_thirstBy_3 : decode cX8_thirstBy 3 = .ok (.iload_n 1, 1) := by decide +kernel
theorem dX8_thirstBy_4 : decode cX8_thirstBy 4 = .ok (.iconst 1, 1) := by decide +kernel
theorem dX8_thirstBy_5 : decode cX8_thirstBy 5 = .ok (.invokevirtual 79, 3) := by decide +kernel
theorem dX8_thirstBy_8 : decode cX8_thirstBy 8 = .ok (.aload_n 0, 1) := by decide +kernel
theorem dX8_thirstBy_9 : decode cX8_thirstBy 9 = .ok (.getfield 7, 3) := by decide +kernel
theorem dX8_thirstBy_12 : decode cX8_thirstBy 12 = .ok (.sipush 138, 3) := by decide +kernel
theorem dX8_thirstBy_15 : decode cX8_thirstBy 15 = .ok (.iaload, 1) := by decide +kernel
theorem dX8_thirstBy_16 : decode cX8_thirstBy 16 = .ok (.invokevirtual 196, 3) := by decide +kernel
theorem dX8_thirstBy_19 : decode cX8_thirstBy 19 = .ok (.ireturn, 1) := by decide +kernel
theorem dX8_dies_0 : decode cX8_dies 0 = .ok (.aload_n 0, 1) := by decide +kernel
theorem dX8_dies_1 : decode cX8_dies 1 = .ok (.getfield 7, 3) := by decide +kernel
theorem dX8_dies_4 : decode cX8_dies 4 = .ok (.iload_n 1, 1) := by decide +kernel
theorem dX8_dies_5 : decode cX8_dies 5 = .ok (.iconst 5, 1) := by decide +kernel
theorem dX8_dies_6 : decode cX8_dies 6 = .ok (.invokestatic 54, 3) := by decide +kernel
theorem dX8_dies_9 : decode cX8_dies 9 = .ok (.aload_n 0, 1) := by decide +kernel
theorem dX8_dies_10 : decode cX8_dies 10 = .ok (.iload_n 1, 1) := by decide +kernel
theorem dX8_dies_11 : decode cX8_dies 11 = .ok (.iconst 4, 1) := by decide +kernel
theorem dX8_dies_12 : decode cX8_dies 12 = .ok (.invokevirtual 79, 3) := by decide +kernel
theorem dX8_dies_15 : decode cX8_dies 15 = .ok (.aload_n 0, 1) := by decide +kernel
theorem dX8_dies_16 : decode cX8_dies 16 = .ok (.iload_n 1, 1) := by decide +kernel
theorem dX8_dies_17 : decode cX8_dies 17 = .ok (.invokevirtual 108, 3) := by decide +kernel
theorem dX8_dies_20 : decode cX8_dies 20 = .ok (.if_icmp .le 7, 3) := by decide +kernel
theorem dX8_dies_23 : decode cX8_dies 23 = .ok (.iconst 1, 1) := by decide +kernel
theorem dX8_dies_24 : decode cX8_dies 24 = .ok (.goto 9, 3) := by decide +kernel
theorem dX8_dies_27 : decode cX8_dies 27 = .ok (.aload_n 0, 1) := by decide +kernel
theorem dX8_dies_28 : decode cX8_dies 28 = .ok (.iload_n 1, 1) := by decide +kernel
theorem dX8_dies_29 : decode cX8_dies 29 = .ok (.iconst 5, 1) := by decide +kernel
theorem dX8_dies_30 : decode cX8_dies 30 = .ok (.invokevirtual 79, 3) := by decide +kernel
theorem dX8_dies_33 : decode cX8_dies 33 = .ok (.iastore, 1) := by decide +kernel
theorem dX8_dies_34 : decode cX8_dies 34 = .ok (.return_, 1) := by decide +kernel
theorem dX8_go_0 : decode cX8_go 0 = .ok (.aload_n 0, 1) := by decide +kernel
theorem dX8_go_1 : decode cX8_go 1 = .ok (.iload_n 1, 1) := by decide +kernel
theorem dX8_go_2 : decode cX8_go 2 = .ok (.invokevirtual 103, 3) := by decide +kernel
theorem dX8_go_5 : decode cX8_go 5 = .ok (.ifCond .eq 20, 3) := by decide +kernel
theorem dX8_go_8 : decode cX8_go 8 = .ok (.iload_n 2, 1) := by decide +kernel
theorem dX8_go_9 : decode cX8_go 9 = .ok (.invokestatic 58, 3) := by decide +kernel
theorem dX8_go_12 : decode cX8_go 12 = .ok (.ifCond .eq 13, 3) := by decide +kernel
theorem dX8_go_15 : decode cX8_go 15 = .ok (.iload_n 2, 1) := by decide +kernel
theorem dX8_go_16 : decode cX8_go 16 = .ok (.aload_n 0, 1) := by decide +kernel
theorem dX8_go_17 : decode cX8_go 17 = .ok (.iload_n 1, 1) := by decide +kernel
theorem dX8_go_18 : decode cX8_go 18 = .ok (.iconst 2, 1) := by decide +kernel
theorem dX8_go_19 : decode cX8_go 19 = .ok (.invokevirtual 79, 3) := by decide +kernel
theorem dX8_go_22 : decode cX8_go 22 = .ok (.if_icmp .ne 10, 3) := by decide +kernel
theorem dX8_go_25 : decode cX8_go 25 = .ok (.aload_n 0, 1) := by decide +kernel
theorem dX8_go_26 : decode cX8_go 26 = .ok (.ldc 67, 2) := by decide +kernel
theorem dX8_go_28 : decode cX8_go 28 = .ok (.invokevirtual 68, 3) := by decide +kernel
theorem dX8_go_31 : decode cX8_go 31 = .ok (.ireturn, 1) := by decide +kernel
theorem dX8_go_32 : decode cX8_go 32 = .ok (.aload_n 0, 1) := by decide +kernel
theorem dX8_go_33 : decode cX8_go 33 = .ok (.aload_n 0, 1) := by decide +kernel
theorem dX8_go_34 : decode cX8_go 34 = .ok (.iload_n 1, 1) := by decide +kernel
theorem dX8_go_35 : decode cX8_go 35 = .ok (.iconst 2, 1) := by decide +kernel
theorem dX8_go_36 : decode cX8_go 36 = .ok (.invokevirtual 79, 3) := by decide +kernel
theorem dX8_go_39 : decode cX8_go 39 = .ok (.iload_n 2, 1) := by decide +kernel
theorem dX8_go_40 : decode cX8_go 40 = .ok (.invokevirtual 76, 3) := by decide +kernel
theorem dX8_go_43 : decode cX8_go 43 = .ok (.istore_n 3, 1) := by decide +kernel
theorem dX8_go_44 : decode cX8_go 44 = .ok (.aload_n 0, 1) := by decide +kernel
theorem dX8_go_45 : decode cX8_go 45 = .ok (.iload_n 1, 1) := by decide +kernel
theorem dX8_go_46 : decode cX8_go 46 = .ok (.iconst 5, 1) := by decide +kernel
theorem dX8_go_47 : decode cX8_go 47 = .ok (.invokevirtual 79, 3) := by decide +kernel
theorem dX8_go_50 : decode cX8_go 50 = .ok (.iconst 1, 1) := by decide +kernel
theorem dX8_go_51 : decode cX8_go 51 = .ok (.if_icmp .eq 22, 3) := by decide +kernel
theorem dX8_go_54 : decode cX8_go 54 = .ok (.iload_n 3, 1) := by decide +kernel
theorem dX8_go_55 : decode cX8_go 55 = .ok (.ifCond .eq 18, 3) := by decide +kernel
theorem dX8_go_58 : decode cX8_go 58 = .ok (.aload_n 0, 1) := by decide +kernel
theorem dX8_go_59 : decode cX8_go 59 = .ok (.getfield 7, 3) := by decide +kernel
theorem dX8_go_62 : decode cX8_go 62 = .ok (.sipush 137, 3) := by decide +kernel
theorem dX8_go_65 : decode cX8_go 65 = .ok (.iaload, 1) := by decide +kernel
theorem dX8_go_66 : decode cX8_go 66 = .ok (.iload_n 3, 1) := by decide +kernel
theorem dX8_go_67 : decode cX8_go 67 = .ok (.iadd, 1) := by decide +kernel
theorem dX8_go_68 : decode cX8_go 68 = .ok (.ldc 203, 2) := by decide +kernel
theorem dX8_go_70 : decode cX8_go 70 = .ok (.if_icmp .le 10, 3) := by decide +kernel
theorem dX8_go_73 : decode cX8_go 73 = .ok (.aload_n 0, 1) := by decide +kernel
theorem dX8_go_74 : decode cX8_go 74 = .ok (.ldc 199, 2) := by decide +kernel
theorem dX8_go_76 : decode cX8_go 76 = .ok (.invokevirtual 68, 3) := by decide +kernel
theorem dX8_go_79 : decode cX8_go 79 = .ok (.ireturn, 1) := by decide +kernel
theorem dX8_go_80 : decode cX8_go 80 = .ok (.aload_n 0, 1) := by decide +kernel
theorem dX8_go_81 : decode cX8_go 81 = .ok (.getfield 7, 3) := by decide +kernel
theorem dX8_go_84 : decode cX8_go 84 = .ok (.iload_n 1, 1) := by decide +kernel
theorem dX8_go_85 : decode cX8_go 85 = .ok (.iconst 4, 1) := by decide +kernel
theorem dX8_go_86 : decode cX8_go 86 = .ok (.invokestatic 54, 3) := by decide +kernel
theorem dX8_go_89 : decode cX8_go 89 = .ok (.dup2, 1) := by decide +kernel
theorem dX8_go_90 : decode cX8_go 90 = .ok (.iaload, 1) := by decide +kernel
theorem dX8_go_91 : decode cX8_go 91 = .ok (.aload_n 0, 1) := by decide +kernel
theorem dX8_go_92 : decode cX8_go 92 = .ok (.iload_n 1, 1) := by decide +kernel
theorem dX8_go_93 : decode cX8_go 93 = .ok (.iload_n 3, 1) := by decide +kernel
theorem dX8_go_94 : decode cX8_go 94 = .ok (.invokevirtual 204, 3) := by decide +kernel
theorem dX8_go_97 : decode cX8_go 97 = .ok (.iadd, 1) := by decide +kernel
theorem dX8_go_98 : decode cX8_go 98 = .ok (.iastore, 1) := by decide +kernel
theorem dX8_go_99 : decode cX8_go 99 = .ok (.aload_n 0, 1) := by decide +kernel
theorem dX8_go_100 : decode cX8_go 100 = .ok (.getfield 7, 3) := by decide +kernel
theorem dX8_go_103 : decode cX8_go 103 = .ok (.iload_n 1, 1) := by decide +kernel
theorem dX8_go_104 : decode cX8_go 104 = .ok (.iconst 2, 1) := by decide +kernel
theorem dX8_go_105 : decode cX8_go 105 = .ok (.invokestatic 54, 3) := by decide +kernel
theorem dX8_go_108 : decode cX8_go 108 = .ok (.iload_n 2, 1) := by decide +kernel
theorem dX8_go_109 : decode cX8_go 109 = .ok (.iastore, 1) := by decide +kernel
theorem dX8_go_110 : decode cX8_go 110 = .ok (.aload_n 0, 1) := by decide +kernel
theorem dX8_go_111 : decode cX8_go 111 = .ok (.getfield 7, 3) := by decide +kernel
theorem dX8_go_114 : decode cX8_go 114 = .ok (.sipush 137, 3) := by decide +kernel
theorem dX8_go_117 : decode cX8_go 117 = .ok (.dup2, 1) := by decide +kernel
theorem dX8_go_118 : decode cX8_go 118 = .ok (.iaload, 1) := by decide +kernel
theorem dX8_go_119 : decode cX8_go 119 = .ok (.iload_n 3, 1) := by decide +kernel
theorem dX8_go_120 : decode cX8_go 120 = .ok (.iadd, 1) := by decide +kernel
theorem dX8_go_121 : decode cX8_go 121 = .ok (.iastore, 1) := by decide +kernel
theorem dX8_go_122 : decode cX8_go 122 = .ok (.aload_n 0, 1) := by decide +kernel
theorem dX8_go_123 : decode cX8_go 123 = .ok (.iload_n 1, 1) := by decide +kernel
theorem dX8_go_124 : decode cX8_go 124 = .ok (.invokevirtual 207, 3) := by decide +kernel
theorem dX8_go_127 : decode cX8_go 127 = .ok (.aload_n 0, 1) := by decide +kernel
theorem dX8_go_128 : decode cX8_go 128 = .ok (.iload_n 1, 1) := by decide +kernel
theorem dX8_go_129 : decode cX8_go 129 = .ok (.iconst 4, 1) := by decide +kernel
theorem dX8_go_130 : decode cX8_go 130 = .ok (.invokevirtual 79, 3) := by decide +kernel
theorem dX8_go_133 : decode cX8_go 133 = .ok (.ireturn, 1) := by decide +kernel
theorem dX8_pay_0 : decode cX8_pay 0 = .ok (.aload_n 0, 1) := by decide +kernel
theorem dX8_pay_1 : decode cX8_pay 1 = .ok (.iload_n 1, 1) := by decide +kernel
theorem dX8_pay_2 : decode cX8_pay 2 = .ok (.invokevirtual 103, 3) := by decide +kernel
theorem dX8_pay_5 : decode cX8_pay 5 = .ok (.ifCond .eq 32, 3) := by decide +kernel
theorem dX8_pay_8 : decode cX8_pay 8 = .ok (.iload_n 2, 1) := by decide +kernel
theorem dX8_pay_9 : decode cX8_pay 9 = .ok (.invokestatic 58, 3) := by decide +kernel
theorem dX8_pay_12 : decode cX8_pay 12 = .ok (.ifCond .eq 25, 3) := by decide +kernel
theorem dX8_pay_15 : decode cX8_pay 15 = .ok (.iload_n 2, 1) := by decide +kernel
theorem dX8_pay_16 : decode cX8_pay 16 = .ok (.aload_n 0, 1) := by decide +kernel
theorem dX8_pay_17 : decode cX8_pay 17 = .ok (.iload_n 1, 1) := by decide +kernel
theorem dX8_pay_18 : decode cX8_pay 18 = .ok (.iconst 3, 1) := by decide +kernel
theorem dX8_pay_19 : decode cX8_pay 19 = .ok (.invokevirtual 79, 3) := by decide +kernel
theorem dX8_pay_22 : decode cX8_pay 22 = .ok (.if_icmp .eq 15, 3) := by decide +kernel
theorem dX8_pay_25 : decode cX8_pay 25 = .ok (.iload_n 3, 1) := by decide +kernel
theorem dX8_pay_26 : decode cX8_pay 26 = .ok (.i2l, 1) := by decide +kernel
theorem dX8_pay_27 : decode cX8_pay 27 = .ok (.lconst 1, 1) := by decide +kernel
theorem dX8_pay_28 : decode cX8_pay 28 = .ok (.ldc2_w 74, 3) := by decide +kernel
theorem dX8_pay_31 : decode cX8_pay 31 = .ok (.invokestatic 46, 3) := by decide +kernel
theorem dX8_pay_34 : decode cX8_pay 34 = .ok (.ifCond .ne 10, 3) := by decide +kernel
theorem dX8_pay_37 : decode cX8_pay 37 = .ok (.aload_n 0, 1) := by decide +kernel
theorem dX8_pay_38 : decode cX8_pay 38 = .ok (.ldc 67, 2) := by decide +kernel
theorem dX8_pay_40 : decode cX8_pay 40 = .ok (.invokevirtual 68, 3) := by decide +kernel
theorem dX8_pay_43 : decode cX8_pay 43 = .ok (.ireturn, 1) := by decide +kernel
theorem dX8_pay_44 : decode cX8_pay 44 = .ok (.aload_n 0, 1) := by decide +kernel
theorem dX8_pay_45 : decode cX8_pay 45 = .ok (.iload_n 1, 1) := by decide +kernel
theorem dX8_pay_46 : decode cX8_pay 46 = .ok (.iconst 3, 1) := by decide +kernel
theorem dX8_pay_47 : decode cX8_pay 47 = .ok (.invokevirtual 79, 3) := by decide +kernel
theorem dX8_pay_50 : decode cX8_pay 50 = .ok (.istore 4, 2) := by decide +kernel
theorem dX8_pay_52 : decode cX8_pay 52 = .ok (.aload_n 0, 1) := by decide +kernel
theorem dX8_pay_53 : decode cX8_pay 53 = .ok (.iload_n 1, 1) := by decide +kernel
theorem dX8_pay_54 : decode cX8_pay 54 = .ok (.iconst 5, 1) := by decide +kernel
theorem dX8_pay_55 : decode cX8_pay 55 = .ok (.invokevirtual 79, 3) := by decide +kernel
theorem dX8_pay_58 : decode cX8_pay 58 = .ok (.iconst 1, 1) := by decide +kernel
theorem dX8_pay_59 : decode cX8_pay 59 = .ok (.if_icmp .eq 27, 3) := by decide +kernel
theorem dX8_pay_62 : decode cX8_pay 62 = .ok (.iload 4, 2) := by decide +kernel
theorem dX8_pay_64 : decode cX8_pay 64 = .ok (.ifCond .lt 22, 3) := by decide +kernel
theorem dX8_pay_67 : decode cX8_pay 67 = .ok (.aload_n 0, 1) := by decide +kernel
theorem dX8_pay_68 : decode cX8_pay 68 = .ok (.getfield 7, 3) := by decide +kernel
theorem dX8_pay_71 : decode cX8_pay 71 = .ok (.bipush 72, 2) := by decide +kernel
theorem dX8_pay_73 : decode cX8_pay 73 = .ok (.bipush 8, 2) := by decide +kernel
theorem dX8_pay_75 : decode cX8_pay 75 = .ok (.iload 4, 2) := by decide +kernel
theorem dX8_pay_77 : decode cX8_pay 77 = .ok (.imul, 1) := by decide +kernel
theorem dX8_pay_78 : decode cX8_pay 78 = .ok (.iadd, 1) := by decide +kernel
theorem dX8_pay_79 : decode cX8_pay 79 = .ok (.iload_n 2, 1) := by decide +kernel
theorem dX8_pay_80 : decode cX8_pay 80 = .ok (.iadd, 1) := by decide +kernel
theorem dX8_pay_81 : decode cX8_pay 81 = .ok (.iaload, 1) := by decide +kernel
theorem dX8_pay_82 : decode cX8_pay 82 = .ok (.iload_n 3, 1) := by decide +kernel
theorem dX8_pay_83 : decode cX8_pay 83 = .ok (.if_icmp .ge 10, 3) := by decide +kernel
theorem dX8_pay_86 : decode cX8_pay 86 = .ok (.aload_n 0, 1) := by decide +kernel
theorem dX8_pay_87 : decode cX8_pay 87 = .ok (.ldc 199, 2) := by decide +kernel
theorem dX8_pay_89 : decode cX8_pay 89 = .ok (.invokevirtual 68, 3) := by decide +kernel
theorem dX8_pay_92 : decode cX8_pay 92 = .ok (.ireturn, 1) := by decide +kernel
theorem dX8_pay_93 : decode cX8_pay 93 = .ok (.aload_n 0, 1) := by decide +kernel
theorem dX8_pay_94 : decode cX8_pay 94 = .ok (.getfield 7, 3) := by decide +kernel
theorem dX8_pay_97 : decode cX8_pay 97 = .ok (.bipush 72, 2) := by decide +kernel
theorem dX8_pay_99 : decode cX8_pay 99 = .ok (.bipush 8, 2) := by decide +kernel
theorem dX8_pay_101 : decode cX8_pay 101 = .ok (.iload 4, 2) := by decide +kernel
theorem dX8_pay_103 : decode cX8_pay 103 = .ok (.imul, 1) := by decide +kernel
theorem dX8_pay_104 : decode cX8_pay 104 = .ok (.iadd, 1) := by decide +kernel
theorem dX8_pay_105 : decode cX8_pay 105 = .ok (.iload_n 2, 1) := by decide +kernel
theorem dX8_pay_106 : decode cX8_pay 106 = .ok (.iadd, 1) := by decide +kernel
theorem dX8_pay_107 : decode cX8_pay 107 = .ok (.dup2, 1) := by decide +kernel
theorem dX8_pay_108 : decode cX8_pay 108 = .ok (.iaload, 1) := by decide +kernel
theorem dX8_pay_109 : decode cX8_pay 109 = .ok (.iload_n 3, 1) := by decide +kernel
theorem dX8_pay_110 : decode cX8_pay 110 = .ok (.isub, 1) := by decide +kernel
theorem dX8_pay_111 : decode cX8_pay 111 = .ok (.iastore, 1) := by decide +kernel
theorem dX8_pay_112 : decode cX8_pay 112 = .ok (.aload_n 0, 1) := by decide +kernel
theorem dX8_pay_113 : decode cX8_pay 113 = .ok (.getfield 7, 3) := by decide +kernel
theorem dX8_pay_116 : decode cX8_pay 116 = .ok (.bipush 72, 2) := by decide +kernel
theorem dX8_pay_118 : decode cX8_pay 118 = .ok (.bipush 8, 2) := by decide +kernel
theorem dX8_pay_120 : decode cX8_pay 120 = .ok (.iload 4, 2) := by decide +kernel
theorem dX8_pay_122 : decode cX8_pay 122 = .ok (.imul, 1) := by decide +kernel
theorem dX8_pay_123 : decode cX8_pay 123 = .ok (.iadd, 1) := by decide +kernel
theorem dX8_pay_124 : decode cX8_pay 124 = .ok (.iload_n 2, 1) := by decide +kernel
theorem dX8_pay_125 : decode cX8_pay 125 = .ok (.iadd, 1) := by decide +kernel
theorem dX8_pay_126 : decode cX8_pay 126 = .ok (.iaload, 1) := by decide +kernel
theorem dX8_pay_127 : decode cX8_pay 127 = .ok (.ireturn, 1) := by decide +kernel
theorem dX8_day_0 : decode cX8_day 0 = .ok (.iconst 0, 1) := by decide +kernel
theorem dX8_day_1 : decode cX8_day 1 = .ok (.istore_n 1, 1) := by decide +kernel
theorem dX8_day_2 : decode cX8_day 2 = .ok (.iload_n 1, 1) := by decide +kernel
theorem dX8_day_3 : decode cX8_day 3 = .ok (.bipush 8, 2) := by decide +kernel
theorem dX8_day_5 : decode cX8_day 5 = .ok (.if_icmp .ge 40, 3) := by decide +kernel
theorem dX8_day_8 : decode cX8_day 8 = .ok (.aload_n 0, 1) := by decide +kernel
theorem dX8_day_9 : decode cX8_day 9 = .ok (.getfield 7, 3) := by decide +kernel
theorem dX8_day_12 : decode cX8_day 12 = .ok (.iconst 0, 1) := by decide +kernel
theorem dX8_day_13 : decode cX8_day 13 = .ok (.iload_n 1, 1) := by decide +kernel
theorem dX8_day_14 : decode cX8_day 14 = .ok (.iadd, 1) := by decide +kernel
theorem dX8_day_15 : decode cX8_day 15 = .ok (.aload_n 0, 1) := by decide +kernel
theorem dX8_day_16 : decode cX8_day 16 = .ok (.getfield 7, 3) := by decide +kernel
theorem dX8_day_19 : decode cX8_day 19 = .ok (.iconst 0, 1) := by decide +kernel
theorem dX8_day_20 : decode cX8_day 20 = .ok (.iload_n 1, 1) := by decide +kernel
theorem dX8_day_21 : decode cX8_day 21 = .ok (.iadd, 1) := by decide +kernel
theorem dX8_day_22 : decode cX8_day 22 = .ok (.iaload, 1) := by decide +kernel
theorem dX8_day_23 : decode cX8_day 23 = .ok (.aload_n 0, 1) := by decide +kernel
theorem dX8_day_24 : decode cX8_day 24 = .ok (.getfield 7, 3) := by decide +kernel
theorem dX8_day_27 : decode cX8_day 27 = .ok (.sipush 136, 3) := by decide +kernel
theorem dX8_day_30 : decode cX8_day 30 = .ok (.iaload, 1) := by decide +kernel
theorem dX8_day_31 : decode cX8_day 31 = .ok (.iadd, 1) := by decide +kernel
theorem dX8_day_32 : decode cX8_day 32 = .ok (.iconst 0, 1) := by decide +kernel
theorem dX8_day_33 : decode cX8_day 33 = .ok (.bipush 99, 2) := by decide +kernel
theorem dX8_day_35 : decode cX8_day 35 = .ok (.invokestatic 193, 3) := by decide +kernel
theorem dX8_day_38 : decode cX8_day 38 = .ok (.iastore, 1) := by decide +kernel
theorem dX8_day_39 : decode cX8_day 39 = .ok (.iinc 1 1, 3) := by decide +kernel
theorem dX8_day_42 : decode cX8_day 42 = .ok (.goto (-40), 3) := by decide +kernel
theorem dX8_day_45 : decode cX8_day 45 = .ok (.iconst 0, 1) := by decide +kernel
theorem dX8_day_46 : decode cX8_day 46 = .ok (.istore_n 1, 1) := by decide +kernel
theorem dX8_day_47 : decode cX8_day 47 = .ok (.iload_n 1, 1) := by decide +kernel
theorem dX8_day_48 : decode cX8_day 48 = .ok (.aload_n 0, 1) := by decide +kernel
theorem dX8_day_49 : decode cX8_day 49 = .ok (.getfield 7, 3) := by decide +kernel
theorem dX8_day_52 : decode cX8_day 52 = .ok (.sipush 139, 3) := by decide +kernel
theorem dX8_day_55 : decode cX8_day 55 = .ok (.iaload, 1) := by decide +kernel
theorem dX8_day_56 : decode cX8_day 56 = .ok (.if_icmp .ge 37, 3) := by decide +kernel
theorem dX8_day_59 : decode cX8_day 59 = .ok (.aload_n 0, 1) := by decide +kernel
theorem dX8_day_60 : decode cX8_day 60 = .ok (.iload_n 1, 1) := by decide +kernel
theorem dX8_day_61 : decode cX8_day 61 = .ok (.iconst 5, 1) := by decide +kernel
theorem dX8_day_62 : decode cX8_day 62 = .ok (.invokevirtual 79, 3) := by decide +kernel
theorem dX8_day_65 : decode cX8_day 65 = .ok (.ifCond .ne 22, 3) := by decide +kernel
theorem dX8_day_68 : decode cX8_day 68 = .ok (.aload_n 0, 1) := by decide +kernel
theorem dX8_day_69 : decode cX8_day 69 = .ok (.getfield 7, 3) := by decide +kernel
theorem dX8_day_72 : decode cX8_day 72 = .ok (.iload_n 1, 1) := by decide +kernel
theorem dX8_day_73 : decode cX8_day 73 = .ok (.iconst 4, 1) := by decide +kernel
theorem dX8_day_74 : decode cX8_day 74 = .ok (.invokestatic 54, 3) := by decide +kernel
theorem dX8_day_77 : decode cX8_day 77 = .ok (.dup2, 1) := by decide +kernel
theorem dX8_day_78 : decode cX8_day 78 = .ok (.iaload, 1) := by decide +kernel
theorem dX8_day_79 : decode cX8_day 79 = .ok (.iconst 1, 1) := by decide +kernel
theorem dX8_day_80 : decode cX8_day 80 = .ok (.iadd, 1) := by decide +kernel
theorem dX8_day_81 : decode cX8_day 81 = .ok (.iastore, 1) := by decide +kernel
theorem dX8_day_82 : decode cX8_day 82 = .ok (.aload_n 0, 1) := by decide +kernel
theorem dX8_day_83 : decode cX8_day 83 = .ok (.iload_n 1, 1) := by decide +kernel
theorem dX8_day_84 : decode cX8_day 84 = .ok (.invokevirtual 207, 3) := by decide +kernel
theorem dX8_day_87 : decode cX8_day 87 = .ok (.iinc 1 1, 3) := by decide +kernel
theorem dX8_day_90 : decode cX8_day 90 = .ok (.goto (-43), 3) := by decide +kernel
theorem dX8_day_93 : decode cX8_day 93 = .ok (.aload_n 0, 1) := by decide +kernel
theorem dX8_day_94 : decode cX8_day 94 = .ok (.getfield 7, 3) := by decide +kernel
theorem dX8_day_97 : decode cX8_day 97 = .ok (.sipush 138, 3) := by decide +kernel
theorem dX8_day_100 : decode cX8_day 100 = .ok (.dup2, 1) := by decide +kernel
theorem dX8_day_101 : decode cX8_day 101 = .ok (.iaload, 1) := by decide +kernel
theorem dX8_day_102 : decode cX8_day 102 = .ok (.iconst 1, 1) := by decide +kernel
theorem dX8_day_103 : decode cX8_day 103 = .ok (.iadd, 1) := by decide +kernel
theorem dX8_day_104 : decode cX8_day 104 = .ok (.iastore, 1) := by decide +kernel
theorem dX8_day_105 : decode cX8_day 105 = .ok (.aload_n 0, 1) := by decide +kernel
theorem dX8_day_106 : decode cX8_day 106 = .ok (.getfield 7, 3) := by decide +kernel
theorem dX8_day_109 : decode cX8_day 109 = .ok (.sipush 137, 3) := by decide +kernel
theorem dX8_day_112 : decode cX8_day 112 = .ok (.dup2, 1) := by decide +kernel
theorem dX8_day_113 : decode cX8_day 113 = .ok (.iaload, 1) := by decide +kernel
theorem dX8_day_114 : decode cX8_day 114 = .ok (.iconst 1, 1) := by decide +kernel
theorem dX8_day_115 : decode cX8_day 115 = .ok (.iadd, 1) := by decide +kernel
theorem dX8_day_116 : decode cX8_day 116 = .ok (.iastore, 1) := by decide +kernel
theorem dX8_day_117 : decode cX8_day 117 = .ok (.return_, 1) := by decide +kernel
theorem dX8_dead_0 : decode cX8_dead 0 = .ok (.iconst 0, 1) := by decide +kernel
theorem dX8_dead_1 : decode cX8_dead 1 = .ok (.istore_n 1, 1) := by decide +kernel
theorem dX8_dead_2 : decode cX8_dead 2 = .ok (.iconst 0, 1) := by decide +kernel
theorem dX8_dead_3 : decode cX8_dead 3 = .ok (.istore_n 2, 1) := by decide +kernel
theorem dX8_dead_4 : decode cX8_dead 4 = .ok (.iload_n 2, 1) := by decide +kernel
theorem dX8_dead_5 : decode cX8_dead 5 = .ok (.aload_n 0, 1) := by decide +kernel
theorem dX8_dead_6 : decode cX8_dead 6 = .ok (.getfield 7, 3) := by decide +kernel
theorem dX8_dead_9 : decode cX8_dead 9 = .ok (.sipush 139, 3) := by decide +kernel
theorem dX8_dead_12 : decode cX8_dead 12 = .ok (.iaload, 1) := by decide +kernel
theorem dX8_dead_13 : decode cX8_dead 13 = .ok (.if_icmp .ge 18, 3) := by decide +kernel
theorem dX8_dead_16 : decode cX8_dead 16 = .ok (.iload_n 1, 1) := by decide +kernel
theorem dX8_dead_17 : decode cX8_dead 17 = .ok (.aload_n 0, 1) := by decide +kernel
theorem dX8_dead_18 : decode cX8_dead 18 = .ok (.iload_n 2, 1) := by decide +kernel
theorem dX8_dead_19 : decode cX8_dead 19 = .ok (.iconst 5, 1) := by decide +kernel
theorem dX8_dead_20 : decode cX8_dead 20 = .ok (.invokevirtual 79, 3) := by decide +kernel
theorem dX8_dead_23 : decode cX8_dead 23 = .ok (.iadd, 1) := by decide +kernel
theorem dX8_dead_24 : decode cX8_dead 24 = .ok (.istore_n 1, 1) := by decide +kernel
theorem dX8_dead_25 : decode cX8_dead 25 = .ok (.iinc 2 1, 3) := by decide +kernel
theorem dX8_dead_28 : decode cX8_dead 28 = .ok (.goto (-24), 3) := by decide +kernel
theorem dX8_dead_31 : decode cX8_dead 31 = .ok (.iload_n 1, 1) := by decide +kernel
theorem dX8_dead_32 : decode cX8_dead 32 = .ok (.ireturn, 1) := by decide +kernel
theorem dX8_wrongDays_0 : decode cX8_wrongDays 0 = .ok (.iload_n 1, 1) := by decide +kernel
theorem dX8_wrongDays_1 : decode cX8_wrongDays 1 = .ok (.i2l, 1) := by decide +kernel
theorem dX8_wrongDays_2 : decode cX8_wrongDays 2 = .ok (.lconst 1, 1) := by decide +kernel
theorem dX8_wrongDays_3 : decode cX8_wrongDays 3 = .ok (.iload_n 2, 1) := by decide +kernel
theorem dX8_wrongDays_4 : decode cX8_wrongDays 4 = .ok (.i2l, 1) := by decide +kernel
theorem dX8_wrongDays_5 : decode cX8_wrongDays 5 = .ok (.invokestatic 46, 3) := by decide +kernel
theorem dX8_wrongDays_8 : decode cX8_wrongDays 8 = .ok (.ifCond .ne 8, 3) := by decide +kernel
theorem dX8_wrongDays_11 : decode cX8_wrongDays 11 = .ok (.ldc 67, 2) := by decide +kernel
theorem dX8_wrongDays_13 : decode cX8_wrongDays 13 = .ok (.goto 40, 3) := by decide +kernel
theorem dX8_wrongDays_16 : decode cX8_wrongDays 16 = .ok (.aload_n 0, 1) := by decide +kernel
theorem dX8_wrongDays_17 : decode cX8_wrongDays 17 = .ok (.getfield 7, 3) := by decide +kernel
theorem dX8_wrongDays_20 : decode cX8_wrongDays 20 = .ok (.sipush 138, 3) := by decide +kernel
theorem dX8_wrongDays_23 : decode cX8_wrongDays 23 = .ok (.iaload, 1) := by decide +kernel
theorem dX8_wrongDays_24 : decode cX8_wrongDays 24 = .ok (.iload_n 1, 1) := by decide +kernel
theorem dX8_wrongDays_25 : decode cX8_wrongDays 25 = .ok (.iadd, 1) := by decide +kernel
theorem dX8_wrongDays_26 : decode cX8_wrongDays 26 = .ok (.sipush 9999, 3) := by decide +kernel
theorem dX8_wrongDays_29 : decode cX8_wrongDays 29 = .ok (.if_icmp .gt 18, 3) := by decide +kernel
theorem dX8_wrongDays_32 : decode cX8_wrongDays 32 = .ok (.aload_n 0, 1) := by decide +kernel
theorem dX8_wrongDays_33 : decode cX8_wrongDays 33 = .ok (.getfield 7, 3) := by decide +kernel
theorem dX8_wrongDays_36 : decode cX8_wrongDays 36 = .ok (.sipush 137, 3) := by decide +kernel
theorem dX8_wrongDays_39 : decode cX8_wrongDays 39 = .ok (.iaload, 1) := by decide +kernel
theorem dX8_wrongDays_40 : decode cX8_wrongDays 40 = .ok (.iload_n 1, 1) := by decide +kernel
theorem dX8_wrongDays_41 : decode cX8_wrongDays 41 = .ok (.iadd, 1) := by decide +kernel
theorem dX8_wrongDays_42 : decode cX8_wrongDays 42 = .ok (.ldc 203, 2) := by decide +kernel
theorem dX8_wrongDays_44 : decode cX8_wrongDays 44 = .ok (.if_icmp .le 8, 3) := by decide +kernel
theorem dX8_wrongDays_47 : decode cX8_wrongDays 47 = .ok (.ldc 199, 2) := by decide +kernel
theorem dX8_wrongDays_49 : decode cX8_wrongDays 49 = .ok (.goto 4, 3) := by decide +kernel
theorem dX8_wrongDays_52 : decode cX8_wrongDays 52 = .ok (.iconst 0, 1) := by decide +kernel
theorem dX8_wrongDays_53 : decode cX8_wrongDays 53 = .ok (.ireturn, 1) := by decide +kernel
theorem dX8_days_0 : decode cX8_days 0 = .ok (.aload_n 0, 1) := by decide +kernel
theorem dX8_days_1 : decode cX8_days 1 = .ok (.iload_n 1, 1) := by decide +kernel
theorem dX8_days_2 : decode cX8_days 2 = .ok (.bipush 60, 2) := by decide +kernel
theorem dX8_days_4 : decode cX8_days 4 = .ok (.invokevirtual 211, 3) := by decide +kernel
theorem dX8_days_7 : decode cX8_days 7 = .ok (.istore_n 2, 1) := by decide +kernel
theorem dX8_days_8 : decode cX8_days 8 = .ok (.iload_n 2, 1) := by decide +kernel
theorem dX8_days_9 : decode cX8_days 9 = .ok (.ifCond .eq 9, 3) := by decide +kernel
theorem dX8_days_12 : decode cX8_days 12 = .ok (.aload_n 0, 1) := by decide +kernel
theorem dX8_days_13 : decode cX8_days 13 = .ok (.iload_n 2, 1) := by decide +kernel
theorem dX8_days_14 : decode cX8_days 14 = .ok (.invokevirtual 68, 3) := by decide +kernel
theorem dX8_days_17 : decode cX8_days 17 = .ok (.ireturn, 1) := by decide +kernel
theorem dX8_days_18 : decode cX8_days 18 = .ok (.iconst 0, 1) := by decide +kernel
theorem dX8_days_19 : decode cX8_days 19 = .ok (.istore_n 3, 1) := by decide +kernel
theorem dX8_days_20 : decode cX8_days 20 = .ok (.iload_n 3, 1) := by decide +kernel
theorem dX8_days_21 : decode cX8_days 21 = .ok (.iload_n 1, 1) := by decide +kernel
theorem dX8_days_22 : decode cX8_days 22 = .ok (.if_icmp .ge 13, 3) := by decide +kernel
theorem dX8_days_25 : decode cX8_days 25 = .ok (.aload_n 0, 1) := by decide +kernel
theorem dX8_days_26 : decode cX8_days 26 = .ok (.invokevirtual 214, 3) := by decide +kernel
theorem dX8_days_29 : decode cX8_days 29 = .ok (.iinc 3 1, 3) := by decide +kernel
theorem dX8_days_32 : decode cX8_days 32 = .ok (.goto (-12), 3) := by decide +kernel
theorem dX8_days_35 : decode cX8_days 35 = .ok (.aload_n 0, 1) := by decide +kernel
theorem dX8_days_36 : decode cX8_days 36 = .ok (.invokevirtual 217, 3) := by decide +kernel
theorem dX8_days_39 : decode cX8_days 39 = .ok (.ireturn, 1) := by decide +kernel
theorem dX8_draw_0 : decode cX8_draw 0 = .ok (.aload_n 0, 1) := by decide +kernel
theorem dX8_draw_1 : decode cX8_draw 1 = .ok (.getfield 7, 3) := by decide +kernel
theorem dX8_draw_4 : decode cX8_draw 4 = .ok (.sipush 176, 3) := by decide +kernel
theorem dX8_draw_7 : decode cX8_draw 7 = .ok (.aload_n 0, 1) := by decide +kernel
theorem dX8_draw_8 : decode cX8_draw 8 = .ok (.getfield 7, 3) := by decide +kernel
theorem dX8_draw_11 : decode cX8_draw 11 = .ok (.sipush 176, 3) := by decide +kernel
theorem dX8_draw_14 : decode cX8_draw 14 = .ok (.iaload, 1) := by decide +kernel
theorem dX8_draw_15 : decode cX8_draw 15 = .ok (.ldc 220, 2) := by decide +kernel
theorem dX8_draw_17 : decode cX8_draw 17 = .ok (.imul, 1) := by decide +kernel
theorem dX8_draw_18 : decode cX8_draw 18 = .ok (.sipush 12345, 3) := by decide +kernel
theorem dX8_draw_21 : decode cX8_draw 21 = .ok (.iadd, 1) := by decide +kernel
theorem dX8_draw_22 : decode cX8_draw 22 = .ok (.iastore, 1) := by decide +kernel
theorem dX8_draw_23 : decode cX8_draw 23 = .ok (.aload_n 0, 1) := by decide +kernel
theorem dX8_draw_24 : decode cX8_draw 24 = .ok (.getfield 7, 3) := by decide +kernel
theorem dX8_draw_27 : decode cX8_draw 27 = .ok (.sipush 176, 3) := by decide +kernel
theorem dX8_draw_30 : decode cX8_draw 30 = .ok (.iaload, 1) := by decide +kernel
theorem dX8_draw_31 : decode cX8_draw 31 = .ok (.bipush 8, 2) := by decide +kernel
theorem dX8_draw_33 : decode cX8_draw 33 = .ok (.iushr, 1) := by decide +kernel
theorem dX8_draw_34 : decode cX8_draw 34 = .ok (.ireturn, 1) := by decide +kernel
theorem dX8_loose_0 : decode cX8_loose 0 = .ok (.aload_n 0, 1) := by decide +kernel
theorem dX8_loose_1 : decode cX8_loose 1 = .ok (.iload_n 1, 1) := by decide +kernel
theorem dX8_loose_2 : decode cX8_loose 2 = .ok (.bipush 40, 2) := by decide +kernel
theorem dX8_loose_4 : decode cX8_loose 4 = .ok (.invokevirtual 211, 3) := by decide +kernel
theorem dX8_loose_7 : decode cX8_loose 7 = .ok (.istore_n 2, 1) := by decide +kernel
theorem dX8_loose_8 : decode cX8_loose 8 = .ok (.iload_n 2, 1) := by decide +kernel
theorem dX8_loose_9 : decode cX8_loose 9 = .ok (.ifCond .eq 9, 3) := by decide +kernel
theorem dX8_loose_12 : decode cX8_loose 12 = .ok (.aload_n 0, 1) := by decide +kernel
theorem dX8_loose_13 : decode cX8_loose 13 = .ok (.iload_n 2, 1) := by decide +kernel
theorem dX8_loose_14 : decode cX8_loose 14 = .ok (.invokevirtual 68, 3) := by decide +kernel
theorem dX8_loose_17 : decode cX8_loose 17 = .ok (.ireturn, 1) := by decide +kernel
theorem dX8_loose_18 : decode cX8_loose 18 = .ok (.iconst 0, 1) := by decide +kernel
theorem dX8_loose_19 : decode cX8_loose 19 = .ok (.istore_n 3, 1) := by decide +kernel
theorem dX8_loose_20 : decode cX8_loose 20 = .ok (.iload_n 3, 1) := by decide +kernel
theorem dX8_loose_21 : decode cX8_loose 21 = .ok (.iload_n 1, 1) := by decide +kernel
theorem dX8_loose_22 : decode cX8_loose 22 = .ok (.if_icmp .ge 38, 3) := by decide +kernel
theorem dX8_loose_25 : decode cX8_loose 25 = .ok (.aload_n 0, 1) := by decide +kernel
theorem dX8_loose_26 : decode cX8_loose 26 = .ok (.invokevirtual 221, 3) := by decide +kernel
theorem dX8_loose_29 : decode cX8_loose 29 = .ok (.bipush 8, 2) := by decide +kernel
theorem dX8_loose_31 : decode cX8_loose 31 = .ok (.irem, 1) := by decide +kernel
theorem dX8_loose_32 : decode cX8_loose 32 = .ok (.istore 4, 2) := by decide +kernel
theorem dX8_loose_34 : decode cX8_loose 34 = .ok (.aload_n 0, 1) := by decide +kernel
theorem dX8_loose_35 : decode cX8_loose 35 = .ok (.getfield 7, 3) := by decide +kernel
theorem dX8_loose_38 : decode cX8_loose 38 = .ok (.iconst 0, 1) := by decide +kernel
theorem dX8_loose_39 : decode cX8_loose 39 = .ok (.iload 4, 2) := by decide +kernel
theorem dX8_loose_41 : decode cX8_loose 41 = .ok (.iadd, 1) := by decide +kernel
theorem dX8_loose_42 : decode cX8_loose 42 = .ok (.aload_n 0, 1) := by decide +kernel
theorem dX8_loose_43 : decode cX8_loose 43 = .ok (.invokevirtual 221, 3) := by decide +kernel
theorem dX8_loose_46 : decode cX8_loose 46 = .ok (.bipush 20, 2) := by decide +kernel
theorem dX8_loose_48 : decode cX8_loose 48 = .ok (.irem, 1) := by decide +kernel
theorem dX8_loose_49 : decode cX8_loose 49 = .ok (.iastore, 1) := by decide +kernel
theorem dX8_loose_50 : decode cX8_loose 50 = .ok (.aload_n 0, 1) := by decide +kernel
theorem dX8_loose_51 : decode cX8_loose 51 = .ok (.invokevirtual 214, 3) := by decide +kernel
theorem dX8_loose_54 : decode cX8_loose 54 = .ok (.iinc 3 1, 3) := by decide +kernel
theorem dX8_loose_57 : decode cX8_loose 57 = .ok (.goto (-37), 3) := by decide +kernel
theorem dX8_loose_60 : decode cX8_loose 60 = .ok (.aload_n 0, 1) := by decide +kernel
theorem dX8_loose_61 : decode cX8_loose 61 = .ok (.invokevirtual 217, 3) := by decide +kernel
theorem dX8_loose_64 : decode cX8_loose 64 = .ok (.ireturn, 1) := by decide +kernel
theorem dX8_same_0 : decode cX8_same 0 = .ok (.iconst 0, 1) := by decide +kernel
theorem dX8_same_1 : decode cX8_same 1 = .ok (.istore_n 1, 1) := by decide +kernel
theorem dX8_same_2 : decode cX8_same 2 = .ok (.iconst 0, 1) := by decide +kernel
theorem dX8_same_3 : decode cX8_same 3 = .ok (.istore_n 2, 1) := by decide +kernel
theorem dX8_same_4 : decode cX8_same 4 = .ok (.iload_n 2, 1) := by decide +kernel
theorem dX8_same_5 : decode cX8_same 5 = .ok (.bipush 8, 2) := by decide +kernel
theorem dX8_same_7 : decode cX8_same 7 = .ok (.if_icmp .ge 29, 3) := by decide +kernel
theorem dX8_same_10 : decode cX8_same 10 = .ok (.aload_n 0, 1) := by decide +kernel
theorem dX8_same_11 : decode cX8_same 11 = .ok (.iconst 3, 1) := by decide +kernel
theorem dX8_same_12 : decode cX8_same 12 = .ok (.iload_n 2, 1) := by decide +kernel
theorem dX8_same_13 : decode cX8_same 13 = .ok (.invokevirtual 87, 3) := by decide +kernel
theorem dX8_same_16 : decode cX8_same 16 = .ok (.invokestatic 224, 3) := by decide +kernel
theorem dX8_same_19 : decode cX8_same 19 = .ok (.istore_n 3, 1) := by decide +kernel
theorem dX8_same_20 : decode cX8_same 20 = .ok (.iload_n 1, 1) := by decide +kernel
theorem dX8_same_21 : decode cX8_same 21 = .ok (.iload_n 3, 1) := by decide +kernel
theorem dX8_same_22 : decode cX8_same 22 = .ok (.iload_n 3, 1) := by decide +kernel
theorem dX8_same_23 : decode cX8_same 23 = .ok (.iconst 1, 1) := by decide +kernel
theorem dX8_same_24 : decode cX8_same 24 = .ok (.isub, 1) := by decide +kernel
theorem dX8_same_25 : decode cX8_same 25 = .ok (.imul, 1) := by decide +kernel
theorem dX8_same_26 : decode cX8_same 26 = .ok (.iconst 2, 1) := by decide +kernel
theorem dX8_same_27 : decode cX8_same 27 = .ok (.idiv, 1) := by decide +kernel
theorem dX8_same_28 : decode cX8_same 28 = .ok (.iadd, 1) := by decide +kernel
theorem dX8_same_29 : decode cX8_same 29 = .ok (.istore_n 1, 1) := by decide +kernel
theorem dX8_same_30 : decode cX8_same 30 = .ok (.iinc 2 1, 3) := by decide +kernel
theorem dX8_same_33 : decode cX8_same 33 = .ok (.goto (-29), 3) := by decide +kernel
theorem dX8_same_36 : decode cX8_same 36 = .ok (.iload_n 1, 1) := by decide +kernel
theorem dX8_same_37 : decode cX8_same 37 = .ok (.ireturn, 1) := by decide +kernel
theorem dX8_ones_0 : decode cX8_ones 0 = .ok (.iconst 0, 1) := by decide +kernel
theorem dX8_ones_1 : decode cX8_ones 1 = .ok (.istore_n 1, 1) := by decide +kernel
theorem dX8_ones_2 : decode cX8_ones 2 = .ok (.iload_n 0, 1) := by decide +kernel
theorem dX8_ones_3 : decode cX8_ones 3 = .ok (.istore_n 2, 1) := by decide +kernel
theorem dX8_ones_4 : decode cX8_ones 4 = .ok (.iload_n 2, 1) := by decide +kernel
theorem dX8_ones_5 : decode cX8_ones 5 = .ok (.ifCond .eq 15, 3) := by decide +kernel
theorem dX8_ones_8 : decode cX8_ones 8 = .ok (.iinc 1 1, 3) := by decide +kernel
theorem dX8_ones_11 : decode cX8_ones 11 = .ok (.iload_n 2, 1) := by decide +kernel
theorem dX8_ones_12 : decode cX8_ones 12 = .ok (.iload_n 2, 1) := by decide +kernel
theorem dX8_ones_13 : decode cX8_ones 13 = .ok (.iconst 1, 1) := by decide +kernel
theorem dX8_ones_14 : decode cX8_ones 14 = .ok (.isub, 1) := by decide +kernel
theorem dX8_ones_15 : decode cX8_ones 15 = .ok (.iand, 1) := by decide +kernel
theorem dX8_ones_16 : decode cX8_ones 16 = .ok (.istore_n 2, 1) := by decide +kernel
theorem dX8_ones_17 : decode cX8_ones 17 = .ok (.goto (-13), 3) := by decide +kernel
theorem dX8_ones_20 : decode cX8_ones 20 = .ok (.iload_n 1, 1) := by decide +kernel
theorem dX8_ones_21 : decode cX8_ones 21 = .ok (.ireturn, 1) := by decide +kernel
theorem dX8_mayDrink_0 : decode cX8_mayDrink 0 = .ok (.iload_n 3, 1) := by decide +kernel
theorem dX8_mayDrink_1 : decode cX8_mayDrink 1 = .ok (.iload_n 2, 1) := by decide +kernel
theorem dX8_mayDrink_2 : decode cX8_mayDrink 2 = .ok (.ishr, 1) := by decide +kernel
theorem dX8_mayDrink_3 : decode cX8_mayDrink 3 = .ok (.iconst 1, 1) := by decide +kernel
theorem dX8_mayDrink_4 : decode cX8_mayDrink 4 = .ok (.iand, 1) := by decide +kernel
theorem dX8_mayDrink_5 : decode cX8_mayDrink 5 = .ok (.ifCond .ne 24, 3) := by decide +kernel
theorem dX8_mayDrink_8 : decode cX8_mayDrink 8 = .ok (.aload_n 0, 1) := by decide +kernel
theorem dX8_mayDrink_9 : decode cX8_mayDrink 9 = .ok (.getfield 7, 3) := by decide +kernel
theorem dX8_mayDrink_12 : decode cX8_mayDrink 12 = .ok (.iconst 0, 1) := by decide +kernel
theorem dX8_mayDrink_13 : decode cX8_mayDrink 13 = .ok (.iload_n 2, 1) := by decide +kernel
theorem dX8_mayDrink_14 : decode cX8_mayDrink 14 = .ok (.iadd, 1) := by decide +kernel
theorem dX8_mayDrink_15 : decode cX8_mayDrink 15 = .ok (.iaload, 1) := by decide +kernel
theorem dX8_mayDrink_16 : decode cX8_mayDrink 16 = .ok (.aload_n 0, 1) := by decide +kernel
theorem dX8_mayDrink_17 : decode cX8_mayDrink 17 = .ok (.iload_n 1, 1) := by decide +kernel
theorem dX8_mayDrink_18 : decode cX8_mayDrink 18 = .ok (.iconst 0, 1) := by decide +kernel
theorem dX8_mayDrink_19 : decode cX8_mayDrink 19 = .ok (.invokevirtual 111, 3) := by decide +kernel
theorem dX8_mayDrink_22 : decode cX8_mayDrink 22 = .ok (.if_icmp .lt 7, 3) := by decide +kernel
theorem dX8_mayDrink_25 : decode cX8_mayDrink 25 = .ok (.iconst 1, 1) := by decide +kernel
theorem dX8_mayDrink_26 : decode cX8_mayDrink 26 = .ok (.goto 4, 3) := by decide +kernel
theorem dX8_mayDrink_29 : decode cX8_mayDrink 29 = .ok (.iconst 0, 1) := by decide +kernel
theorem dX8_mayDrink_30 : decode cX8_mayDrink 30 = .ok (.ireturn, 1) := by decide +kernel
theorem dX8_lessens_0 : decode cX8_lessens 0 = .ok (.bipush 37, 2) := by decide +kernel
theorem dX8_lessens_2 : decode cX8_lessens 2 = .ok (.iload_n 1, 1) := by decide +kernel
theorem dX8_lessens_3 : decode cX8_lessens 3 = .ok (.imul, 1) := by decide +kernel
theorem dX8_lessens_4 : decode cX8_lessens 4 = .ok (.iload_n 2, 1) := by decide +kernel
theorem dX8_lessens_5 : decode cX8_lessens 5 = .ok (.iadd, 1) := by decide +kernel
theorem dX8_lessens_6 : decode cX8_lessens 6 = .ok (.istore 4, 2) := by decide +kernel
theorem dX8_lessens_8 : decode cX8_lessens 8 = .ok (.iload_n 3, 1) := by decide +kernel
theorem dX8_lessens_9 : decode cX8_lessens 9 = .ok (.aload_n 0, 1) := by decide +kernel
theorem dX8_lessens_10 : decode cX8_lessens 10 = .ok (.getfield 22, 3) := by decide +kernel
theorem dX8_lessens_13 : decode cX8_lessens 13 = .ok (.iload 4, 2) := by decide +kernel
theorem dX8_lessens_15 : decode cX8_lessens 15 = .ok (.iaload, 1) := by decide +kernel
theorem dX8_lessens_16 : decode cX8_lessens 16 = .ok (.if_icmp .ge 7, 3) := by decide +kernel
theorem dX8_lessens_19 : decode cX8_lessens 19 = .ok (.iconst 1, 1) := by decide +kernel
theorem dX8_lessens_20 : decode cX8_lessens 20 = .ok (.goto 4, 3) := by decide +kernel
theorem dX8_lessens_23 : decode cX8_lessens 23 = .ok (.iconst 0, 1) := by decide +kernel
theorem dX8_lessens_24 : decode cX8_lessens 24 = .ok (.istore 5, 2) := by decide +kernel
theorem dX8_lessens_26 : decode cX8_lessens 26 = .ok (.aload_n 0, 1) := by decide +kernel
theorem dX8_lessens_27 : decode cX8_lessens 27 = .ok (.getfield 22, 3) := by decide +kernel
theorem dX8_lessens_30 : decode cX8_lessens 30 = .ok (.iload 4, 2) := by decide +kernel
theorem dX8_lessens_32 : decode cX8_lessens 32 = .ok (.iload 5, 2) := by decide +kernel
theorem dX8_lessens_34 : decode cX8_lessens 34 = .ok (.ifCond .eq 7, 3) := by decide +kernel
theorem dX8_lessens_37 : decode cX8_lessens 37 = .ok (.iload_n 3, 1) := by decide +kernel
theorem dX8_lessens_38 : decode cX8_lessens 38 = .ok (.goto 10, 3) := by decide +kernel
theorem dX8_lessens_41 : decode cX8_lessens 41 = .ok (.aload_n 0, 1) := by decide +kernel
theorem dX8_lessens_42 : decode cX8_lessens 42 = .ok (.getfield 22, 3) := by decide +kernel
theorem dX8_lessens_45 : decode cX8_lessens 45 = .ok (.iload 4, 2) := by decide +kernel
theorem dX8_lessens_47 : decode cX8_lessens 47 = .ok (.iaload, 1) := by decide +kernel
theorem dX8_lessens_48 : decode cX8_lessens 48 = .ok (.iastore, 1) := by decide +kernel
theorem dX8_lessens_49 : decode cX8_lessens 49 = .ok (.iload 5, 2) := by decide +kernel
theorem dX8_lessens_51 : decode cX8_lessens 51 = .ok (.ireturn, 1) := by decide +kernel
theorem dX8_spreads_0 : decode cX8_spreads 0 = .ok (.iconst 0, 1) := by decide +kernel
theorem dX8_spreads_1 : decode cX8_spreads 1 = .ok (.istore 4, 2) := by decide +kernel
theorem dX8_spreads_3 : decode cX8_spreads 3 = .ok (.iload 4, 2) := by decide +kernel
theorem dX8_spreads_5 : decode cX8_spreads 5 = .ok (.sipush 296, 3) := by decide +kernel
theorem dX8_spreads_8 : decode cX8_spreads 8 = .ok (.if_icmp .ge 18, 3) := by decide +kernel
theorem dX8_spreads_11 : decode cX8_spreads 11 = .ok (.aload_n 0, 1) := by decide +kernel
theorem dX8_spreads_12 : decode cX8_spreads 12 = .ok (.getfield 22, 3) := by decide +kernel
theorem dX8_spreads_15 : decode cX8_spreads 15 = .ok (.iload 4, 2) := by decide +kernel
theorem dX8_spreads_17 : decode cX8_spreads 17 = .ok (.ldc 227, 2) := by decide +kernel
theorem dX8_spreads_19 : decode cX8_spreads 19 = .ok (.iastore, 1) := by decide +kernel
theorem dX8_spreads_20 : decode cX8_spreads 20 = .ok (.iinc 4 1, 3) := by decide +kernel
theorem dX8_spreads_23 : decode cX8_spreads 23 = .ok (.goto (-20), 3) := by decide +kernel
theorem dX8_spreads_26 : decode cX8_spreads 26 = .ok (.iconst 0, 1) := by decide +kernel
theorem dX8_spreads_27 : decode cX8_spreads 27 = .ok (.istore 4, 2) := by decide +kernel
theorem dX8_spreads_29 : decode cX8_spreads 29 = .ok (.iload 4, 2) := by decide +kernel
theorem dX8_spreads_31 : decode cX8_spreads 31 = .ok (.bipush 64, 2) := by decide +kernel
theorem dX8_spreads_33 : decode cX8_spreads 33 = .ok (.if_icmp .ge 49, 3) := by decide +kernel
theorem dX8_spreads_36 : decode cX8_spreads 36 = .ok (.aload_n 0, 1) := by decide +kernel
theorem dX8_spreads_37 : decode cX8_spreads 37 = .ok (.getfield 25, 3) := by decide +kernel
theorem dX8_spreads_40 : decode cX8_spreads 40 = .ok (.iload 4, 2) := by decide +kernel
theorem dX8_spreads_42 : decode cX8_spreads 42 = .ok (.aload_n 0, 1) := by decide +kernel
theorem dX8_spreads_43 : decode cX8_spreads 43 = .ok (.getfield 7, 3) := by decide +kernel
theorem dX8_spreads_46 : decode cX8_spreads 46 = .ok (.bipush 8, 2) := by decide +kernel
theorem dX8_spreads_48 : decode cX8_spreads 48 = .ok (.iload 4, 2) := by decide +kernel
theorem dX8_spreads_50 : decode cX8_spreads 50 = .ok (.iadd, 1) := by decide +kernel
theorem dX8_spreads_51 : decode cX8_spreads 51 = .ok (.iaload, 1) := by decide +kernel
theorem dX8_spreads_52 : decode cX8_spreads 52 = .ok (.ifCond .le 21, 3) := by decide +kernel
theorem dX8_spreads_55 : decode cX8_spreads 55 = .ok (.aload_n 0, 1) := by decide +kernel
theorem dX8_spreads_56 : decode cX8_spreads 56 = .ok (.iload_n 1, 1) := by decide +kernel
theorem dX8_spreads_57 : decode cX8_spreads 57 = .ok (.aload_n 0, 1) := by decide +kernel
theorem dX8_spreads_58 : decode cX8_spreads 58 = .ok (.getfield 7, 3) := by decide +kernel
theorem dX8_spreads_61 : decode cX8_spreads 61 = .ok (.bipush 8, 2) := by decide +kernel
theorem dX8_spreads_63 : decode cX8_spreads 63 = .ok (.iload 4, 2) := by decide +kernel
theorem dX8_spreads_65 : decode cX8_spreads 65 = .ok (.iadd, 1) := by decide +kernel
theorem dX8_spreads_66 : decode cX8_spreads 66 = .ok (.iaload, 1) := by decide +kernel
theorem dX8_spreads_67 : decode cX8_spreads 67 = .ok (.invokevirtual 204, 3) := by decide +kernel
theorem dX8_spreads_70 : decode cX8_spreads 70 = .ok (.goto 5, 3) := by decide +kernel
theorem dX8_spreads_73 : decode cX8_spreads 73 = .ok (.ldc 227, 2) := by decide +kernel
theorem dX8_spreads_75 : decode cX8_spreads 75 = .ok (.iastore, 1) := by decide +kernel
theorem dX8_spreads_76 : decode cX8_spreads 76 = .ok (.iinc 4 1, 3) := by decide +kernel
theorem dX8_spreads_79 : decode cX8_spreads 79 = .ok (.goto (-50), 3) := by decide +kernel
theorem dX8_spreads_82 : decode cX8_spreads 82 = .ok (.aload_n 0, 1) := by decide +kernel
theorem dX8_spreads_83 : decode cX8_spreads 83 = .ok (.iload_n 1, 1) := by decide +kernel
theorem dX8_spreads_84 : decode cX8_spreads 84 = .ok (.invokevirtual 108, 3) := by decide +kernel
theorem dX8_spreads_87 : decode cX8_spreads 87 = .ok (.istore 4, 2) := by decide +kernel
theorem dX8_spreads_89 : decode cX8_spreads 89 = .ok (.aload_n 0, 1) := by decide +kernel
theorem dX8_spreads_90 : decode cX8_spreads 90 = .ok (.aload_n 0, 1) := by decide +kernel
theorem dX8_spreads_91 : decode cX8_spreads 91 = .ok (.iload_n 1, 1) := by decide +kernel
theorem dX8_spreads_92 : decode cX8_spreads 92 = .ok (.iconst 2, 1) := by decide +kernel
theorem dX8_spreads_93 : decode cX8_spreads 93 = .ok (.invokevirtual 79, 3) := by decide +kernel
theorem dX8_spreads_96 : decode cX8_spreads 96 = .ok (.aload_n 0, 1) := by decide +kernel
theorem dX8_spreads_97 : decode cX8_spreads 97 = .ok (.iload_n 1, 1) := by decide +kernel
theorem dX8_spreads_98 : decode cX8_spreads 98 = .ok (.iconst 4, 1) := by decide +kernel
theorem dX8_spreads_99 : decode cX8_spreads 99 = .ok (.invokevirtual 79, 3) := by decide +kernel
theorem dX8_spreads_102 : decode cX8_spreads 102 = .ok (.iconst 0, 1) := by decide +kernel
theorem dX8_spreads_103 : decode cX8_spreads 103 = .ok (.invokevirtual 228, 3) := by decide +kernel
theorem dX8_spreads_106 : decode cX8_spreads 106 = .ok (.istore 5, 2) := by decide +kernel
theorem dX8_spreads_108 : decode cX8_spreads 108 = .ok (.iload 5, 2) := by decide +kernel
theorem dX8_spreads_110 : decode cX8_spreads 110 = .ok (.ifCond .eq 177, 3) := by decide +kernel
theorem dX8_spreads_113 : decode cX8_spreads 113 = .ok (.iconst 0, 1) := by decide +kernel
theorem dX8_spreads_114 : decode cX8_spreads 114 = .ok (.istore 5, 2) := by decide +kernel
theorem dX8_spreads_116 : decode cX8_spreads 116 = .ok (.iconst 0, 1) := by decide +kernel
theorem dX8_spreads_117 : decode cX8_spreads 117 = .ok (.istore 6, 2) := by decide +kernel
theorem dX8_spreads_119 : decode cX8_spreads 119 = .ok (.iload 6, 2) := by decide +kernel
theorem dX8_spreads_121 : decode cX8_spreads 121 = .ok (.sipush 296, 3) := by decide +kernel
theorem dX8_spreads_124 : decode cX8_spreads 124 = .ok (.if_icmp .ge 160, 3) := by decide +kernel
theorem dX8_spreads_127 : decode cX8_spreads 127 = .ok (.aload_n 0, 1) := by decide +kernel
theorem dX8_spreads_128 : decode cX8_spreads 128 = .ok (.getfield 22, 3) := by decide +kernel
theorem dX8_spreads_131 : decode cX8_spreads 131 = .ok (.iload 6, 2) := by decide +kernel
theorem dX8_spreads_133 : decode cX8_spreads 133 = .ok (.iaload, 1) := by decide +kernel
theorem dX8_spreads_134 : decode cX8_spreads 134 = .ok (.istore 7, 2) := by decide +kernel
theorem dX8_spreads_136 : decode cX8_spreads 136 = .ok (.iload 6, 2) := by decide +kernel
theorem dX8_spreads_138 : decode cX8_spreads 138 = .ok (.bipush 37, 2) := by decide +kernel
theorem dX8_spreads_140 : decode cX8_spreads 140 = .ok (.idiv, 1) := by decide +kernel
theorem dX8_spreads_141 : decode cX8_spreads 141 = .ok (.istore 8, 2) := by decide +kernel
theorem dX8_spreads_143 : decode cX8_spreads 143 = .ok (.iload 7, 2) := by decide +kernel
theorem dX8_spreads_145 : decode cX8_spreads 145 = .ok (.ldc 227, 2) := by decide +kernel
theorem dX8_spreads_147 : decode cX8_spreads 147 = .ok (.if_icmp .ge 39, 3) := by decide +kernel
theorem dX8_spreads_150 : decode cX8_spreads 150 = .ok (.aload_n 0, 1) := by decide +kernel
theorem dX8_spreads_151 : decode cX8_spreads 151 = .ok (.iload_n 1, 1) := by decide +kernel
theorem dX8_spreads_152 : decode cX8_spreads 152 = .ok (.iload 8, 2) := by decide +kernel
theorem dX8_spreads_154 : decode cX8_spreads 154 = .ok (.iload_n 2, 1) := by decide +kernel
theorem dX8_spreads_155 : decode cX8_spreads 155 = .ok (.invokevirtual 232, 3) := by decide +kernel
theorem dX8_spreads_158 : decode cX8_spreads 158 = .ok (.ifCond .eq 28, 3) := by decide +kernel
theorem dX8_spreads_161 : decode cX8_spreads 161 = .ok (.iload 5, 2) := by decide +kernel
theorem dX8_spreads_163 : decode cX8_spreads 163 = .ok (.aload_n 0, 1) := by decide +kernel
theorem dX8_spreads_164 : decode cX8_spreads 164 = .ok (.iload 8, 2) := by decide +kernel
theorem dX8_spreads_166 : decode cX8_spreads 166 = .ok (.iconst 0, 1) := by decide +kernel
theorem dX8_spreads_167 : decode cX8_spreads 167 = .ok (.iload_n 3, 1) := by decide +kernel
theorem dX8_spreads_168 : decode cX8_spreads 168 = .ok (.ifCond .eq 8, 3) := by decide +kernel
theorem dX8_spreads_171 : decode cX8_spreads 171 = .ok (.iload 7, 2) := by decide +kernel
theorem dX8_spreads_173 : decode cX8_spreads 173 = .ok (.goto 7, 3) := by decide +kernel
theorem dX8_spreads_176 : decode cX8_spreads 176 = .ok (.iload 7, 2) := by decide +kernel
theorem dX8_spreads_178 : decode cX8_spreads 178 = .ok (.iconst 1, 1) := by decide +kernel
theorem dX8_spreads_179 : decode cX8_spreads 179 = .ok (.iadd, 1) := by decide +kernel
theorem dX8_spreads_180 : decode cX8_spreads 180 = .ok (.invokevirtual 228, 3) := by decide +kernel
theorem dX8_spreads_183 : decode cX8_spreads 183 = .ok (.ior, 1) := by decide +kernel
theorem dX8_spreads_184 : decode cX8_spreads 184 = .ok (.istore 5, 2) := by decide +kernel
theorem dX8_spreads_186 : decode cX8_spreads 186 = .ok (.iconst 0, 1) := by decide +kernel
theorem dX8_spreads_187 : decode cX8_spreads 187 = .ok (.istore 9, 2) := by decide +kernel
theorem dX8_spreads_189 : decode cX8_spreads 189 = .ok (.iload 9, 2) := by decide +kernel
theorem dX8_spreads_191 : decode cX8_spreads 191 = .ok (.bipush 8, 2) := by decide +kernel
theorem dX8_spreads_193 : decode cX8_spreads 193 = .ok (.if_icmp .ge 85, 3) := by decide +kernel
theorem dX8_spreads_196 : decode cX8_spreads 196 = .ok (.iload 7, 2) := by decide +kernel
theorem dX8_spreads_198 : decode cX8_spreads 198 = .ok (.ldc 227, 2) := by decide +kernel
theorem dX8_spreads_200 : decode cX8_spreads 200 = .ok (.if_icmp .ge 78, 3) := by decide +kernel
theorem dX8_spreads_203 : decode cX8_spreads 203 = .ok (.iload 6, 2) := by decide +kernel
theorem dX8_spreads_205 : decode cX8_spreads 205 = .ok (.bipush 37, 2) := by decide +kernel
theorem dX8_spreads_207 : decode cX8_spreads 207 = .ok (.irem, 1) := by decide +kernel
theorem dX8_spreads_208 : decode cX8_spreads 208 = .ok (.aload_n 0, 1) := by decide +kernel
theorem dX8_spreads_209 : decode cX8_spreads 209 = .ok (.getfield 25, 3) := by decide +kernel
theorem dX8_spreads_212 : decode cX8_spreads 212 = .ok (.bipush 8, 2) := by decide +kernel
theorem dX8_spreads_214 : decode cX8_spreads 214 = .ok (.iload 8, 2) := by decide +kernel
theorem dX8_spreads_216 : decode cX8_spreads 216 = .ok (.imul, 1) := by decide +kernel
theorem dX8_spreads_217 : decode cX8_spreads 217 = .ok (.iload 9, 2) := by decide +kernel
theorem dX8_spreads_219 : decode cX8_spreads 219 = .ok (.iadd, 1) := by decide +kernel
theorem dX8_spreads_220 : decode cX8_spreads 220 = .ok (.iaload, 1) := by decide +kernel
theorem dX8_spreads_221 : decode cX8_spreads 221 = .ok (.iadd, 1) := by decide +kernel
theorem dX8_spreads_222 : decode cX8_spreads 222 = .ok (.istore 10, 2) := by decide +kernel
theorem dX8_spreads_224 : decode cX8_spreads 224 = .ok (.iload 10, 2) := by decide +kernel
theorem dX8_spreads_226 : decode cX8_spreads 226 = .ok (.iload 4, 2) := by decide +kernel
theorem dX8_spreads_228 : decode cX8_spreads 228 = .ok (.if_icmp .gt 44, 3) := by decide +kernel
theorem dX8_spreads_231 : decode cX8_spreads 231 = .ok (.iload 5, 2) := by decide +kernel
theorem dX8_spreads_233 : decode cX8_spreads 233 = .ok (.aload_n 0, 1) := by decide +kernel
theorem dX8_spreads_234 : decode cX8_spreads 234 = .ok (.iload 9, 2) := by decide +kernel
theorem dX8_spreads_236 : decode cX8_spreads 236 = .ok (.iload 10, 2) := by decide +kernel
theorem dX8_spreads_238 : decode cX8_spreads 238 = .ok (.iload_n 3, 1) := by decide +kernel
theorem dX8_spreads_239 : decode cX8_spreads 239 = .ok (.ifCond .eq 25, 3) := by decide +kernel
theorem dX8_spreads_242 : decode cX8_spreads 242 = .ok (.iload 7, 2) := by decide +kernel
theorem dX8_spreads_244 : decode cX8_spreads 244 = .ok (.aload_n 0, 1) := by decide +kernel
theorem dX8_spreads_245 : decode cX8_spreads 245 = .ok (.getfield 7, 3) := by decide +kernel
theorem dX8_spreads_248 : decode cX8_spreads 248 = .ok (.bipush 8, 2) := by decide +kernel
theorem dX8_spreads_250 : decode cX8_spreads 250 = .ok (.bipush 8, 2) := by decide +kernel
theorem dX8_spreads_252 : decode cX8_spreads 252 = .ok (.iload 8, 2) := by decide +kernel
theorem dX8_spreads_254 : decode cX8_spreads 254 = .ok (.imul, 1) := by decide +kernel
theorem dX8_spreads_255 : decode cX8_spreads 255 = .ok (.iadd, 1) := by decide +kernel
theorem dX8_spreads_256 : decode cX8_spreads 256 = .ok (.iload 9, 2) := by decide +kernel
theorem dX8_spreads_258 : decode cX8_spreads 258 = .ok (.iadd, 1) := by decide +kernel
theorem dX8_spreads_259 : decode cX8_spreads 259 = .ok (.iaload, 1) := by decide +kernel
theorem dX8_spreads_260 : decode cX8_spreads 260 = .ok (.iadd, 1) := by decide +kernel
theorem dX8_spreads_261 : decode cX8_spreads 261 = .ok (.goto 5, 3) := by decide +kernel
theorem dX8_spreads_264 : decode cX8_spreads 264 = .ok (.iload 7, 2) := by decide +kernel
theorem dX8_spreads_266 : decode cX8_spreads 266 = .ok (.invokevirtual 228, 3) := by decide +kernel
theorem dX8_spreads_269 : decode cX8_spreads 269 = .ok (.ior, 1) := by decide +kernel
theorem dX8_spreads_270 : decode cX8_spreads 270 = .ok (.istore 5, 2) := by decide +kernel
theorem dX8_spreads_272 : decode cX8_spreads 272 = .ok (.iinc 9 1, 3) := by decide +kernel
theorem dX8_spreads_275 : decode cX8_spreads 275 = .ok (.goto (-86), 3) := by decide +kernel
theorem dX8_spreads_278 : decode cX8_spreads 278 = .ok (.iinc 6 1, 3) := by decide +kernel
theorem dX8_spreads_281 : decode cX8_spreads 281 = .ok (.goto (-162), 3) := by decide +kernel
theorem dX8_spreads_284 : decode cX8_spreads 284 = .ok (.goto (-176), 3) := by decide +kernel
theorem dX8_spreads_287 : decode cX8_spreads 287 = .ok (.return_, 1) := by decide +kernel
theorem dX8_leastAt_0 : decode cX8_leastAt 0 = .ok (.ldc 227, 2) := by decide +kernel
theorem dX8_leastAt_2 : decode cX8_leastAt 2 = .ok (.istore_n 2, 1) := by decide +kernel
theorem dX8_leastAt_3 : decode cX8_leastAt 3 = .ok (.iconst 0, 1) := by decide +kernel
theorem dX8_leastAt_4 : decode cX8_leastAt 4 = .ok (.istore_n 3, 1) := by decide +kernel
theorem dX8_leastAt_5 : decode cX8_leastAt 5 = .ok (.iload_n 3, 1) := by decide +kernel
theorem dX8_leastAt_6 : decode cX8_leastAt 6 = .ok (.bipush 37, 2) := by decide +kernel
theorem dX8_leastAt_8 : decode cX8_leastAt 8 = .ok (.if_icmp .ge 40, 3) := by decide +kernel
theorem dX8_leastAt_11 : decode cX8_leastAt 11 = .ok (.aload_n 0, 1) := by decide +kernel
theorem dX8_leastAt_12 : decode cX8_leastAt 12 = .ok (.getfield 22, 3) := by decide +kernel
theorem dX8_leastAt_15 : decode cX8_leastAt 15 = .ok (.bipush 37, 2) := by decide +kernel
theorem dX8_leastAt_17 : decode cX8_leastAt 17 = .ok (.iload_n 1, 1) := by decide +kernel
theorem dX8_leastAt_18 : decode cX8_leastAt 18 = .ok (.imul, 1) := by decide +kernel
theorem dX8_leastAt_19 : decode cX8_leastAt 19 = .ok (.iload_n 3, 1) := by decide +kernel
theorem dX8_leastAt_20 : decode cX8_leastAt 20 = .ok (.iadd, 1) := by decide +kernel
theorem dX8_leastAt_21 : decode cX8_leastAt 21 = .ok (.iaload, 1) := by decide +kernel
theorem dX8_leastAt_22 : decode cX8_leastAt 22 = .ok (.iload_n 2, 1) := by decide +kernel
theorem dX8_leastAt_23 : decode cX8_leastAt 23 = .ok (.if_icmp .ge 17, 3) := by decide +kernel
theorem dX8_leastAt_26 : decode cX8_leastAt 26 = .ok (.aload_n 0, 1) := by decide +kernel
theorem dX8_leastAt_27 : decode cX8_leastAt 27 = .ok (.getfield 22, 3) := by decide +kernel
theorem dX8_leastAt_30 : decode cX8_leastAt 30 = .ok (.bipush 37, 2) := by decide +kernel
theorem dX8_leastAt_32 : decode cX8_leastAt 32 = .ok (.iload_n 1, 1) := by decide +kernel
theorem dX8_leastAt_33 : decode cX8_leastAt 33 = .ok (.imul, 1) := by decide +kernel
theorem dX8_leastAt_34 : decode cX8_leastAt 34 = .ok (.iload_n 3, 1) := by decide +kernel
theorem dX8_leastAt_35 : decode cX8_leastAt 35 = .ok (.iadd, 1) := by decide +kernel
theorem dX8_leastAt_36 : decode cX8_leastAt 36 = .ok (.iaload, 1) := by decide +kernel
theorem dX8_leastAt_37 : decode cX8_leastAt 37 = .ok (.goto 4, 3) := by decide +kernel
theorem dX8_leastAt_40 : decode cX8_leastAt 40 = .ok (.iload_n 2, 1) := by decide +kernel
theorem dX8_leastAt_41 : decode cX8_leastAt 41 = .ok (.istore_n 2, 1) := by decide +kernel
theorem dX8_leastAt_42 : decode cX8_leastAt 42 = .ok (.iinc 3 1, 3) := by decide +kernel
theorem dX8_leastAt_45 : decode cX8_leastAt 45 = .ok (.goto (-40), 3) := by decide +kernel
theorem dX8_leastAt_48 : decode cX8_leastAt 48 = .ok (.iload_n 2, 1) := by decide +kernel
theorem dX8_leastAt_49 : decode cX8_leastAt 49 = .ok (.ireturn, 1) := by decide +kernel
theorem dX8_wrongWay_0 : decode cX8_wrongWay 0 = .ok (.aload_n 0, 1) := by decide +kernel
theorem dX8_wrongWay_1 : decode cX8_wrongWay 1 = .ok (.iload_n 1, 1) := by decide +kernel
theorem dX8_wrongWay_2 : decode cX8_wrongWay 2 = .ok (.invokevirtual 103, 3) := by decide +kernel
theorem dX8_wrongWay_5 : decode cX8_wrongWay 5 = .ok (.ifCond .eq 7, 3) := by decide +kernel
theorem dX8_wrongWay_8 : decode cX8_wrongWay 8 = .ok (.iload_n 2, 1) := by decide +kernel
theorem dX8_wrongWay_9 : decode cX8_wrongWay 9 = .ok (.ifCond .ne 8, 3) := by decide +kernel
theorem dX8_wrongWay_12 : decode cX8_wrongWay 12 = .ok (.ldc 67, 2) := by decide +kernel
theorem dX8_wrongWay_14 : decode cX8_wrongWay 14 = .ok (.goto 19, 3) := by decide +kernel
theorem dX8_wrongWay_17 : decode cX8_wrongWay 17 = .ok (.aload_n 0, 1) := by decide +kernel
theorem dX8_wrongWay_18 : decode cX8_wrongWay 18 = .ok (.iload_n 1, 1) := by decide +kernel
theorem dX8_wrongWay_19 : decode cX8_wrongWay 19 = .ok (.iconst 5, 1) := by decide +kernel
theorem dX8_wrongWay_20 : decode cX8_wrongWay 20 = .ok (.invokevirtual 79, 3) := by decide +kernel
theorem dX8_wrongWay_23 : decode cX8_wrongWay 23 = .ok (.iconst 1, 1) := by decide +kernel
theorem dX8_wrongWay_24 : decode cX8_wrongWay 24 = .ok (.if_icmp .ne 8, 3) := by decide +kernel
theorem dX8_wrongWay_27 : decode cX8_wrongWay 27 = .ok (.ldc 199, 2) := by decide +kernel
theorem dX8_wrongWay_29 : decode cX8_wrongWay 29 = .ok (.goto 4, 3) := by decide +kernel
theorem dX8_wrongWay_32 : decode cX8_wrongWay 32 = .ok (.iconst 0, 1) := by decide +kernel
theorem dX8_wrongWay_33 : decode cX8_wrongWay 33 = .ok (.ireturn, 1) := by decide +kernel
theorem dX8_way_0 : decode cX8_way 0 = .ok (.aload_n 0, 1) := by decide +kernel
theorem dX8_way_1 : decode cX8_way 1 = .ok (.iload_n 1, 1) := by decide +kernel
theorem dX8_way_2 : decode cX8_way 2 = .ok (.iload_n 2, 1) := by decide +kernel
theorem dX8_way_3 : decode cX8_way 3 = .ok (.invokestatic 58, 3) := by decide +kernel
theorem dX8_way_6 : decode cX8_way 6 = .ok (.ifCond .eq 14, 3) := by decide +kernel
theorem dX8_way_9 : decode cX8_way 9 = .ok (.iload_n 3, 1) := by decide +kernel
theorem dX8_way_10 : decode cX8_way 10 = .ok (.invokestatic 235, 3) := by decide +kernel
theorem dX8_way_13 : decode cX8_way 13 = .ok (.ifCond .eq 7, 3) := by decide +kernel
theorem dX8_way_16 : decode cX8_way 16 = .ok (.iconst 1, 1) := by decide +kernel
theorem dX8_way_17 : decode cX8_way 17 = .ok (.goto 4, 3) := by decide +kernel
theorem dX8_way_20 : decode cX8_way 20 = .ok (.iconst 0, 1) := by decide +kernel
theorem dX8_way_21 : decode cX8_way 21 = .ok (.invokevirtual 238, 3) := by decide +kernel
theorem dX8_way_24 : decode cX8_way 24 = .ok (.istore 5, 2) := by decide +kernel
theorem dX8_way_26 : decode cX8_way 26 = .ok (.iload 5, 2) := by decide +kernel
theorem dX8_way_28 : decode cX8_way 28 = .ok (.ifCond .eq 10, 3) := by decide +kernel
theorem dX8_way_31 : decode cX8_way 31 = .ok (.aload_n 0, 1) := by decide +kernel
theorem dX8_way_32 : decode cX8_way 32 = .ok (.iload 5, 2) := by decide +kernel
theorem dX8_way_34 : decode cX8_way 34 = .ok (.invokevirtual 68, 3) := by decide +kernel
theorem dX8_way_37 : decode cX8_way 37 = .ok (.ireturn, 1) := by decide +kernel
theorem dX8_way_38 : decode cX8_way 38 = .ok (.aload_n 0, 1) := by decide +kernel
theorem dX8_way_39 : decode cX8_way 39 = .ok (.iload_n 1, 1) := by decide +kernel
theorem dX8_way_40 : decode cX8_way 40 = .ok (.iconst 3, 1) := by decide +kernel
theorem dX8_way_41 : decode cX8_way 41 = .ok (.invokevirtual 79, 3) := by decide +kernel
theorem dX8_way_44 : decode cX8_way 44 = .ok (.iload_n 2, 1) := by decide +kernel
theorem dX8_way_45 : decode cX8_way 45 = .ok (.if_icmp .ne 5, 3) := by decide +kernel
theorem dX8_way_48 : decode cX8_way 48 = .ok (.iconst 0, 1) := by decide +kernel
theorem dX8_way_49 : decode cX8_way 49 = .ok (.ireturn, 1) := by decide +kernel
theorem dX8_way_50 : decode cX8_way 50 = .ok (.aload_n 0, 1) := by decide +kernel
theorem dX8_way_51 : decode cX8_way 51 = .ok (.iload_n 1, 1) := by decide +kernel
theorem dX8_way_52 : decode cX8_way 52 = .ok (.iload_n 3, 1) := by decide +kernel
theorem dX8_way_53 : decode cX8_way 53 = .ok (.iload 4, 2) := by decide +kernel
theorem dX8_way_55 : decode cX8_way 55 = .ok (.invokevirtual 242, 3) := by decide +kernel
theorem dX8_way_58 : decode cX8_way 58 = .ok (.aload_n 0, 1) := by decide +kernel
theorem dX8_way_59 : decode cX8_way 59 = .ok (.iload_n 2, 1) := by decide +kernel
theorem dX8_way_60 : decode cX8_way 60 = .ok (.invokevirtual 246, 3) := by decide +kernel
theorem dX8_way_63 : decode cX8_way 63 = .ok (.istore 6, 2) := by decide +kernel
theorem dX8_way_65 : decode cX8_way 65 = .ok (.iload 6, 2) := by decide +kernel
theorem dX8_way_67 : decode cX8_way 67 = .ok (.ldc 227, 2) := by decide +kernel
theorem dX8_way_69 : decode cX8_way 69 = .ok (.if_icmp .eq 13, 3) := by decide +kernel
theorem dX8_way_72 : decode cX8_way 72 = .ok (.aload_n 0, 1) := by decide +kernel
theorem dX8_way_73 : decode cX8_way 73 = .ok (.iload_n 1, 1) := by decide +kernel
theorem dX8_way_74 : decode cX8_way 74 = .ok (.iload_n 2, 1) := by decide +kernel
theorem dX8_way_75 : decode cX8_way 75 = .ok (.iload_n 3, 1) := by decide +kernel
theorem dX8_way_76 : decode cX8_way 76 = .ok (.invokevirtual 232, 3) := by decide +kernel
theorem dX8_way_79 : decode cX8_way 79 = .ok (.ifCond .ne 10, 3) := by decide +kernel
theorem dX8_way_82 : decode cX8_way 82 = .ok (.aload_n 0, 1) := by decide +kernel
theorem dX8_way_83 : decode cX8_way 83 = .ok (.ldc 249, 2) := by decide +kernel
theorem dX8_way_85 : decode cX8_way 85 = .ok (.invokevirtual 68, 3) := by decide +kernel
theorem dX8_way_88 : decode cX8_way 88 = .ok (.ireturn, 1) := by decide +kernel
theorem dX8_way_89 : decode cX8_way 89 = .ok (.iload 4, 2) := by decide +kernel
theorem dX8_way_91 : decode cX8_way 91 = .ok (.ifCond .eq 8, 3) := by decide +kernel
theorem dX8_way_94 : decode cX8_way 94 = .ok (.iload 6, 2) := by decide +kernel
theorem dX8_way_96 : decode cX8_way 96 = .ok (.goto 7, 3) := by decide +kernel
theorem dX8_way_99 : decode cX8_way 99 = .ok (.iload 6, 2) := by decide +kernel
theorem dX8_way_101 : decode cX8_way 101 = .ok (.iconst 1, 1) := by decide +kernel
theorem dX8_way_102 : decode cX8_way 102 = .ok (.iadd, 1) := by decide +kernel
theorem dX8_way_103 : decode cX8_way 103 = .ok (.ireturn, 1) := by decide +kernel
theorem dX8_soonest_0 : decode cX8_soonest 0 = .ok (.aload_n 0, 1) := by decide +kernel
theorem dX8_soonest_1 : decode cX8_soonest 1 = .ok (.iload_n 1, 1) := by decide +kernel
theorem dX8_soonest_2 : decode cX8_soonest 2 = .ok (.iload_n 2, 1) := by decide +kernel
theorem dX8_soonest_3 : decode cX8_soonest 3 = .ok (.iload_n 3, 1) := by decide +kernel
theorem dX8_soonest_4 : decode cX8_soonest 4 = .ok (.iconst 1, 1) := by decide +kernel
theorem dX8_soonest_5 : decode cX8_soonest 5 = .ok (.invokevirtual 250, 3) := by decide +kernel
theorem dX8_soonest_8 : decode cX8_soonest 8 = .ok (.ireturn, 1) := by decide +kernel
theorem dX8_drinks_0 : decode cX8_drinks 0 = .ok (.aload_n 0, 1) := by decide +kernel
theorem dX8_drinks_1 : decode cX8_drinks 1 = .ok (.iload_n 1, 1) := by decide +kernel
theorem dX8_drinks_2 : decode cX8_drinks 2 = .ok (.iload_n 2, 1) := by decide +kernel
theorem dX8_drinks_3 : decode cX8_drinks 3 = .ok (.iload_n 3, 1) := by decide +kernel
theorem dX8_drinks_4 : decode cX8_drinks 4 = .ok (.iconst 0, 1) := by decide +kernel
theorem dX8_drinks_5 : decode cX8_drinks 5 = .ok (.invokevirtual 250, 3) := by decide +kernel
theorem dX8_drinks_8 : decode cX8_drinks 8 = .ok (.ireturn, 1) := by decide +kernel
theorem dX8_reached_0 : decode cX8_reached 0 = .ok (.aload_n 0, 1) := by decide +kernel
theorem dX8_reached_1 : decode cX8_reached 1 = .ok (.iload_n 1, 1) := by decide +kernel
theorem dX8_reached_2 : decode cX8_reached 2 = .ok (.iload_n 2, 1) := by decide +kernel
theorem dX8_reached_3 : decode cX8_reached 3 = .ok (.iconst 1, 1) := by decide +kernel
theorem dX8_reached_4 : decode cX8_reached 4 = .ok (.invokevirtual 242, 3) := by decide +kernel
theorem dX8_reached_7 : decode cX8_reached 7 = .ok (.iconst 0, 1) := by decide +kernel
theorem dX8_reached_8 : decode cX8_reached 8 = .ok (.istore_n 3, 1) := by decide +kernel
theorem dX8_reached_9 : decode cX8_reached 9 = .ok (.iconst 0, 1) := by decide +kernel
theorem dX8_reached_10 : decode cX8_reached 10 = .ok (.istore 4, 2) := by decide +kernel
theorem dX8_reached_12 : decode cX8_reached 12 = .ok (.iload 4, 2) := by decide +kernel
theorem dX8_reached_14 : decode cX8_reached 14 = .ok (.bipush 8, 2) := by decide +kernel
theorem dX8_reached_16 : decode cX8_reached 16 = .ok (.if_icmp .ge 31, 3) := by decide +kernel
theorem dX8_reached_19 : decode cX8_reached 19 = .ok (.iload_n 3, 1) := by decide +kernel
theorem dX8_reached_20 : decode cX8_reached 20 = .ok (.aload_n 0, 1) := by decide +kernel
theorem dX8_reached_21 : decode cX8_reached 21 = .ok (.iload 4, 2) := by decide +kernel
theorem dX8_reached_23 : decode cX8_reached 23 = .ok (.invokevirtual 246, 3) := by decide +kernel
theorem dX8_reached_26 : decode cX8_reached 26 = .ok (.ldc 227, 2) := by decide +kernel
theorem dX8_reached_28 : decode cX8_reached 28 = .ok (.if_icmp .ge 10, 3) := by decide +kernel
theorem dX8_reached_31 : decode cX8_reached 31 = .ok (.iconst 1, 1) := by decide +kernel
theorem dX8_reached_32 : decode cX8_reached 32 = .ok (.iload 4, 2) := by decide +kernel
theorem dX8_reached_34 : decode cX8_reached 34 = .ok (.ishl, 1) := by decide +kernel
theorem dX8_reached_35 : decode cX8_reached 35 = .ok (.goto 4, 3) := by decide +kernel
theorem dX8_reached_38 : decode cX8_reached 38 = .ok (.iconst 0, 1) := by decide +kernel
theorem dX8_reached_39 : decode cX8_reached 39 = .ok (.ior, 1) := by decide +kernel
theorem dX8_reached_40 : decode cX8_reached 40 = .ok (.istore_n 3, 1) := by decide +kernel
theorem dX8_reached_41 : decode cX8_reached 41 = .ok (.iinc 4 1, 3) := by decide +kernel
theorem dX8_reached_44 : decode cX8_reached 44 = .ok (.goto (-32), 3) := by decide +kernel
theorem dX8_reached_47 : decode cX8_reached 47 = .ok (.iload_n 3, 1) := by decide +kernel
theorem dX8_reached_48 : decode cX8_reached 48 = .ok (.ireturn, 1) := by decide +kernel
theorem dX8_reach_0 : decode cX8_reach 0 = .ok (.aload_n 0, 1) := by decide +kernel
theorem dX8_reach_1 : decode cX8_reach 1 = .ok (.iload_n 1, 1) := by decide +kernel
theorem dX8_reach_2 : decode cX8_reach 2 = .ok (.iload_n 2, 1) := by decide +kernel
theorem dX8_reach_3 : decode cX8_reach 3 = .ok (.invokestatic 235, 3) := by decide +kernel
theorem dX8_reach_6 : decode cX8_reach 6 = .ok (.ifCond .eq 17, 3) := by decide +kernel
theorem dX8_reach_9 : decode cX8_reach 9 = .ok (.iload_n 3, 1) := by decide +kernel
theorem dX8_reach_10 : decode cX8_reach 10 = .ok (.i2l, 1) := by decide +kernel
theorem dX8_reach_11 : decode cX8_reach 11 = .ok (.lconst 0, 1) := by decide +kernel
theorem dX8_reach_12 : decode cX8_reach 12 = .ok (.lconst 1, 1) := by decide +kernel
theorem dX8_reach_13 : decode cX8_reach 13 = .ok (.invokestatic 46, 3) := by decide +kernel
theorem dX8_reach_16 : decode cX8_reach 16 = .ok (.ifCond .eq 7, 3) := by decide +kernel
theorem dX8_reach_19 : decode cX8_reach 19 = .ok (.iconst 1, 1) := by decide +kernel
theorem dX8_reach_20 : decode cX8_reach 20 = .ok (.goto 4, 3) := by decide +kernel
theorem dX8_reach_23 : decode cX8_reach 23 = .ok (.iconst 0, 1) := by decide +kernel
theorem dX8_reach_24 : decode cX8_reach 24 = .ok (.invokevirtual 238, 3) := by decide +kernel
theorem dX8_reach_27 : decode cX8_reach 27 = .ok (.istore 4, 2) := by decide +kernel
theorem dX8_reach_29 : decode cX8_reach 29 = .ok (.iload 4, 2) := by decide +kernel
theorem dX8_reach_31 : decode cX8_reach 31 = .ok (.ifCond .eq 10, 3) := by decide +kernel
theorem dX8_reach_34 : decode cX8_reach 34 = .ok (.aload_n 0, 1) := by decide +kernel
theorem dX8_reach_35 : decode cX8_reach 35 = .ok (.iload 4, 2) := by decide +kernel
theorem dX8_reach_37 : decode cX8_reach 37 = .ok (.invokevirtual 68, 3) := by decide +kernel
theorem dX8_reach_40 : decode cX8_reach 40 = .ok (.ireturn, 1) := by decide +kernel
theorem dX8_reach_41 : decode cX8_reach 41 = .ok (.aload_n 0, 1) := by decide +kernel
theorem dX8_reach_42 : decode cX8_reach 42 = .ok (.iload_n 1, 1) := by decide +kernel
theorem dX8_reach_43 : decode cX8_reach 43 = .ok (.iload_n 2, 1) := by decide +kernel
theorem dX8_reach_44 : decode cX8_reach 44 = .ok (.invokevirtual 254, 3) := by decide +kernel
theorem dX8_reach_47 : decode cX8_reach 47 = .ok (.istore 5, 2) := by decide +kernel
theorem dX8_reach_49 : decode cX8_reach 49 = .ok (.iconst 0, 1) := by decide +kernel
theorem dX8_reach_50 : decode cX8_reach 50 = .ok (.istore 6, 2) := by decide +kernel
theorem dX8_reach_52 : decode cX8_reach 52 = .ok (.iload 6, 2) := by decide +kernel
theorem dX8_reach_54 : decode cX8_reach 54 = .ok (.bipush 8, 2) := by decide +kernel
theorem dX8_reach_56 : decode cX8_reach 56 = .ok (.if_icmp .ge 42, 3) := by decide +kernel
theorem dX8_reach_59 : decode cX8_reach 59 = .ok (.iload_n 3, 1) := by decide +kernel
theorem dX8_reach_60 : decode cX8_reach 60 = .ok (.iconst 1, 1) := by decide +kernel
theorem dX8_reach_61 : decode cX8_reach 61 = .ok (.if_icmp .ne 37, 3) := by decide +kernel
theorem dX8_reach_64 : decode cX8_reach 64 = .ok (.iload 5, 2) := by decide +kernel
theorem dX8_reach_66 : decode cX8_reach 66 = .ok (.aload_n 0, 1) := by decide +kernel
theorem dX8_reach_67 : decode cX8_reach 67 = .ok (.iload_n 1, 1) := by decide +kernel
theorem dX8_reach_68 : decode cX8_reach 68 = .ok (.iload 6, 2) := by decide +kernel
theorem dX8_reach_70 : decode cX8_reach 70 = .ok (.iload_n 2, 1) := by decide +kernel
theorem dX8_reach_71 : decode cX8_reach 71 = .ok (.invokevirtual 232, 3) := by decide +kernel
theorem dX8_reach_74 : decode cX8_reach 74 = .ok (.ifCond .eq 9, 3) := by decide +kernel
theorem dX8_reach_77 : decode cX8_reach 77 = .ok (.sipush 255, 3) := by decide +kernel
theorem dX8_reach_80 : decode cX8_reach 80 = .ok (.goto 9, 3) := by decide +kernel
theorem dX8_reach_83 : decode cX8_reach 83 = .ok (.iconst 1, 1) := by decide +kernel
theorem dX8_reach_84 : decode cX8_reach 84 = .ok (.iload 6, 2) := by decide +kernel
theorem dX8_reach_86 : decode cX8_reach 86 = .ok (.ishl, 1) := by decide +kernel
theorem dX8_reach_87 : decode cX8_reach 87 = .ok (.iconst (-1), 1) := by decide +kernel
theorem dX8_reach_88 : decode cX8_reach 88 = .ok (.ixor, 1) := by decide +kernel
theorem dX8_reach_89 : decode cX8_reach 89 = .ok (.iand, 1) := by decide +kernel
theorem dX8_reach_90 : decode cX8_reach 90 = .ok (.istore 5, 2) := by decide +kernel
theorem dX8_reach_92 : decode cX8_reach 92 = .ok (.iinc 6 1, 3) := by decide +kernel
theorem dX8_reach_95 : decode cX8_reach 95 = .ok (.goto (-43), 3) := by decide +kernel
theorem dX8_reach_98 : decode cX8_reach 98 = .ok (.iload 5, 2) := by decide +kernel
theorem dX8_reach_100 : decode cX8_reach 100 = .ok (.ireturn, 1) := by decide +kernel
theorem dX8_dry_0 : decode cX8_dry 0 = .ok (.aload_n 0, 1) := by decide +kernel
theorem dX8_dry_1 : decode cX8_dry 1 = .ok (.iload_n 1, 1) := by decide +kernel
theorem dX8_dry_2 : decode cX8_dry 2 = .ok (.iload_n 2, 1) := by decide +kernel
theorem dX8_dry_3 : decode cX8_dry 3 = .ok (.i2l, 1) := by decide +kernel
theorem dX8_dry_4 : decode cX8_dry 4 = .ok (.lconst 0, 1) := by decide +kernel
theorem dX8_dry_5 : decode cX8_dry 5 = .ok (.lconst 1, 1) := by decide +kernel
theorem dX8_dry_6 : decode cX8_dry 6 = .ok (.invokestatic 46, 3) := by decide +kernel
theorem dX8_dry_9 : decode cX8_dry 9 = .ok (.invokevirtual 238, 3) := by decide +kernel
theorem dX8_dry_12 : decode cX8_dry 12 = .ok (.istore_n 3, 1) := by decide +kernel
theorem dX8_dry_13 : decode cX8_dry 13 = .ok (.iload_n 3, 1) := by decide +kernel
theorem dX8_dry_14 : decode cX8_dry 14 = .ok (.ifCond .eq 9, 3) := by decide +kernel
theorem dX8_dry_17 : decode cX8_dry 17 = .ok (.aload_n 0, 1) := by decide +kernel
theorem dX8_dry_18 : decode cX8_dry 18 = .ok (.iload_n 3, 1) := by decide +kernel
theorem dX8_dry_19 : decode cX8_dry 19 = .ok (.invokevirtual 68, 3) := by decide +kernel
theorem dX8_dry_22 : decode cX8_dry 22 = .ok (.ireturn, 1) := by decide +kernel
theorem dX8_dry_23 : decode cX8_dry 23 = .ok (.iconst 0, 1) := by decide +kernel
theorem dX8_dry_24 : decode cX8_dry 24 = .ok (.istore 4, 2) := by decide +kernel
theorem dX8_dry_26 : decode cX8_dry 26 = .ok (.bipush 8, 2) := by decide +kernel
theorem dX8_dry_28 : decode cX8_dry 28 = .ok (.istore 5, 2) := by decide +kernel
theorem dX8_dry_30 : decode cX8_dry 30 = .ok (.iconst 0, 1) := by decide +kernel
theorem dX8_dry_31 : decode cX8_dry 31 = .ok (.istore 6, 2) := by decide +kernel
theorem dX8_dry_33 : decode cX8_dry 33 = .ok (.iload 6, 2) := by decide +kernel
theorem dX8_dry_35 : decode cX8_dry 35 = .ok (.bipush 8, 2) := by decide +kernel
theorem dX8_dry_37 : decode cX8_dry 37 = .ok (.if_icmp .ge 62, 3) := by decide +kernel
theorem dX8_dry_40 : decode cX8_dry 40 = .ok (.aload_n 0, 1) := by decide +kernel
theorem dX8_dry_41 : decode cX8_dry 41 = .ok (.iload_n 1, 1) := by decide +kernel
theorem dX8_dry_42 : decode cX8_dry 42 = .ok (.iconst 1, 1) := by decide +kernel
theorem dX8_dry_43 : decode cX8_dry 43 = .ok (.iload 6, 2) := by decide +kernel
theorem dX8_dry_45 : decode cX8_dry 45 = .ok (.ishl, 1) := by decide +kernel
theorem dX8_dry_46 : decode cX8_dry 46 = .ok (.invokevirtual 254, 3) := by decide +kernel
theorem dX8_dry_49 : decode cX8_dry 49 = .ok (.iconst 1, 1) := by decide +kernel
theorem dX8_dry_50 : decode cX8_dry 50 = .ok (.iload 6, 2) := by decide +kernel
theorem dX8_dry_52 : decode cX8_dry 52 = .ok (.ishl, 1) := by decide +kernel
theorem dX8_dry_53 : decode cX8_dry 53 = .ok (.iconst (-1), 1) := by decide +kernel
theorem dX8_dry_54 : decode cX8_dry 54 = .ok (.ixor, 1) := by decide +kernel
theorem dX8_dry_55 : decode cX8_dry 55 = .ok (.iand, 1) := by decide +kernel
theorem dX8_dry_56 : decode cX8_dry 56 = .ok (.invokestatic 224, 3) := by decide +kernel
theorem dX8_dry_59 : decode cX8_dry 59 = .ok (.istore 7, 2) := by decide +kernel
theorem dX8_dry_61 : decode cX8_dry 61 = .ok (.iload 7, 2) := by decide +kernel
theorem dX8_dry_63 : decode cX8_dry 63 = .ok (.iload 5, 2) := by decide +kernel
theorem dX8_dry_65 : decode cX8_dry 65 = .ok (.if_icmp .ge 8, 3) := by decide +kernel
theorem dX8_dry_68 : decode cX8_dry 68 = .ok (.iload 6, 2) := by decide +kernel
theorem dX8_dry_70 : decode cX8_dry 70 = .ok (.goto 5, 3) := by decide +kernel
theorem dX8_dry_73 : decode cX8_dry 73 = .ok (.iload 4, 2) := by decide +kernel
theorem dX8_dry_75 : decode cX8_dry 75 = .ok (.istore 4, 2) := by decide +kernel
theorem dX8_dry_77 : decode cX8_dry 77 = .ok (.iload 7, 2) := by decide +kernel
theorem dX8_dry_79 : decode cX8_dry 79 = .ok (.iload 5, 2) := by decide +kernel
theorem dX8_dry_81 : decode cX8_dry 81 = .ok (.if_icmp .ge 8, 3) := by decide +kernel
theorem dX8_dry_84 : decode cX8_dry 84 = .ok (.iload 7, 2) := by decide +kernel
theorem dX8_dry_86 : decode cX8_dry 86 = .ok (.goto 5, 3) := by decide +kernel
theorem dX8_dry_89 : decode cX8_dry 89 = .ok (.iload 5, 2) := by decide +kernel
theorem dX8_dry_91 : decode cX8_dry 91 = .ok (.istore 5, 2) := by decide +kernel
theorem dX8_dry_93 : decode cX8_dry 93 = .ok (.iinc 6 1, 3) := by decide +kernel
theorem dX8_dry_96 : decode cX8_dry 96 = .ok (.goto (-63), 3) := by decide +kernel
theorem dX8_dry_99 : decode cX8_dry 99 = .ok (.iload_n 2, 1) := by decide +kernel
theorem dX8_dry_100 : decode cX8_dry 100 = .ok (.ifCond .ne 8, 3) := by decide +kernel
theorem dX8_dry_103 : decode cX8_dry 103 = .ok (.iload 4, 2) := by decide +kernel
theorem dX8_dry_105 : decode cX8_dry 105 = .ok (.goto 5, 3) := by decide +kernel
theorem dX8_dry_108 : decode cX8_dry 108 = .ok (.iload 5, 2) := by decide +kernel
theorem dX8_dry_110 : decode cX8_dry 110 = .ok (.ireturn, 1) := by decide +kernel
theorem dX8_net_0 : decode cX8_net 0 = .ok (.iconst 1, 1) := by decide +kernel
theorem dX8_net_1 : decode cX8_net 1 = .ok (.istore_n 1, 1) := by decide +kernel
theorem dX8_net_2 : decode cX8_net 2 = .ok (.iconst 0, 1) := by decide +kernel
theorem dX8_net_3 : decode cX8_net 3 = .ok (.istore_n 2, 1) := by decide +kernel
theorem dX8_net_4 : decode cX8_net 4 = .ok (.iconst 1, 1) := by decide +kernel
theorem dX8_net_5 : decode cX8_net 5 = .ok (.istore_n 3, 1) := by decide +kernel
theorem dX8_net_6 : decode cX8_net 6 = .ok (.iload_n 3, 1) := by decide +kernel
theorem dX8_net_7 : decode cX8_net 7 = .ok (.bipush 8, 2) := by decide +kernel
theorem dX8_net_9 : decode cX8_net 9 = .ok (.if_icmp .ge 140, 3) := by decide +kernel
theorem dX8_net_12 : decode cX8_net 12 = .ok (.iconst (-1), 1) := by decide +kernel
theorem dX8_net_13 : decode cX8_net 13 = .ok (.istore 4, 2) := by decide +kernel
theorem dX8_net_15 : decode cX8_net 15 = .ok (.ldc 227, 2) := by decide +kernel
theorem dX8_net_17 : decode cX8_net 17 = .ok (.istore 5, 2) := by decide +kernel
theorem dX8_net_19 : decode cX8_net 19 = .ok (.iconst 0, 1) := by decide +kernel
theorem dX8_net_20 : decode cX8_net 20 = .ok (.istore 6, 2) := by decide +kernel
theorem dX8_net_22 : decode cX8_net 22 = .ok (.iload 6, 2) := by decide +kernel
theorem dX8_net_24 : decode cX8_net 24 = .ok (.bipush 64, 2) := by decide +kernel
theorem dX8_net_26 : decode cX8_net 26 = .ok (.if_icmp .ge 93, 3) := by decide +kernel
theorem dX8_net_29 : decode cX8_net 29 = .ok (.iload_n 1, 1) := by decide +kernel
theorem dX8_net_30 : decode cX8_net 30 = .ok (.iload 6, 2) := by decide +kernel
theorem dX8_net_32 : decode cX8_net 32 = .ok (.bipush 8, 2) := by decide +kernel
theorem dX8_net_34 : decode cX8_net 34 = .ok (.idiv, 1) := by decide +kernel
theorem dX8_net_35 : decode cX8_net 35 = .ok (.ishr, 1) := by decide +kernel
theorem dX8_net_36 : decode cX8_net 36 = .ok (.iconst 1, 1) := by decide +kernel
theorem dX8_net_37 : decode cX8_net 37 = .ok (.iand, 1) := by decide +kernel
theorem dX8_net_38 : decode cX8_net 38 = .ok (.iconst 1, 1) := by decide +kernel
theorem dX8_net_39 : decode cX8_net 39 = .ok (.if_icmp .ne 32, 3) := by decide +kernel
theorem dX8_net_42 : decode cX8_net 42 = .ok (.iload_n 1, 1) := by decide +kernel
theorem dX8_net_43 : decode cX8_net 43 = .ok (.iload 6, 2) := by decide +kernel
theorem dX8_net_45 : decode cX8_net 45 = .ok (.bipush 8, 2) := by decide +kernel
theorem dX8_net_47 : decode cX8_net 47 = .ok (.irem, 1) := by decide +kernel
theorem dX8_net_48 : decode cX8_net 48 = .ok (.ishr, 1) := by decide +kernel
theorem dX8_net_49 : decode cX8_net 49 = .ok (.iconst 1, 1) := by decide +kernel
theorem dX8_net_50 : decode cX8_net 50 = .ok (.iand, 1) := by decide +kernel
theorem dX8_net_51 : decode cX8_net 51 = .ok (.ifCond .ne 20, 3) := by decide +kernel
theorem dX8_net_54 : decode cX8_net 54 = .ok (.aload_n 0, 1) := by decide +kernel
theorem dX8_net_55 : decode cX8_net 55 = .ok (.getfield 7, 3) := by decide +kernel
theorem dX8_net_58 : decode cX8_net 58 = .ok (.bipush 8, 2) := by decide +kernel
theorem dX8_net_60 : decode cX8_net 60 = .ok (.iload 6, 2) := by decide +kernel
theorem dX8_net_62 : decode cX8_net 62 = .ok (.iadd, 1) := by decide +kernel
theorem dX8_net_63 : decode cX8_net 63 = .ok (.iaload, 1) := by decide +kernel
theorem dX8_net_64 : decode cX8_net 64 = .ok (.ifCond .le 7, 3) := by decide +kernel
theorem dX8_net_67 : decode cX8_net 67 = .ok (.iconst 1, 1) := by decide +kernel
theorem dX8_net_68 : decode cX8_net 68 = .ok (.goto 4, 3) := by decide +kernel
theorem dX8_net_71 : decode cX8_net 71 = .ok (.iconst 0, 1) := by decide +kernel
theorem dX8_net_72 : decode cX8_net 72 = .ok (.istore 7, 2) := by decide +kernel
theorem dX8_net_74 : decode cX8_net 74 = .ok (.iload 7, 2) := by decide +kernel
theorem dX8_net_76 : decode cX8_net 76 = .ok (.ifCond .eq 37, 3) := by decide +kernel
theorem dX8_net_79 : decode cX8_net 79 = .ok (.aload_n 0, 1) := by decide +kernel
theorem dX8_net_80 : decode cX8_net 80 = .ok (.getfield 7, 3) := by decide +kernel
theorem dX8_net_83 : decode cX8_net 83 = .ok (.bipush 8, 2) := by decide +kernel
theorem dX8_net_85 : decode cX8_net 85 = .ok (.iload 6, 2) := by decide +kernel
theorem dX8_net_87 : decode cX8_net 87 = .ok (.iadd, 1) := by decide +kernel
theorem dX8_net_88 : decode cX8_net 88 = .ok (.iaload, 1) := by decide +kernel
theorem dX8_net_89 : decode cX8_net 89 = .ok (.iload 5, 2) := by decide +kernel
theorem dX8_net_91 : decode cX8_net 91 = .ok (.if_icmp .ge 22, 3) := by decide +kernel
theorem dX8_net_94 : decode cX8_net 94 = .ok (.aload_n 0, 1) := by decide +kernel
theorem dX8_net_95 : decode cX8_net 95 = .ok (.getfield 7, 3) := by decide +kernel
theorem dX8_net_98 : decode cX8_net 98 = .ok (.bipush 8, 2) := by decide +kernel
theorem dX8_net_100 : decode cX8_net 100 = .ok (.iload 6, 2) := by decide +kernel
theorem dX8_net_102 : decode cX8_net 102 = .ok (.iadd, 1) := by decide +kernel
theorem dX8_net_103 : decode cX8_net 103 = .ok (.iaload, 1) := by decide +kernel
theorem dX8_net_104 : decode cX8_net 104 = .ok (.istore 5, 2) := by decide +kernel
theorem dX8_net_106 : decode cX8_net 106 = .ok (.iload 6, 2) := by decide +kernel
theorem dX8_net_108 : decode cX8_net 108 = .ok (.bipush 8, 2) := by decide +kernel
theorem dX8_net_110 : decode cX8_net 110 = .ok (.irem, 1) := by decide +kernel
theorem dX8_net_111 : decode cX8_net 111 = .ok (.istore 4, 2) := by decide +kernel
theorem dX8_net_113 : decode cX8_net 113 = .ok (.iinc 6 1, 3) := by decide +kernel
theorem dX8_net_116 : decode cX8_net 116 = .ok (.goto (-94), 3) := by decide +kernel
theorem dX8_net_119 : decode cX8_net 119 = .ok (.iload 4, 2) := by decide +kernel
theorem dX8_net_121 : decode cX8_net 121 = .ok (.ifCond .ge 10, 3) := by decide +kernel
theorem dX8_net_124 : decode cX8_net 124 = .ok (.aload_n 0, 1) := by decide +kernel
theorem dX8_net_125 : decode cX8_net 125 = .ok (.ldc 249, 2) := by decide +kernel
theorem dX8_net_127 : decode cX8_net 127 = .ok (.invokevirtual 68, 3) := by decide +kernel
theorem dX8_net_130 : decode cX8_net 130 = .ok (.ireturn, 1) := by decide +kernel
theorem dX8_net_131 : decode cX8_net 131 = .ok (.iload_n 1, 1) := by decide +kernel
theorem dX8_net_132 : decode cX8_net 132 = .ok (.iconst 1, 1) := by decide +kernel
theorem dX8_net_133 : decode cX8_net 133 = .ok (.iload 4, 2) := by decide +kernel
theorem dX8_net_135 : decode cX8_net 135 = .ok (.ishl, 1) := by decide +kernel
theorem dX8_net_136 : decode cX8_net 136 = .ok (.ior, 1) := by decide +kernel
theorem dX8_net_137 : decode cX8_net 137 = .ok (.istore_n 1, 1) := by decide +kernel
theorem dX8_net_138 : decode cX8_net 138 = .ok (.iload_n 2, 1) := by decide +kernel
theorem dX8_net_139 : decode cX8_net 139 = .ok (.iload 5, 2) := by decide +kernel
theorem dX8_net_141 : decode cX8_net 141 = .ok (.iadd, 1) := by decide +kernel
theorem dX8_net_142 : decode cX8_net 142 = .ok (.istore_n 2, 1) := by decide +kernel
theorem dX8_net_143 : decode cX8_net 143 = .ok (.iinc 3 1, 3) := by decide +kernel
theorem dX8_net_146 : decode cX8_net 146 = .ok (.goto (-140), 3) := by decide +kernel
theorem dX8_net_149 : decode cX8_net 149 = .ok (.iload_n 2, 1) := by decide +kernel
theorem dX8_net_150 : decode cX8_net 150 = .ok (.ireturn, 1) := by decide +kernel
theorem dX8_shortest_0 : decode cX8_shortest 0 = .ok (.iload_n 1, 1) := by decide +kernel
theorem dX8_shortest_1 : decode cX8_shortest 1 = .ok (.invokestatic 58, 3) := by decide +kernel
theorem dX8_shortest_4 : decode cX8_shortest 4 = .ok (.ifCond .eq 10, 3) := by decide +kernel
theorem dX8_shortest_7 : decode cX8_shortest 7 = .ok (.iload_n 2, 1) := by decide +kernel
theorem dX8_shortest_8 : decode cX8_shortest 8 = .ok (.invokestatic 58, 3) := by decide +kernel
theorem dX8_shortest_11 : decode cX8_shortest 11 = .ok (.ifCond .ne 10, 3) := by decide +kernel
theorem dX8_shortest_14 : decode cX8_shortest 14 = .ok (.aload_n 0, 1) := by decide +kernel
theorem dX8_shortest_15 : decode cX8_shortest 15 = .ok (.ldc 67, 2) := by decide +kernel
theorem dX8_shortest_17 : decode cX8_shortest 17 = .ok (.invokevirtual 68, 3) := by decide +kernel
theorem dX8_shortest_20 : decode cX8_shortest 20 = .ok (.ireturn, 1) := by decide +kernel
theorem dX8_shortest_21 : decode cX8_shortest 21 = .ok (.iconst 0, 1) := by decide +kernel
theorem dX8_shortest_22 : decode cX8_shortest 22 = .ok (.istore_n 3, 1) := by decide +kernel
theorem dX8_shortest_23 : decode cX8_shortest 23 = .ok (.iload_n 3, 1) := by decide +kernel
theorem dX8_shortest_24 : decode cX8_shortest 24 = .ok (.bipush 8, 2) := by decide +kernel
theorem dX8_shortest_26 : decode cX8_shortest 26 = .ok (.if_icmp .ge 26, 3) := by decide +kernel
theorem dX8_shortest_29 : decode cX8_shortest 29 = .ok (.aload_n 0, 1) := by decide +kernel
theorem dX8_shortest_30 : decode cX8_shortest 30 = .ok (.getfield 22, 3) := by decide +kernel
theorem dX8_shortest_33 : decode cX8_shortest 33 = .ok (.iload_n 3, 1) := by decide +kernel
theorem dX8_shortest_34 : decode cX8_shortest 34 = .ok (.iload_n 3, 1) := by decide +kernel
theorem dX8_shortest_35 : decode cX8_shortest 35 = .ok (.iload_n 1, 1) := by decide +kernel
theorem dX8_shortest_36 : decode cX8_shortest 36 = .ok (.if_icmp .ne 7, 3) := by decide +kernel
theorem dX8_shortest_39 : decode cX8_shortest 39 = .ok (.iconst 0, 1) := by decide +kernel
theorem dX8_shortest_40 : decode cX8_shortest 40 = .ok (.goto 5, 3) := by decide +kernel
theorem dX8_shortest_43 : decode cX8_shortest 43 = .ok (.ldc 227, 2) := by decide +kernel
theorem dX8_shortest_45 : decode cX8_shortest 45 = .ok (.iastore, 1) := by decide +kernel
theorem dX8_shortest_46 : decode cX8_shortest 46 = .ok (.iinc 3 1, 3) := by decide +kernel
theorem dX8_shortest_49 : decode cX8_shortest 49 = .ok (.goto (-26), 3) := by decide +kernel
theorem dX8_shortest_52 : decode cX8_shortest 52 = .ok (.iconst 0, 1) := by decide +kernel
theorem dX8_shortest_53 : decode cX8_shortest 53 = .ok (.istore_n 3, 1) := by decide +kernel
theorem dX8_shortest_54 : decode cX8_shortest 54 = .ok (.iload_n 3, 1) := by decide +kernel
theorem dX8_shortest_55 : decode cX8_shortest 55 = .ok (.bipush 8, 2) := by decide +kernel
theorem dX8_shortest_57 : decode cX8_shortest 57 = .ok (.if_icmp .ge 101, 3) := by decide +kernel
theorem dX8_shortest_60 : decode cX8_shortest 60 = .ok (.iconst 0, 1) := by decide +kernel
theorem dX8_shortest_61 : decode cX8_shortest 61 = .ok (.istore 4, 2) := by decide +kernel
theorem dX8_shortest_63 : decode cX8_shortest 63 = .ok (.iload 4, 2) := by decide +kernel
theorem dX8_shortest_65 : decode cX8_shortest 65 = .ok (.bipush 64, 2) := by decide +kernel
theorem dX8_shortest_67 : decode cX8_shortest 67 = .ok (.if_icmp .ge 85, 3) := by decide +kernel
theorem dX8_shortest_70 : decode cX8_shortest 70 = .ok (.aload_n 0, 1) := by decide +kernel
theorem dX8_shortest_71 : decode cX8_shortest 71 = .ok (.getfield 22, 3) := by decide +kernel
theorem dX8_shortest_74 : decode cX8_shortest 74 = .ok (.iload 4, 2) := by decide +kernel
theorem dX8_shortest_76 : decode cX8_shortest 76 = .ok (.bipush 8, 2) := by decide +kernel
theorem dX8_shortest_78 : decode cX8_shortest 78 = .ok (.idiv, 1) := by decide +kernel
theorem dX8_shortest_79 : decode cX8_shortest 79 = .ok (.iaload, 1) := by decide +kernel
theorem dX8_shortest_80 : decode cX8_shortest 80 = .ok (.aload_n 0, 1) := by decide +kernel
theorem dX8_shortest_81 : decode cX8_shortest 81 = .ok (.getfield 7, 3) := by decide +kernel
theorem dX8_shortest_84 : decode cX8_shortest 84 = .ok (.bipush 8, 2) := by decide +kernel
theorem dX8_shortest_86 : decode cX8_shortest 86 = .ok (.iload 4, 2) := by decide +kernel
theorem dX8_shortest_88 : decode cX8_shortest 88 = .ok (.iadd, 1) := by decide +kernel
theorem dX8_shortest_89 : decode cX8_shortest 89 = .ok (.iaload, 1) := by decide +kernel
theorem dX8_shortest_90 : decode cX8_shortest 90 = .ok (.iadd, 1) := by decide +kernel
theorem dX8_shortest_91 : decode cX8_shortest 91 = .ok (.istore 5, 2) := by decide +kernel
theorem dX8_shortest_93 : decode cX8_shortest 93 = .ok (.aload_n 0, 1) := by decide +kernel
theorem dX8_shortest_94 : decode cX8_shortest 94 = .ok (.getfield 22, 3) := by decide +kernel
theorem dX8_shortest_97 : decode cX8_shortest 97 = .ok (.iload 4, 2) := by decide +kernel
theorem dX8_shortest_99 : decode cX8_shortest 99 = .ok (.bipush 8, 2) := by decide +kernel
theorem dX8_shortest_101 : decode cX8_shortest 101 = .ok (.irem, 1) := by decide +kernel
theorem dX8_shortest_102 : decode cX8_shortest 102 = .ok (.aload_n 0, 1) := by decide +kernel
theorem dX8_shortest_103 : decode cX8_shortest 103 = .ok (.getfield 7, 3) := by decide +kernel
theorem dX8_shortest_106 : decode cX8_shortest 106 = .ok (.bipush 8, 2) := by decide +kernel
theorem dX8_shortest_108 : decode cX8_shortest 108 = .ok (.iload 4, 2) := by decide +kernel
theorem dX8_shortest_110 : decode cX8_shortest 110 = .ok (.iadd, 1) := by decide +kernel
theorem dX8_shortest_111 : decode cX8_shortest 111 = .ok (.iaload, 1) := by decide +kernel
theorem dX8_shortest_112 : decode cX8_shortest 112 = .ok (.ifCond .le 23, 3) := by decide +kernel
theorem dX8_shortest_115 : decode cX8_shortest 115 = .ok (.iload 5, 2) := by decide +kernel
theorem dX8_shortest_117 : decode cX8_shortest 117 = .ok (.aload_n 0, 1) := by decide +kernel
theorem dX8_shortest_118 : decode cX8_shortest 118 = .ok (.getfield 22, 3) := by decide +kernel
theorem dX8_shortest_121 : decode cX8_shortest 121 = .ok (.iload 4, 2) := by decide +kernel
theorem dX8_shortest_123 : decode cX8_shortest 123 = .ok (.bipush 8, 2) := by decide +kernel
theorem dX8_shortest_125 : decode cX8_shortest 125 = .ok (.irem, 1) := by decide +kernel
theorem dX8_shortest_126 : decode cX8_shortest 126 = .ok (.iaload, 1) := by decide +kernel
theorem dX8_shortest_127 : decode cX8_shortest 127 = .ok (.if_icmp .ge 8, 3) := by decide +kernel
theorem dX8_shortest_130 : decode cX8_shortest 130 = .ok (.iload 5, 2) := by decide +kernel
theorem dX8_shortest_132 : decode cX8_shortest 132 = .ok (.goto 13, 3) := by decide +kernel
theorem dX8_shortest_135 : decode cX8_shortest 135 = .ok (.aload_n 0, 1) := by decide +kernel
theorem dX8_shortest_136 : decode cX8_shortest 136 = .ok (.getfield 22, 3) := by decide +kernel
theorem dX8_shortest_139 : decode cX8_shortest 139 = .ok (.iload 4, 2) := by decide +kernel
theorem dX8_shortest_141 : decode cX8_shortest 141 = .ok (.bipush 8, 2) := by decide +kernel
theorem dX8_shortest_143 : decode cX8_shortest 143 = .ok (.irem, 1) := by decide +kernel
theorem dX8_shortest_144 : decode cX8_shortest 144 = .ok (.iaload, 1) := by decide +kernel
theorem dX8_shortest_145 : decode cX8_shortest 145 = .ok (.iastore, 1) := by decide +kernel
theorem dX8_shortest_146 : decode cX8_shortest 146 = .ok (.iinc 4 1, 3) := by decide +kernel
theorem dX8_shortest_149 : decode cX8_shortest 149 = .ok (.goto (-86), 3) := by decide +kernel
theorem dX8_shortest_152 : decode cX8_shortest 152 = .ok (.iinc 3 1, 3) := by decide +kernel
theorem dX8_shortest_155 : decode cX8_shortest 155 = .ok (.goto (-101), 3) := by decide +kernel
theorem dX8_shortest_158 : decode cX8_shortest 158 = .ok (.aload_n 0, 1) := by decide +kernel
theorem dX8_shortest_159 : decode cX8_shortest 159 = .ok (.getfield 22, 3) := by decide +kernel
theorem dX8_shortest_162 : decode cX8_shortest 162 = .ok (.iload_n 2, 1) := by decide +kernel
theorem dX8_shortest_163 : decode cX8_shortest 163 = .ok (.iaload, 1) := by decide +kernel
theorem dX8_shortest_164 : decode cX8_shortest 164 = .ok (.ldc 227, 2) := by decide +kernel
theorem dX8_shortest_166 : decode cX8_shortest 166 = .ok (.if_icmp .ge 12, 3) := by decide +kernel
theorem dX8_shortest_169 : decode cX8_shortest 169 = .ok (.aload_n 0, 1) := by decide +kernel
theorem dX8_shortest_170 : decode cX8_shortest 170 = .ok (.getfield 22, 3) := by decide +kernel
theorem dX8_shortest_173 : decode cX8_shortest 173 = .ok (.iload_n 2, 1) := by decide +kernel
theorem dX8_shortest_174 : decode cX8_shortest 174 = .ok (.iaload, 1) := by decide +kernel
theorem dX8_shortest_175 : decode cX8_shortest 175 = .ok (.goto 9, 3) := by decide +kernel
theorem dX8_shortest_178 : decode cX8_shortest 178 = .ok (.aload_n 0, 1) := by decide +kernel
theorem dX8_shortest_179 : decode cX8_shortest 179 = .ok (.ldc 249, 2) := by decide +kernel
theorem dX8_shortest_181 : decode cX8_shortest 181 = .ok (.invokevirtual 68, 3) := by decide +kernel
theorem dX8_shortest_184 : decode cX8_shortest 184 = .ok (.ireturn, 1) := by decide +kernel
theorem dX8_isWalk_0 : decode cX8_isWalk 0 = .ok (.aload_n 0, 1) := by decide +kernel
theorem dX8_isWalk_1 : decode cX8_isWalk 1 = .ok (.getfield 31, 3) := by decide +kernel
theorem dX8_isWalk_4 : decode cX8_isWalk 4 = .ok (.iload_n 1, 1) := by decide +kernel
theorem dX8_isWalk_5 : decode cX8_isWalk 5 = .ok (.iaload, 1) := by decide +kernel
theorem dX8_isWalk_6 : decode cX8_isWalk 6 = .ok (.ifCond .le 16, 3) := by decide +kernel
theorem dX8_isWalk_9 : decode cX8_isWalk 9 = .ok (.aload_n 0, 1) := by decide +kernel
theorem dX8_isWalk_10 : decode cX8_isWalk 10 = .ok (.getfield 34, 3) := by decide +kernel
theorem dX8_isWalk_13 : decode cX8_isWalk 13 = .ok (.iload_n 1, 1) := by decide +kernel
theorem dX8_isWalk_14 : decode cX8_isWalk 14 = .ok (.iaload, 1) := by decide +kernel
theorem dX8_isWalk_15 : decode cX8_isWalk 15 = .ok (.ifCond .le 7, 3) := by decide +kernel
theorem dX8_isWalk_18 : decode cX8_isWalk 18 = .ok (.iconst 1, 1) := by decide +kernel
theorem dX8_isWalk_19 : decode cX8_isWalk 19 = .ok (.goto 4, 3) := by decide +kernel
theorem dX8_isWalk_22 : decode cX8_isWalk 22 = .ok (.iconst 0, 1) := by decide +kernel
theorem dX8_isWalk_23 : decode cX8_isWalk 23 = .ok (.istore_n 2, 1) := by decide +kernel
theorem dX8_isWalk_24 : decode cX8_isWalk 24 = .ok (.iconst 0, 1) := by decide +kernel
theorem dX8_isWalk_25 : decode cX8_isWalk 25 = .ok (.istore_n 3, 1) := by decide +kernel
theorem dX8_isWalk_26 : decode cX8_isWalk 26 = .ok (.iload_n 3, 1) := by decide +kernel
theorem dX8_isWalk_27 : decode cX8_isWalk 27 = .ok (.aload_n 0, 1) := by decide +kernel
theorem dX8_isWalk_28 : decode cX8_isWalk 28 = .ok (.getfield 34, 3) := by decide +kernel
theorem dX8_isWalk_31 : decode cX8_isWalk 31 = .ok (.iload_n 1, 1) := by decide +kernel
theorem dX8_isWalk_32 : decode cX8_isWalk 32 = .ok (.iaload, 1) := by decide +kernel
theorem dX8_isWalk_33 : decode cX8_isWalk 33 = .ok (.if_icmp .ge 82, 3) := by decide +kernel
theorem dX8_isWalk_36 : decode cX8_isWalk 36 = .ok (.iload_n 2, 1) := by decide +kernel
theorem dX8_isWalk_37 : decode cX8_isWalk 37 = .ok (.ifCond .eq 78, 3) := by decide +kernel
theorem dX8_isWalk_40 : decode cX8_isWalk 40 = .ok (.aload_n 0, 1) := by decide +kernel
theorem dX8_isWalk_41 : decode cX8_isWalk 41 = .ok (.getfield 37, 3) := by decide +kernel
theorem dX8_isWalk_44 : decode cX8_isWalk 44 = .ok (.bipush 40, 2) := by decide +kernel
theorem dX8_isWalk_46 : decode cX8_isWalk 46 = .ok (.iload_n 1, 1) := by decide +kernel
theorem dX8_isWalk_47 : decode cX8_isWalk 47 = .ok (.imul, 1) := by decide +kernel
theorem dX8_isWalk_48 : decode cX8_isWalk 48 = .ok (.iload_n 3, 1) := by decide +kernel
theorem dX8_isWalk_49 : decode cX8_isWalk 49 = .ok (.iadd, 1) := by decide +kernel
theorem dX8_isWalk_50 : decode cX8_isWalk 50 = .ok (.iaload, 1) := by decide +kernel
theorem dX8_isWalk_51 : decode cX8_isWalk 51 = .ok (.istore 4, 2) := by decide +kernel
theorem dX8_isWalk_53 : decode cX8_isWalk 53 = .ok (.iload_n 3, 1) := by decide +kernel
theorem dX8_isWalk_54 : decode cX8_isWalk 54 = .ok (.ifCond .ne 8, 3) := by decide +kernel
theorem dX8_isWalk_57 : decode cX8_isWalk 57 = .ok (.iload 4, 2) := by decide +kernel
theorem dX8_isWalk_59 : decode cX8_isWalk 59 = .ok (.goto 16, 3) := by decide +kernel
theorem dX8_isWalk_62 : decode cX8_isWalk 62 = .ok (.aload_n 0, 1) := by decide +kernel
theorem dX8_isWalk_63 : decode cX8_isWalk 63 = .ok (.getfield 37, 3) := by decide +kernel
theorem dX8_isWalk_66 : decode cX8_isWalk 66 = .ok (.bipush 40, 2) := by decide +kernel
theorem dX8_isWalk_68 : decode cX8_isWalk 68 = .ok (.iload_n 1, 1) := by decide +kernel
theorem dX8_isWalk_69 : decode cX8_isWalk 69 = .ok (.imul, 1) := by decide +kernel
theorem dX8_isWalk_70 : decode cX8_isWalk 70 = .ok (.iload_n 3, 1) := by decide +kernel
theorem dX8_isWalk_71 : decode cX8_isWalk 71 = .ok (.iadd, 1) := by decide +kernel
theorem dX8_isWalk_72 : decode cX8_isWalk 72 = .ok (.iconst 1, 1) := by decide +kernel
theorem dX8_isWalk_73 : decode cX8_isWalk 73 = .ok (.isub, 1) := by decide +kernel
theorem dX8_isWalk_74 : decode cX8_isWalk 74 = .ok (.iaload, 1) := by decide +kernel
theorem dX8_isWalk_75 : decode cX8_isWalk 75 = .ok (.istore 5, 2) := by decide +kernel
theorem dX8_isWalk_77 : decode cX8_isWalk 77 = .ok (.iload 4, 2) := by decide +kernel
theorem dX8_isWalk_79 : decode cX8_isWalk 79 = .ok (.invokestatic 58, 3) := by decide +kernel
theorem dX8_isWalk_82 : decode cX8_isWalk 82 = .ok (.ifCond .eq 25, 3) := by decide +kernel
theorem dX8_isWalk_85 : decode cX8_isWalk 85 = .ok (.iload 4, 2) := by decide +kernel
theorem dX8_isWalk_87 : decode cX8_isWalk 87 = .ok (.iload 5, 2) := by decide +kernel
theorem dX8_isWalk_89 : decode cX8_isWalk 89 = .ok (.if_icmp .eq 14, 3) := by decide +kernel
theorem dX8_isWalk_92 : decode cX8_isWalk 92 = .ok (.aload_n 0, 1) := by decide +kernel
theorem dX8_isWalk_93 : decode cX8_isWalk 93 = .ok (.iload 5, 2) := by decide +kernel
theorem dX8_isWalk_95 : decode cX8_isWalk 95 = .ok (.iload 4, 2) := by decide +kernel
theorem dX8_isWalk_97 : decode cX8_isWalk 97 = .ok (.invokevirtual 76, 3) := by decide +kernel
theorem dX8_isWalk_100 : decode cX8_isWalk 100 = .ok (.ifCond .le 7, 3) := by decide +kernel
theorem dX8_isWalk_103 : decode cX8_isWalk 103 = .ok (.iconst 1, 1) := by decide +kernel
theorem dX8_isWalk_104 : decode cX8_isWalk 104 = .ok (.goto 4, 3) := by decide +kernel
theorem dX8_isWalk_107 : decode cX8_isWalk 107 = .ok (.iconst 0, 1) := by decide +kernel
theorem dX8_isWalk_108 : decode cX8_isWalk 108 = .ok (.istore_n 2, 1) := by decide +kernel
theorem dX8_isWalk_109 : decode cX8_isWalk 109 = .ok (.iinc 3 1, 3) := by decide +kernel
theorem dX8_isWalk_112 : decode cX8_isWalk 112 = .ok (.goto (-86), 3) := by decide +kernel
theorem dX8_isWalk_115 : decode cX8_isWalk 115 = .ok (.iload_n 2, 1) := by decide +kernel
theorem dX8_isWalk_116 : decode cX8_isWalk 116 = .ok (.ireturn, 1) := by decide +kernel
theorem dX8_walked_0 : decode cX8_walked 0 = .ok (.iload_n 1, 1) := by decide +kernel
theorem dX8_walked_1 : decode cX8_walked 1 = .ok (.invokestatic 257, 3) := by decide +kernel
theorem dX8_walked_4 : decode cX8_walked 4 = .ok (.ifCond .ne 10, 3) := by decide +kernel
theorem dX8_walked_7 : decode cX8_walked 7 = .ok (.aload_n 0, 1) := by decide +kernel
theorem dX8_walked_8 : decode cX8_walked 8 = .ok (.ldc 67, 2) := by decide +kernel
theorem dX8_walked_10 : decode cX8_walked 10 = .ok (.invokevirtual 68, 3) := by decide +kernel
theorem dX8_walked_13 : decode cX8_walked 13 = .ok (.ireturn, 1) := by decide +kernel
theorem dX8_walked_14 : decode cX8_walked 14 = .ok (.aload_n 0, 1) := by decide +kernel
theorem dX8_walked_15 : decode cX8_walked 15 = .ok (.iload_n 1, 1) := by decide +kernel
theorem dX8_walked_16 : decode cX8_walked 16 = .ok (.invokevirtual 260, 3) := by decide +kernel
theorem dX8_walked_19 : decode cX8_walked 19 = .ok (.ifCond .ne 10, 3) := by decide +kernel
theorem dX8_walked_22 : decode cX8_walked 22 = .ok (.aload_n 0, 1) := by decide +kernel
theorem dX8_walked_23 : decode cX8_walked 23 = .ok (.ldc 249, 2) := by decide +kernel
theorem dX8_walked_25 : decode cX8_walked 25 = .ok (.invokevirtual 68, 3) := by decide +kernel
theorem dX8_walked_28 : decode cX8_walked 28 = .ok (.ireturn, 1) := by decide +kernel
theorem dX8_walked_29 : decode cX8_walked 29 = .ok (.iconst 0, 1) := by decide +kernel
theorem dX8_walked_30 : decode cX8_walked 30 = .ok (.istore_n 2, 1) := by decide +kernel
theorem dX8_walked_31 : decode cX8_walked 31 = .ok (.iconst 1, 1) := by decide +kernel
theorem dX8_walked_32 : decode cX8_walked 32 = .ok (.istore_n 3, 1) := by decide +kernel
theorem dX8_walked_33 : decode cX8_walked 33 = .ok (.iload_n 3, 1) := by decide +kernel
theorem dX8_walked_34 : decode cX8_walked 34 = .ok (.aload_n 0, 1) := by decide +kernel
theorem dX8_walked_35 : decode cX8_walked 35 = .ok (.getfield 34, 3) := by decide +kernel
theorem dX8_walked_38 : decode cX8_walked 38 = .ok (.iload_n 1, 1) := by decide +kernel
theorem dX8_walked_39 : decode cX8_walked 39 = .ok (.iaload, 1) := by decide +kernel
theorem dX8_walked_40 : decode cX8_walked 40 = .ok (.if_icmp .ge 40, 3) := by decide +kernel
theorem dX8_walked_43 : decode cX8_walked 43 = .ok (.iload_n 2, 1) := by decide +kernel
theorem dX8_walked_44 : decode cX8_walked 44 = .ok (.aload_n 0, 1) := by decide +kernel
theorem dX8_walked_45 : decode cX8_walked 45 = .ok (.aload_n 0, 1) := by decide +kernel
theorem dX8_walked_46 : decode cX8_walked 46 = .ok (.getfield 37, 3) := by decide +kernel
theorem dX8_walked_49 : decode cX8_walked 49 = .ok (.bipush 40, 2) := by decide +kernel
theorem dX8_walked_51 : decode cX8_walked 51 = .ok (.iload_n 1, 1) := by decide +kernel
theorem dX8_walked_52 : decode cX8_walked 52 = .ok (.imul, 1) := by decide +kernel
theorem dX8_walked_53 : decode cX8_walked 53 = .ok (.iload_n 3, 1) := by decide +kernel
theorem dX8_walked_54 : decode cX8_walked 54 = .ok (.iadd, 1) := by decide +kernel
theorem dX8_walked_55 : decode cX8_walked 55 = .ok (.iconst 1, 1) := by decide +kernel
theorem dX8_walked_56 : decode cX8_walked 56 = .ok (.isub, 1) := by decide +kernel
theorem dX8_walked_57 : decode cX8_walked 57 = .ok (.iaload, 1) := by decide +kernel
theorem dX8_walked_58 : decode cX8_walked 58 = .ok (.aload_n 0, 1) := by decide +kernel
theorem dX8_walked_59 : decode cX8_walked 59 = .ok (.getfield 37, 3) := by decide +kernel
theorem dX8_walked_62 : decode cX8_walked 62 = .ok (.bipush 40, 2) := by decide +kernel
theorem dX8_walked_64 : decode cX8_walked 64 = .ok (.iload_n 1, 1) := by decide +kernel
theorem dX8_walked_65 : decode cX8_walked 65 = .ok (.imul, 1) := by decide +kernel
theorem dX8_walked_66 : decode cX8_walked 66 = .ok (.iload_n 3, 1) := by decide +kernel
theorem dX8_walked_67 : decode cX8_walked 67 = .ok (.iadd, 1) := by decide +kernel
theorem dX8_walked_68 : decode cX8_walked 68 = .ok (.iaload, 1) := by decide +kernel
theorem dX8_walked_69 : decode cX8_walked 69 = .ok (.invokevirtual 76, 3) := by decide +kernel
theorem dX8_walked_72 : decode cX8_walked 72 = .ok (.iadd, 1) := by decide +kernel
theorem dX8_walked_73 : decode cX8_walked 73 = .ok (.istore_n 2, 1) := by decide +kernel
theorem dX8_walked_74 : decode cX8_walked 74 = .ok (.iinc 3 1, 3) := by decide +kernel
theorem dX8_walked_77 : decode cX8_walked 77 = .ok (.goto (-44), 3) := by decide +kernel
theorem dX8_walked_80 : decode cX8_walked 80 = .ok (.iload_n 2, 1) := by decide +kernel
theorem dX8_walked_81 : decode cX8_walked 81 = .ok (.ireturn, 1) := by decide +kernel
theorem dX8_alive_0 : decode cX8_alive 0 = .ok (.iload_n 1, 1) := by decide +kernel
theorem dX8_alive_1 : decode cX8_alive 1 = .ok (.invokestatic 257, 3) := by decide +kernel
theorem dX8_alive_4 : decode cX8_alive 4 = .ok (.ifCond .eq 18, 3) := by decide +kernel
theorem dX8_alive_7 : decode cX8_alive 7 = .ok (.aload_n 0, 1) := by decide +kernel
theorem dX8_alive_8 : decode cX8_alive 8 = .ok (.iload_n 2, 1) := by decide +kernel
theorem dX8_alive_9 : decode cX8_alive 9 = .ok (.invokevirtual 103, 3) := by decide +kernel
theorem dX8_alive_12 : decode cX8_alive 12 = .ok (.ifCond .eq 10, 3) := by decide +kernel
theorem dX8_alive_15 : decode cX8_alive 15 = .ok (.iload_n 3, 1) := by decide +kernel
theorem dX8_alive_16 : decode cX8_alive 16 = .ok (.invokestatic 235, 3) := by decide +kernel
theorem dX8_alive_19 : decode cX8_alive 19 = .ok (.ifCond .ne 10, 3) := by decide +kernel
theorem dX8_alive_22 : decode cX8_alive 22 = .ok (.aload_n 0, 1) := by decide +kernel
theorem dX8_alive_23 : decode cX8_alive 23 = .ok (.ldc 67, 2) := by decide +kernel
theorem dX8_alive_25 : decode cX8_alive 25 = .ok (.invokevirtual 68, 3) := by decide +kernel
theorem dX8_alive_28 : decode cX8_alive 28 = .ok (.ireturn, 1) := by decide +kernel
theorem dX8_alive_29 : decode cX8_alive 29 = .ok (.aload_n 0, 1) := by decide +kernel
theorem dX8_alive_30 : decode cX8_alive 30 = .ok (.iload_n 1, 1) := by decide +kernel
theorem dX8_alive_31 : decode cX8_alive 31 = .ok (.invokevirtual 260, 3) := by decide +kernel
theorem dX8_alive_34 : decode cX8_alive 34 = .ok (.ifCond .ne 10, 3) := by decide +kernel
theorem dX8_alive_37 : decode cX8_alive 37 = .ok (.aload_n 0, 1) := by decide +kernel
theorem dX8_alive_38 : decode cX8_alive 38 = .ok (.ldc 249, 2) := by decide +kernel
theorem dX8_alive_40 : decode cX8_alive 40 = .ok (.invokevirtual 68, 3) := by decide +kernel
theorem dX8_alive_43 : decode cX8_alive 43 = .ok (.ireturn, 1) := by decide +kernel
theorem dX8_alive_44 : decode cX8_alive 44 = .ok (.iconst 0, 1) := by decide +kernel
theorem dX8_alive_45 : decode cX8_alive 45 = .ok (.istore 4, 2) := by decide +kernel
theorem dX8_alive_47 : decode cX8_alive 47 = .ok (.iconst 1, 1) := by decide +kernel
theorem dX8_alive_48 : decode cX8_alive 48 = .ok (.istore 5, 2) := by decide +kernel
theorem dX8_alive_50 : decode cX8_alive 50 = .ok (.iconst 1, 1) := by decide +kernel
theorem dX8_alive_51 : decode cX8_alive 51 = .ok (.istore 6, 2) := by decide +kernel
theorem dX8_alive_53 : decode cX8_alive 53 = .ok (.iload 6, 2) := by decide +kernel
theorem dX8_alive_55 : decode cX8_alive 55 = .ok (.aload_n 0, 1) := by decide +kernel
theorem dX8_alive_56 : decode cX8_alive 56 = .ok (.getfield 34, 3) := by decide +kernel
theorem dX8_alive_59 : decode cX8_alive 59 = .ok (.iload_n 1, 1) := by decide +kernel
theorem dX8_alive_60 : decode cX8_alive 60 = .ok (.iaload, 1) := by decide +kernel
theorem dX8_alive_61 : decode cX8_alive 61 = .ok (.if_icmp .ge 106, 3) := by decide +kernel
theorem dX8_alive_64 : decode cX8_alive 64 = .ok (.iload 5, 2) := by decide +kernel
theorem dX8_alive_66 : decode cX8_alive 66 = .ok (.ifCond .eq 101, 3) := by decide +kernel
theorem dX8_alive_69 : decode cX8_alive 69 = .ok (.aload_n 0, 1) := by decide +kernel
theorem dX8_alive_70 : decode cX8_alive 70 = .ok (.getfield 37, 3) := by decide +kernel
theorem dX8_alive_73 : decode cX8_alive 73 = .ok (.bipush 40, 2) := by decide +kernel
theorem dX8_alive_75 : decode cX8_alive 75 = .ok (.iload_n 1, 1) := by decide +kernel
theorem dX8_alive_76 : decode cX8_alive 76 = .ok (.imul, 1) := by decide +kernel
theorem dX8_alive_77 : decode cX8_alive 77 = .ok (.iload 6, 2) := by decide +kernel
theorem dX8_alive_79 : decode cX8_alive 79 = .ok (.iadd, 1) := by decide +kernel
theorem dX8_alive_80 : decode cX8_alive 80 = .ok (.iaload, 1) := by decide +kernel
theorem dX8_alive_81 : decode cX8_alive 81 = .ok (.istore 7, 2) := by decide +kernel
theorem dX8_alive_83 : decode cX8_alive 83 = .ok (.aload_n 0, 1) := by decide +kernel
theorem dX8_alive_84 : decode cX8_alive 84 = .ok (.aload_n 0, 1) := by decide +kernel
theorem dX8_alive_85 : decode cX8_alive 85 = .ok (.getfield 37, 3) := by decide +kernel
theorem dX8_alive_88 : decode cX8_alive 88 = .ok (.bipush 40, 2) := by decide +kernel
theorem dX8_alive_90 : decode cX8_alive 90 = .ok (.iload_n 1, 1) := by decide +kernel
theorem dX8_alive_91 : decode cX8_alive 91 = .ok (.imul, 1) := by decide +kernel
theorem dX8_alive_92 : decode cX8_alive 92 = .ok (.iload 6, 2) := by decide +kernel
theorem dX8_alive_94 : decode cX8_alive 94 = .ok (.iadd, 1) := by decide +kernel
theorem dX8_alive_95 : decode cX8_alive 95 = .ok (.iconst 1, 1) := by decide +kernel
theorem dX8_alive_96 : decode cX8_alive 96 = .ok (.isub, 1) := by decide +kernel
theorem dX8_alive_97 : decode cX8_alive 97 = .ok (.iaload, 1) := by decide +kernel
theorem dX8_alive_98 : decode cX8_alive 98 = .ok (.iload 7, 2) := by decide +kernel
theorem dX8_alive_100 : decode cX8_alive 100 = .ok (.invokevirtual 76, 3) := by decide +kernel
theorem dX8_alive_103 : decode cX8_alive 103 = .ok (.istore 8, 2) := by decide +kernel
theorem dX8_alive_105 : decode cX8_alive 105 = .ok (.iload 4, 2) := by decide +kernel
theorem dX8_alive_107 : decode cX8_alive 107 = .ok (.iload 8, 2) := by decide +kernel
theorem dX8_alive_109 : decode cX8_alive 109 = .ok (.ifCond .le 13, 3) := by decide +kernel
theorem dX8_alive_112 : decode cX8_alive 112 = .ok (.aload_n 0, 1) := by decide +kernel
theorem dX8_alive_113 : decode cX8_alive 113 = .ok (.iload_n 2, 1) := by decide +kernel
theorem dX8_alive_114 : decode cX8_alive 114 = .ok (.iload 8, 2) := by decide +kernel
theorem dX8_alive_116 : decode cX8_alive 116 = .ok (.invokevirtual 204, 3) := by decide +kernel
theorem dX8_alive_119 : decode cX8_alive 119 = .ok (.goto 4, 3) := by decide +kernel
theorem dX8_alive_122 : decode cX8_alive 122 = .ok (.iconst 0, 1) := by decide +kernel
theorem dX8_alive_123 : decode cX8_alive 123 = .ok (.iadd, 1) := by decide +kernel
theorem dX8_alive_124 : decode cX8_alive 124 = .ok (.istore 4, 2) := by decide +kernel
theorem dX8_alive_126 : decode cX8_alive 126 = .ok (.iload 4, 2) := by decide +kernel
theorem dX8_alive_128 : decode cX8_alive 128 = .ok (.aload_n 0, 1) := by decide +kernel
theorem dX8_alive_129 : decode cX8_alive 129 = .ok (.iload_n 2, 1) := by decide +kernel
theorem dX8_alive_130 : decode cX8_alive 130 = .ok (.invokevirtual 108, 3) := by decide +kernel
theorem dX8_alive_133 : decode cX8_alive 133 = .ok (.if_icmp .gt 7, 3) := by decide +kernel
theorem dX8_alive_136 : decode cX8_alive 136 = .ok (.iconst 1, 1) := by decide +kernel
theorem dX8_alive_137 : decode cX8_alive 137 = .ok (.goto 4, 3) := by decide +kernel
theorem dX8_alive_140 : decode cX8_alive 140 = .ok (.iconst 0, 1) := by decide +kernel
theorem dX8_alive_141 : decode cX8_alive 141 = .ok (.istore 5, 2) := by decide +kernel
theorem dX8_alive_143 : decode cX8_alive 143 = .ok (.iload_n 3, 1) := by decide +kernel
theorem dX8_alive_144 : decode cX8_alive 144 = .ok (.iload 7, 2) := by decide +kernel
theorem dX8_alive_146 : decode cX8_alive 146 = .ok (.ishr, 1) := by decide +kernel
theorem dX8_alive_147 : decode cX8_alive 147 = .ok (.iconst 1, 1) := by decide +kernel
theorem dX8_alive_148 : decode cX8_alive 148 = .ok (.iand, 1) := by decide +kernel
theorem dX8_alive_149 : decode cX8_alive 149 = .ok (.iconst 1, 1) := by decide +kernel
theorem dX8_alive_150 : decode cX8_alive 150 = .ok (.if_icmp .ne 7, 3) := by decide +kernel
theorem dX8_alive_153 : decode cX8_alive 153 = .ok (.iconst 0, 1) := by decide +kernel
theorem dX8_alive_154 : decode cX8_alive 154 = .ok (.goto 5, 3) := by decide +kernel
theorem dX8_alive_157 : decode cX8_alive 157 = .ok (.iload 4, 2) := by decide +kernel
theorem dX8_alive_159 : decode cX8_alive 159 = .ok (.istore 4, 2) := by decide +kernel
theorem dX8_alive_161 : decode cX8_alive 161 = .ok (.iinc 6 1, 3) := by decide +kernel
theorem dX8_alive_164 : decode cX8_alive 164 = .ok (.goto (-111), 3) := by decide +kernel
theorem dX8_alive_167 : decode cX8_alive 167 = .ok (.iload 5, 2) := by decide +kernel
theorem dX8_alive_169 : decode cX8_alive 169 = .ok (.ifCond .eq 7, 3) := by decide +kernel
theorem dX8_alive_172 : decode cX8_alive 172 = .ok (.iconst 1, 1) := by decide +kernel
theorem dX8_alive_173 : decode cX8_alive 173 = .ok (.goto 4, 3) := by decide +kernel
theorem dX8_alive_176 : decode cX8_alive 176 = .ok (.iconst 0, 1) := by decide +kernel
theorem dX8_alive_177 : decode cX8_alive 177 = .ok (.ireturn, 1) := by decide +kernel
theorem dX8_grown_0 : decode cX8_grown 0 = .ok (.iload_n 1, 1) := by decide +kernel
theorem dX8_grown_1 : decode cX8_grown 1 = .ok (.invokestatic 58, 3) := by decide +kernel
theorem dX8_grown_4 : decode cX8_grown 4 = .ok (.ifCond .eq 27, 3) := by decide +kernel
theorem dX8_grown_7 : decode cX8_grown 7 = .ok (.iload_n 2, 1) := by decide +kernel
theorem dX8_grown_8 : decode cX8_grown 8 = .ok (.i2l, 1) := by decide +kernel
theorem dX8_grown_9 : decode cX8_grown 9 = .ok (.lconst 0, 1) := by decide +kernel
theorem dX8_grown_10 : decode cX8_grown 10 = .ok (.ldc2_w 263, 3) := by decide +kernel
theorem dX8_grown_13 : decode cX8_grown 13 = .ok (.invokestatic 46, 3) := by decide +kernel
theorem dX8_grown_16 : decode cX8_grown 16 = .ok (.ifCond .eq 15, 3) := by decide +kernel
theorem dX8_grown_19 : decode cX8_grown 19 = .ok (.iload_n 3, 1) := by decide +kernel
theorem dX8_grown_20 : decode cX8_grown 20 = .ok (.i2l, 1) := by decide +kernel
theorem dX8_grown_21 : decode cX8_grown 21 = .ok (.lconst 0, 1) := by decide +kernel
theorem dX8_grown_22 : decode cX8_grown 22 = .ok (.ldc2_w 72, 3) := by decide +kernel
theorem dX8_grown_25 : decode cX8_grown 25 = .ok (.invokestatic 46, 3) := by decide +kernel
theorem dX8_grown_28 : decode cX8_grown 28 = .ok (.ifCond .ne 10, 3) := by decide +kernel
theorem dX8_grown_31 : decode cX8_grown 31 = .ok (.aload_n 0, 1) := by decide +kernel
theorem dX8_grown_32 : decode cX8_grown 32 = .ok (.ldc 67, 2) := by decide +kernel
theorem dX8_grown_34 : decode cX8_grown 34 = .ok (.invokevirtual 68, 3) := by decide +kernel
theorem dX8_grown_37 : decode cX8_grown 37 = .ok (.ireturn, 1) := by decide +kernel
theorem dX8_grown_38 : decode cX8_grown 38 = .ok (.iconst 0, 1) := by decide +kernel
theorem dX8_grown_39 : decode cX8_grown 39 = .ok (.istore 4, 2) := by decide +kernel
theorem dX8_grown_41 : decode cX8_grown 41 = .ok (.iconst 0, 1) := by decide +kernel
theorem dX8_grown_42 : decode cX8_grown 42 = .ok (.istore 5, 2) := by decide +kernel
theorem dX8_grown_44 : decode cX8_grown 44 = .ok (.iload 5, 2) := by decide +kernel
theorem dX8_grown_46 : decode cX8_grown 46 = .ok (.bipush 8, 2) := by decide +kernel
theorem dX8_grown_48 : decode cX8_grown 48 = .ok (.if_icmp .ge 67, 3) := by decide +kernel
theorem dX8_grown_51 : decode cX8_grown 51 = .ok (.aload_n 0, 1) := by decide +kernel
theorem dX8_grown_52 : decode cX8_grown 52 = .ok (.getfield 7, 3) := by decide +kernel
theorem dX8_grown_55 : decode cX8_grown 55 = .ok (.bipush 72, 2) := by decide +kernel
theorem dX8_grown_57 : decode cX8_grown 57 = .ok (.bipush 8, 2) := by decide +kernel
theorem dX8_grown_59 : decode cX8_grown 59 = .ok (.iload_n 1, 1) := by decide +kernel
theorem dX8_grown_60 : decode cX8_grown 60 = .ok (.imul, 1) := by decide +kernel
theorem dX8_grown_61 : decode cX8_grown 61 = .ok (.iadd, 1) := by decide +kernel
theorem dX8_grown_62 : decode cX8_grown 62 = .ok (.iload 5, 2) := by decide +kernel
theorem dX8_grown_64 : decode cX8_grown 64 = .ok (.iadd, 1) := by decide +kernel
theorem dX8_grown_65 : decode cX8_grown 65 = .ok (.iaload, 1) := by decide +kernel
theorem dX8_grown_66 : decode cX8_grown 66 = .ok (.istore 6, 2) := by decide +kernel
theorem dX8_grown_68 : decode cX8_grown 68 = .ok (.iconst 0, 1) := by decide +kernel
theorem dX8_grown_69 : decode cX8_grown 69 = .ok (.istore 7, 2) := by decide +kernel
theorem dX8_grown_71 : decode cX8_grown 71 = .ok (.iload 7, 2) := by decide +kernel
theorem dX8_grown_73 : decode cX8_grown 73 = .ok (.iload_n 2, 1) := by decide +kernel
theorem dX8_grown_74 : decode cX8_grown 74 = .ok (.if_icmp .ge 28, 3) := by decide +kernel
theorem dX8_grown_77 : decode cX8_grown 77 = .ok (.iload 6, 2) := by decide +kernel
theorem dX8_grown_79 : decode cX8_grown 79 = .ok (.iload 6, 2) := by decide +kernel
theorem dX8_grown_81 : decode cX8_grown 81 = .ok (.iload_n 3, 1) := by decide +kernel
theorem dX8_grown_82 : decode cX8_grown 82 = .ok (.imul, 1) := by decide +kernel
theorem dX8_grown_83 : decode cX8_grown 83 = .ok (.bipush 100, 2) := by decide +kernel
theorem dX8_grown_85 : decode cX8_grown 85 = .ok (.idiv, 1) := by decide +kernel
theorem dX8_grown_86 : decode cX8_grown 86 = .ok (.iadd, 1) := by decide +kernel
theorem dX8_grown_87 : decode cX8_grown 87 = .ok (.iconst 0, 1) := by decide +kernel
theorem dX8_grown_88 : decode cX8_grown 88 = .ok (.sipush 9999, 3) := by decide +kernel
theorem dX8_grown_91 : decode cX8_grown 91 = .ok (.invokestatic 193, 3) := by decide +kernel
theorem dX8_grown_94 : decode cX8_grown 94 = .ok (.istore 6, 2) := by decide +kernel
theorem dX8_grown_96 : decode cX8_grown 96 = .ok (.iinc 7 1, 3) := by decide +kernel
theorem dX8_grown_99 : decode cX8_grown 99 = .ok (.goto (-28), 3) := by decide +kernel
theorem dX8_grown_102 : decode cX8_grown 102 = .ok (.iload 4, 2) := by decide +kernel
theorem dX8_grown_104 : decode cX8_grown 104 = .ok (.iload 6, 2) := by decide +kernel
theorem dX8_grown_106 : decode cX8_grown 106 = .ok (.iadd, 1) := by decide +kernel
theorem dX8_grown_107 : decode cX8_grown 107 = .ok (.istore 4, 2) := by decide +kernel
theorem dX8_grown_109 : decode cX8_grown 109 = .ok (.iinc 5 1, 3) := by decide +kernel
theorem dX8_grown_112 : decode cX8_grown 112 = .ok (.goto (-68), 3) := by decide +kernel
theorem dX8_grown_115 : decode cX8_grown 115 = .ok (.iload 4, 2) := by decide +kernel
theorem dX8_grown_117 : decode cX8_grown 117 = .ok (.ireturn, 1) := by decide +kernel
theorem dX8_seed_0 : decode cX8_seed 0 = .ok (.aload_n 0, 1) := by decide +kernel
theorem dX8_seed_1 : decode cX8_seed 1 = .ok (.sipush 176, 3) := by decide +kernel
theorem dX8_seed_4 : decode cX8_seed 4 = .ok (.iload_n 1, 1) := by decide +kernel
theorem dX8_seed_5 : decode cX8_seed 5 = .ok (.invokevirtual 64, 3) := by decide +kernel
theorem dX8_seed_8 : decode cX8_seed 8 = .ok (.ireturn, 1) := by decide +kernel
theorem dX8_ran_0 : decode cX8_ran 0 = .ok (.aload_n 0, 1) := by decide +kernel
theorem dX8_ran_1 : decode cX8_ran 1 = .ok (.getfield 265, 3) := by decide +kernel
theorem dX8_ran_4 : decode cX8_ran 4 = .ok (.bipush 40, 2) := by decide +kernel
theorem dX8_ran_6 : decode cX8_ran 6 = .ok (.if_icmp .ge 23, 3) := by decide +kernel
theorem dX8_ran_9 : decode cX8_ran 9 = .ok (.aload_n 0, 1) := by decide +kernel
theorem dX8_ran_10 : decode cX8_ran 10 = .ok (.getfield 28, 3) := by decide +kernel
theorem dX8_ran_13 : decode cX8_ran 13 = .ok (.aload_n 0, 1) := by decide +kernel
theorem dX8_ran_14 : decode cX8_ran 14 = .ok (.getfield 265, 3) := by decide +kernel
theorem dX8_ran_17 : decode cX8_ran 17 = .ok (.iload_n 1, 1) := by decide +kernel
theorem dX8_ran_18 : decode cX8_ran 18 = .ok (.iastore, 1) := by decide +kernel
theorem dX8_ran_19 : decode cX8_ran 19 = .ok (.aload_n 0, 1) := by decide +kernel
theorem dX8_ran_20 : decode cX8_ran 20 = .ok (.dup, 1) := by decide +kernel
theorem dX8_ran_21 : decode cX8_ran 21 = .ok (.getfield 265, 3) := by decide +kernel
theorem dX8_ran_24 : decode cX8_ran 24 = .ok (.iconst 1, 1) := by decide +kernel
theorem dX8_ran_25 : decode cX8_ran 25 = .ok (.iadd, 1) := by decide +kernel
theorem dX8_ran_26 : decode cX8_ran 26 = .ok (.putfield 265, 3) := by decide +kernel
theorem dX8_ran_29 : decode cX8_ran 29 = .ok (.return_, 1) := by decide +kernel
theorem dX8_plainReads_0 : decode cX8_plainReads 0 = .ok (.aload_n 0, 1) := by decide +kernel
theorem dX8_plainReads_1 : decode cX8_plainReads 1 = .ok (.bipush 10, 2) := by decide +kernel
theorem dX8_plainReads_3 : decode cX8_plainReads 3 = .ok (.invokevirtual 268, 3) := by decide +kernel
theorem dX8_plainReads_6 : decode cX8_plainReads 6 = .ok (.iload_n 1, 1) := by decide +kernel
theorem dX8_plainReads_7 : decode cX8_plainReads 7 = .ok (.aload_n 0, 1) := by decide +kernel
theorem dX8_plainReads_8 : decode cX8_plainReads 8 = .ok (.getfield 271, 3) := by decide +kernel
theorem dX8_plainReads_11 : decode cX8_plainReads 11 = .ok (.iadd, 1) := by decide +kernel
theorem dX8_plainReads_12 : decode cX8_plainReads 12 = .ok (.ireturn, 1) := by decide +kernel
theorem dX8_readsBy_0 : decode cX8_readsBy 0 = .ok (.aload_n 0, 1) := by decide +kernel
theorem dX8_readsBy_1 : decode cX8_readsBy 1 = .ok (.getfield 274, 3) := by decide +kernel
theorem dX8_readsBy_4 : decode cX8_readsBy 4 = .ok (.iconst 1, 1) := by decide +kernel
theorem dX8_readsBy_5 : decode cX8_readsBy 5 = .ok (.invokestatic 116, 3) := by decide +kernel
theorem dX8_readsBy_8 : decode cX8_readsBy 8 = .ok (.ifCond .ne 9, 3) := by decide +kernel
theorem dX8_readsBy_11 : decode cX8_readsBy 11 = .ok (.aload_n 0, 1) := by decide +kernel
theorem dX8_readsBy_12 : decode cX8_readsBy 12 = .ok (.iload_n 1, 1) := by decide +kernel
theorem dX8_readsBy_13 : decode cX8_readsBy 13 = .ok (.invokevirtual 277, 3) := by decide +kernel
theorem dX8_readsBy_16 : decode cX8_readsBy 16 = .ok (.ireturn, 1) := by decide +kernel
theorem dX8_readsBy_17 : decode cX8_readsBy 17 = .ok (.aload_n 0, 1) := by decide +kernel
theorem dX8_readsBy_18 : decode cX8_readsBy 18 = .ok (.bipush 20, 2) := by decide +kernel
theorem dX8_readsBy_20 : decode cX8_readsBy 20 = .ok (.invokevirtual 268, 3) := by decide +kernel
theorem dX8_readsBy_23 : decode cX8_readsBy 23 = .ok (.aload_n 0, 1) := by decide +kernel
theorem dX8_readsBy_24 : decode cX8_readsBy 24 = .ok (.iload_n 1, 1) := by decide +kernel
theorem dX8_readsBy_25 : decode cX8_readsBy 25 = .ok (.invokevirtual 277, 3) := by decide +kernel
theorem dX8_readsBy_28 : decode cX8_readsBy 28 = .ok (.iconst 3, 1) := by decide +kernel
theorem dX8_readsBy_29 : decode cX8_readsBy 29 = .ok (.imul, 1) := by decide +kernel
theorem dX8_readsBy_30 : decode cX8_readsBy 30 = .ok (.ireturn, 1) := by decide +kernel
theorem dX8_plainTakes_0 : decode cX8_plainTakes 0 = .ok (.aload_n 0, 1) := by decide +kernel
theorem dX8_plainTakes_1 : decode cX8_plainTakes 1 = .ok (.bipush 12, 2) := by decide +kernel
theorem dX8_plainTakes_3 : decode cX8_plainTakes 3 = .ok (.invokevirtual 268, 3) := by decide +kernel
theorem dX8_plainTakes_6 : decode cX8_plainTakes 6 = .ok (.iload_n 1, 1) := by decide +kernel
theorem dX8_plainTakes_7 : decode cX8_plainTakes 7 = .ok (.aload_n 0, 1) := by decide +kernel
theorem dX8_plainTakes_8 : decode cX8_plainTakes 8 = .ok (.getfield 280, 3) := by decide +kernel
theorem dX8_plainTakes_11 : decode cX8_plainTakes 11 = .ok (.isub, 1) := by decide +kernel
theorem dX8_plainTakes_12 : decode cX8_plainTakes 12 = .ok (.ireturn, 1) := by decide +kernel
theorem dX8_lawTakes_0 : decode cX8_lawTakes 0 = .ok (.aload_n 0, 1) := by decide +kernel
theorem dX8_lawTakes_1 : decode cX8_lawTakes 1 = .ok (.bipush 40, 2) := by decide +kernel
theorem dX8_lawTakes_3 : decode cX8_lawTakes 3 = .ok (.invokevirtual 268, 3) := by decide +kernel
theorem dX8_lawTakes_6 : decode cX8_lawTakes 6 = .ok (.aload_n 0, 1) := by decide +kernel
theorem dX8_lawTakes_7 : decode cX8_lawTakes 7 = .ok (.iload_n 1, 1) := by decide +kernel
theorem dX8_lawTakes_8 : decode cX8_lawTakes 8 = .ok (.invokevirtual 283, 3) := by decide +kernel
theorem dX8_lawTakes_11 : decode cX8_lawTakes 11 = .ok (.ineg, 1) := by decide +kernel
theorem dX8_lawTakes_12 : decode cX8_lawTakes 12 = .ok (.ireturn, 1) := by decide +kernel
theorem dX8_takesBy_0 : decode cX8_takesBy 0 = .ok (.aload_n 0, 1) := by decide +kernel
theorem dX8_takesBy_1 : decode cX8_takesBy 1 = .ok (.getfield 274, 3) := by decide +kernel
theorem dX8_takesBy_4 : decode cX8_takesBy 4 = .ok (.bipush 6, 2) := by decide +kernel
theorem dX8_takesBy_6 : decode cX8_takesBy 6 = .ok (.if_icmp .ne 20, 3) := by decide +kernel
theorem dX8_takesBy_9 : decode cX8_takesBy 9 = .ok (.aload_n 0, 1) := by decide +kernel
theorem dX8_takesBy_10 : decode cX8_takesBy 10 = .ok (.bipush 70, 2) := by decide +kernel
theorem dX8_takesBy_12 : decode cX8_takesBy 12 = .ok (.invokevirtual 268, 3) := by decide +kernel
theorem dX8_takesBy_15 : decode cX8_takesBy 15 = .ok (.aload_n 0, 1) := by decide +kernel
theorem dX8_takesBy_16 : decode cX8_takesBy 16 = .ok (.iload_n 1, 1) := by decide +kernel
theorem dX8_takesBy_17 : decode cX8_takesBy 17 = .ok (.invokevirtual 286, 3) := by decide +kernel
theorem dX8_takesBy_20 : decode cX8_takesBy 20 = .ok (.aload_n 0, 1) := by decide +kernel
theorem dX8_takesBy_21 : decode cX8_takesBy 21 = .ok (.getfield 271, 3) := by decide +kernel
theorem dX8_takesBy_24 : decode cX8_takesBy 24 = .ok (.ixor, 1) := by decide +kernel
theorem dX8_takesBy_25 : decode cX8_takesBy 25 = .ok (.ireturn, 1) := by decide +kernel
theorem dX8_takesBy_26 : decode cX8_takesBy 26 = .ok (.aload_n 0, 1) := by decide +kernel
theorem dX8_takesBy_27 : decode cX8_takesBy 27 = .ok (.getfield 274, 3) := by decide +kernel
theorem dX8_takesBy_30 : decode cX8_takesBy 30 = .ok (.iconst 3, 1) := by decide +kernel
theorem dX8_takesBy_31 : decode cX8_takesBy 31 = .ok (.if_icmp .ne 11, 3) := by decide +kernel
theorem dX8_takesBy_34 : decode cX8_takesBy 34 = .ok (.aload_n 0, 1) := by decide +kernel
theorem dX8_takesBy_35 : decode cX8_takesBy 35 = .ok (.iload_n 1, 1) := by decide +kernel
theorem dX8_takesBy_36 : decode cX8_takesBy 36 = .ok (.invokevirtual 286, 3) := by decide +kernel
theorem dX8_takesBy_39 : decode cX8_takesBy 39 = .ok (.goto 8, 3) := by decide +kernel
theorem dX8_takesBy_42 : decode cX8_takesBy 42 = .ok (.aload_n 0, 1) := by decide +kernel
theorem dX8_takesBy_43 : decode cX8_takesBy 43 = .ok (.iload_n 1, 1) := by decide +kernel
theorem dX8_takesBy_44 : decode cX8_takesBy 44 = .ok (.invokevirtual 283, 3) := by decide +kernel
theorem dX8_takesBy_47 : decode cX8_takesBy 47 = .ok (.ireturn, 1) := by decide +kernel
theorem dX8_plainGives_0 : decode cX8_plainGives 0 = .ok (.aload_n 0, 1) := by decide +kernel
theorem dX8_plainGives_1 : decode cX8_plainGives 1 = .ok (.bipush 11, 2) := by decide +kernel
theorem dX8_plainGives_3 : decode cX8_plainGives 3 = .ok (.invokevirtual 268, 3) := by decide +kernel
theorem dX8_plainGives_6 : decode cX8_plainGives 6 = .ok (.aload_n 0, 1) := by decide +kernel
theorem dX8_plainGives_7 : decode cX8_plainGives 7 = .ok (.iload_n 1, 1) := by decide +kernel
theorem dX8_plainGives_8 : decode cX8_plainGives 8 = .ok (.invokevirtual 289, 3) := by decide +kernel
theorem dX8_plainGives_11 : decode cX8_plainGives 11 = .ok (.iconst 2, 1) := by decide +kernel
theorem dX8_plainGives_12 : decode cX8_plainGives 12 = .ok (.imul, 1) := by decide +kernel
theorem dX8_plainGives_13 : decode cX8_plainGives 13 = .ok (.ireturn, 1) := by decide +kernel
theorem dX8_poemGives_0 : decode cX8_poemGives 0 = .ok (.aload_n 0, 1) := by decide +kernel
theorem dX8_poemGives_1 : decode cX8_poemGives 1 = .ok (.bipush 30, 2) := by decide +kernel
theorem dX8_poemGives_3 : decode cX8_poemGives 3 = .ok (.invokevirtual 268, 3) := by decide +kernel
theorem dX8_poemGives_6 : decode cX8_poemGives 6 = .ok (.aload_n 0, 1) := by decide +kernel
theorem dX8_poemGives_7 : decode cX8_poemGives 7 = .ok (.iload_n 1, 1) := by decide +kernel
theorem dX8_poemGives_8 : decode cX8_poemGives 8 = .ok (.invokevirtual 292, 3) := by decide +kernel
theorem dX8_poemGives_11 : decode cX8_poemGives 11 = .ok (.istore_n 2, 1) := by decide +kernel
theorem dX8_poemGives_12 : decode cX8_poemGives 12 = .ok (.iload_n 2, 1) := by decide +kernel
theorem dX8_poemGives_13 : decode cX8_poemGives 13 = .ok (.aload_n 0, 1) := by decide +kernel
theorem dX8_poemGives_14 : decode cX8_poemGives 14 = .ok (.iconst 1, 1) := by decide +kernel
theorem dX8_poemGives_15 : decode cX8_poemGives 15 = .ok (.invokevirtual 295, 3) := by decide +kernel
theorem dX8_poemGives_18 : decode cX8_poemGives 18 = .ok (.isub, 1) := by decide +kernel
theorem dX8_poemGives_19 : decode cX8_poemGives 19 = .ok (.ireturn, 1) := by decide +kernel
theorem dX8_givesBy_0 : decode cX8_givesBy 0 = .ok (.aload_n 0, 1) := by decide +kernel
theorem dX8_givesBy_1 : decode cX8_givesBy 1 = .ok (.getfield 274, 3) := by decide +kernel
theorem dX8_givesBy_4 : decode cX8_givesBy 4 = .ok (.iconst 5, 1) := by decide +kernel
theorem dX8_givesBy_5 : decode cX8_givesBy 5 = .ok (.if_icmp .ne 17, 3) := by decide +kernel
theorem dX8_givesBy_8 : decode cX8_givesBy 8 = .ok (.aload_n 0, 1) := by decide +kernel
theorem dX8_givesBy_9 : decode cX8_givesBy 9 = .ok (.bipush 60, 2) := by decide +kernel
theorem dX8_givesBy_11 : decode cX8_givesBy 11 = .ok (.invokevirtual 268, 3) := by decide +kernel
theorem dX8_givesBy_14 : decode cX8_givesBy 14 = .ok (.aload_n 0, 1) := by decide +kernel
theorem dX8_givesBy_15 : decode cX8_givesBy 15 = .ok (.iload_n 1, 1) := by decide +kernel
theorem dX8_givesBy_16 : decode cX8_givesBy 16 = .ok (.iconst 1, 1) := by decide +kernel
theorem dX8_givesBy_17 : decode cX8_givesBy 17 = .ok (.iadd, 1) := by decide +kernel
theorem dX8_givesBy_18 : decode cX8_givesBy 18 = .ok (.invokevirtual 298, 3) := by decide +kernel
theorem dX8_givesBy_21 : decode cX8_givesBy 21 = .ok (.ireturn, 1) := by decide +kernel
theorem dX8_givesBy_22 : decode cX8_givesBy 22 = .ok (.aload_n 0, 1) := by decide +kernel
theorem dX8_givesBy_23 : decode cX8_givesBy 23 = .ok (.getfield 274, 3) := by decide +kernel
theorem dX8_givesBy_26 : decode cX8_givesBy 26 = .ok (.iconst 2, 1) := by decide +kernel
theorem dX8_givesBy_27 : decode cX8_givesBy 27 = .ok (.if_icmp .ne 11, 3) := by decide +kernel
theorem dX8_givesBy_30 : decode cX8_givesBy 30 = .ok (.aload_n 0, 1) := by decide +kernel
theorem dX8_givesBy_31 : decode cX8_givesBy 31 = .ok (.iload_n 1, 1) := by decide +kernel
theorem dX8_givesBy_32 : decode cX8_givesBy 32 = .ok (.invokevirtual 298, 3) := by decide +kernel
theorem dX8_givesBy_35 : decode cX8_givesBy 35 = .ok (.goto 8, 3) := by decide +kernel
theorem dX8_givesBy_38 : decode cX8_givesBy 38 = .ok (.aload_n 0, 1) := by decide +kernel
theorem dX8_givesBy_39 : decode cX8_givesBy 39 = .ok (.iload_n 1, 1) := by decide +kernel
theorem dX8_givesBy_40 : decode cX8_givesBy 40 = .ok (.invokevirtual 292, 3) := by decide +kernel
theorem dX8_givesBy_43 : decode cX8_givesBy 43 = .ok (.ireturn, 1) := by decide +kernel
theorem dX8_plainTells_0 : decode cX8_plainTells 0 = .ok (.aload_n 0, 1) := by decide +kernel
theorem dX8_plainTells_1 : decode cX8_plainTells 1 = .ok (.bipush 13, 2) := by decide +kernel
theorem dX8_plainTells_3 : decode cX8_plainTells 3 = .ok (.invokevirtual 268, 3) := by decide +kernel
theorem dX8_plainTells_6 : decode cX8_plainTells 6 = .ok (.aload_n 0, 1) := by decide +kernel
theorem dX8_plainTells_7 : decode cX8_plainTells 7 = .ok (.iload_n 1, 1) := by decide +kernel
theorem dX8_plainTells_8 : decode cX8_plainTells 8 = .ok (.invokevirtual 301, 3) := by decide +kernel
theorem dX8_plainTells_11 : decode cX8_plainTells 11 = .ok (.istore_n 2, 1) := by decide +kernel
theorem dX8_plainTells_12 : decode cX8_plainTells 12 = .ok (.iload_n 2, 1) := by decide +kernel
theorem dX8_plainTells_13 : decode cX8_plainTells 13 = .ok (.aload_n 0, 1) := by decide +kernel
theorem dX8_plainTells_14 : decode cX8_plainTells 14 = .ok (.iload_n 1, 1) := by decide +kernel
theorem dX8_plainTells_15 : decode cX8_plainTells 15 = .ok (.invokevirtual 295, 3) := by decide +kernel
theorem dX8_plainTells_18 : decode cX8_plainTells 18 = .ok (.ixor, 1) := by decide +kernel
theorem dX8_plainTells_19 : decode cX8_plainTells 19 = .ok (.ireturn, 1) := by decide +kernel
theorem dX8_tellsBy_0 : decode cX8_tellsBy 0 = .ok (.aload_n 0, 1) := by decide +kernel
theorem dX8_tellsBy_1 : decode cX8_tellsBy 1 = .ok (.getfield 274, 3) := by decide +kernel
theorem dX8_tellsBy_4 : decode cX8_tellsBy 4 = .ok (.iconst 4, 1) := by decide +kernel
theorem dX8_tellsBy_5 : decode cX8_tellsBy 5 = .ok (.if_icmp .ne 23, 3) := by decide +kernel
theorem dX8_tellsBy_8 : decode cX8_tellsBy 8 = .ok (.aload_n 0, 1) := by decide +kernel
theorem dX8_tellsBy_9 : decode cX8_tellsBy 9 = .ok (.bipush 50, 2) := by decide +kernel
theorem dX8_tellsBy_11 : decode cX8_tellsBy 11 = .ok (.invokevirtual 268, 3) := by decide +kernel
theorem dX8_tellsBy_14 : decode cX8_tellsBy 14 = .ok (.aload_n 0, 1) := by decide +kernel
theorem dX8_tellsBy_15 : decode cX8_tellsBy 15 = .ok (.iload_n 1, 1) := by decide +kernel
theorem dX8_tellsBy_16 : decode cX8_tellsBy 16 = .ok (.invokevirtual 304, 3) := by decide +kernel
theorem dX8_tellsBy_19 : decode cX8_tellsBy 19 = .ok (.istore_n 2, 1) := by decide +kernel
theorem dX8_tellsBy_20 : decode cX8_tellsBy 20 = .ok (.iload_n 2, 1) := by decide +kernel
theorem dX8_tellsBy_21 : decode cX8_tellsBy 21 = .ok (.aload_n 0, 1) := by decide +kernel
theorem dX8_tellsBy_22 : decode cX8_tellsBy 22 = .ok (.iconst 2, 1) := by decide +kernel
theorem dX8_tellsBy_23 : decode cX8_tellsBy 23 = .ok (.invokevirtual 289, 3) := by decide +kernel
theorem dX8_tellsBy_26 : decode cX8_tellsBy 26 = .ok (.isub, 1) := by decide +kernel
theorem dX8_tellsBy_27 : decode cX8_tellsBy 27 = .ok (.ireturn, 1) := by decide +kernel
theorem dX8_tellsBy_28 : decode cX8_tellsBy 28 = .ok (.aload_n 0, 1) := by decide +kernel
theorem dX8_tellsBy_29 : decode cX8_tellsBy 29 = .ok (.getfield 274, 3) := by decide +kernel
theorem dX8_tellsBy_32 : decode cX8_tellsBy 32 = .ok (.bipush 6, 2) := by decide +kernel
theorem dX8_tellsBy_34 : decode cX8_tellsBy 34 = .ok (.if_icmp .ne 23, 3) := by decide +kernel
theorem dX8_tellsBy_37 : decode cX8_tellsBy 37 = .ok (.aload_n 0, 1) := by decide +kernel
theorem dX8_tellsBy_38 : decode cX8_tellsBy 38 = .ok (.bipush 71, 2) := by decide +kernel
theorem dX8_tellsBy_40 : decode cX8_tellsBy 40 = .ok (.invokevirtual 268, 3) := by decide +kernel
theorem dX8_tellsBy_43 : decode cX8_tellsBy 43 = .ok (.aload_n 0, 1) := by decide +kernel
theorem dX8_tellsBy_44 : decode cX8_tellsBy 44 = .ok (.iload_n 1, 1) := by decide +kernel
theorem dX8_tellsBy_45 : decode cX8_tellsBy 45 = .ok (.invokevirtual 301, 3) := by decide +kernel
theorem dX8_tellsBy_48 : decode cX8_tellsBy 48 = .ok (.istore_n 2, 1) := by decide +kernel
theorem dX8_tellsBy_49 : decode cX8_tellsBy 49 = .ok (.iload_n 2, 1) := by decide +kernel
theorem dX8_tellsBy_50 : decode cX8_tellsBy 50 = .ok (.aload_n 0, 1) := by decide +kernel
theorem dX8_tellsBy_51 : decode cX8_tellsBy 51 = .ok (.iload_n 1, 1) := by decide +kernel
theorem dX8_tellsBy_52 : decode cX8_tellsBy 52 = .ok (.invokevirtual 304, 3) := by decide +kernel
theorem dX8_tellsBy_55 : decode cX8_tellsBy 55 = .ok (.isub, 1) := by decide +kernel
theorem dX8_tellsBy_56 : decode cX8_tellsBy 56 = .ok (.ireturn, 1) := by decide +kernel
theorem dX8_tellsBy_57 : decode cX8_tellsBy 57 = .ok (.aload_n 0, 1) := by decide +kernel
theorem dX8_tellsBy_58 : decode cX8_tellsBy 58 = .ok (.iload_n 1, 1) := by decide +kernel
theorem dX8_tellsBy_59 : decode cX8_tellsBy 59 = .ok (.invokevirtual 304, 3) := by decide +kernel
theorem dX8_tellsBy_62 : decode cX8_tellsBy 62 = .ok (.ireturn, 1) := by decide +kernel
theorem dX8_voice_0 : decode cX8_voice 0 = .ok (.aload_n 0, 1) := by decide +kernel
theorem dX8_voice_1 : decode cX8_voice 1 = .ok (.iload_n 1, 1) := by decide +kernel
theorem dX8_voice_2 : decode cX8_voice 2 = .ok (.invokevirtual 103, 3) := by decide +kernel
theorem dX8_voice_5 : decode cX8_voice 5 = .ok (.ifCond .eq 15, 3) := by decide +kernel
theorem dX8_voice_8 : decode cX8_voice 8 = .ok (.iload_n 2, 1) := by decide +kernel
theorem dX8_voice_9 : decode cX8_voice 9 = .ok (.i2l, 1) := by decide +kernel
theorem dX8_voice_10 : decode cX8_voice 10 = .ok (.lconst 0, 1) := by decide +kernel
theorem dX8_voice_11 : decode cX8_voice 11 = .ok (.ldc2_w 307, 3) := by decide +kernel
theorem dX8_voice_14 : decode cX8_voice 14 = .ok (.invokestatic 46, 3) := by decide +kernel
theorem dX8_voice_17 : decode cX8_voice 17 = .ok (.ifCond .ne 10, 3) := by decide +kernel
theorem dX8_voice_20 : decode cX8_voice 20 = .ok (.aload_n 0, 1) := by decide +kernel
theorem dX8_voice_21 : decode cX8_voice 21 = .ok (.ldc 67, 2) := by decide +kernel
theorem dX8_voice_23 : decode cX8_voice 23 = .ok (.invokevirtual 68, 3) := by decide +kernel
theorem dX8_voice_26 : decode cX8_voice 26 = .ok (.ireturn, 1) := by decide +kernel
theorem dX8_voice_27 : decode cX8_voice 27 = .ok (.aload_n 0, 1) := by decide +kernel
theorem dX8_voice_28 : decode cX8_voice 28 = .ok (.iconst 0, 1) := by decide +kernel
theorem dX8_voice_29 : decode cX8_voice 29 = .ok (.putfield 265, 3) := by decide +kernel
theorem dX8_voice_32 : decode cX8_voice 32 = .ok (.aload_n 0, 1) := by decide +kernel
theorem dX8_voice_33 : decode cX8_voice 33 = .ok (.aload_n 0, 1) := by decide +kernel
theorem dX8_voice_34 : decode cX8_voice 34 = .ok (.iload_n 1, 1) := by decide +kernel
theorem dX8_voice_35 : decode cX8_voice 35 = .ok (.iconst 0, 1) := by decide +kernel
theorem dX8_voice_36 : decode cX8_voice 36 = .ok (.invokevirtual 79, 3) := by decide +kernel
theorem dX8_voice_39 : decode cX8_voice 39 = .ok (.putfield 274, 3) := by decide +kernel
theorem dX8_voice_42 : decode cX8_voice 42 = .ok (.aload_n 0, 1) := by decide +kernel
theorem dX8_voice_43 : decode cX8_voice 43 = .ok (.iload_n 1, 1) := by decide +kernel
theorem dX8_voice_44 : decode cX8_voice 44 = .ok (.putfield 271, 3) := by decide +kernel
theorem dX8_voice_47 : decode cX8_voice 47 = .ok (.aload_n 0, 1) := by decide +kernel
theorem dX8_voice_48 : decode cX8_voice 48 = .ok (.aload_n 0, 1) := by decide +kernel
theorem dX8_voice_49 : decode cX8_voice 49 = .ok (.iload_n 1, 1) := by decide +kernel
theorem dX8_voice_50 : decode cX8_voice 50 = .ok (.iconst 1, 1) := by decide +kernel
theorem dX8_voice_51 : decode cX8_voice 51 = .ok (.invokevirtual 79, 3) := by decide +kernel
theorem dX8_voice_54 : decode cX8_voice 54 = .ok (.putfield 280, 3) := by decide +kernel
theorem dX8_voice_57 : decode cX8_voice 57 = .ok (.iload_n 2, 1) := by decide +kernel
theorem dX8_voice_58 : decode cX8_voice 58 = .ok (.ifCond .ne 11, 3) := by decide +kernel
theorem dX8_voice_61 : decode cX8_voice 61 = .ok (.aload_n 0, 1) := by decide +kernel
theorem dX8_voice_62 : decode cX8_voice 62 = .ok (.iload_n 3, 1) := by decide +kernel
theorem dX8_voice_63 : decode cX8_voice 63 = .ok (.invokevirtual 289, 3) := by decide +kernel
theorem dX8_voice_66 : decode cX8_voice 66 = .ok (.goto 34, 3) := by decide +kernel
theorem dX8_voice_69 : decode cX8_voice 69 = .ok (.iload_n 2, 1) := by decide +kernel
theorem dX8_voice_70 : decode cX8_voice 70 = .ok (.iconst 1, 1) := by decide +kernel
theorem dX8_voice_71 : decode cX8_voice 71 = .ok (.if_icmp .ne 11, 3) := by decide +kernel
theorem dX8_voice_74 : decode cX8_voice 74 = .ok (.aload_n 0, 1) := by decide +kernel
theorem dX8_voice_75 : decode cX8_voice 75 = .ok (.iload_n 3, 1) := by decide +kernel
theorem dX8_voice_76 : decode cX8_voice 76 = .ok (.invokevirtual 301, 3) := by decide +kernel
theorem dX8_voice_79 : decode cX8_voice 79 = .ok (.goto 21, 3) := by decide +kernel
theorem dX8_voice_82 : decode cX8_voice 82 = .ok (.iload_n 2, 1) := by decide +kernel
theorem dX8_voice_83 : decode cX8_voice 83 = .ok (.iconst 2, 1) := by decide +kernel
theorem dX8_voice_84 : decode cX8_voice 84 = .ok (.if_icmp .ne 11, 3) := by decide +kernel
theorem dX8_voice_87 : decode cX8_voice 87 = .ok (.aload_n 0, 1) := by decide +kernel
theorem dX8_voice_88 : decode cX8_voice 88 = .ok (.iload_n 3, 1) := by decide +kernel
theorem dX8_voice_89 : decode cX8_voice 89 = .ok (.invokevirtual 295, 3) := by decide +kernel
theorem dX8_voice_92 : decode cX8_voice 92 = .ok (.goto 8, 3) := by decide +kernel
theorem dX8_voice_95 : decode cX8_voice 95 = .ok (.aload_n 0, 1) := by decide +kernel
theorem dX8_voice_96 : decode cX8_voice 96 = .ok (.iload_n 3, 1) := by decide +kernel
theorem dX8_voice_97 : decode cX8_voice 97 = .ok (.invokevirtual 309, 3) := by decide +kernel
theorem dX8_voice_100 : decode cX8_voice 100 = .ok (.ireturn, 1) := by decide +kernel
theorem dX8_trace_0 : decode cX8_trace 0 = .ok (.iload_n 1, 1) := by decide +kernel
theorem dX8_trace_1 : decode cX8_trace 1 = .ok (.i2l, 1) := by decide +kernel
theorem dX8_trace_2 : decode cX8_trace 2 = .ok (.lconst 0, 1) := by decide +kernel
theorem dX8_trace_3 : decode cX8_trace 3 = .ok (.aload_n 0, 1) := by decide +kernel
theorem dX8_trace_4 : decode cX8_trace 4 = .ok (.getfield 265, 3) := by decide +kernel
theorem dX8_trace_7 : decode cX8_trace 7 = .ok (.iconst 1, 1) := by decide +kernel
theorem dX8_trace_8 : decode cX8_trace 8 = .ok (.isub, 1) := by decide +kernel
theorem dX8_trace_9 : decode cX8_trace 9 = .ok (.i2l, 1) := by decide +kernel
theorem dX8_trace_10 : decode cX8_trace 10 = .ok (.invokestatic 46, 3) := by decide +kernel
theorem dX8_trace_13 : decode cX8_trace 13 = .ok (.ifCond .eq 12, 3) := by decide +kernel
theorem dX8_trace_16 : decode cX8_trace 16 = .ok (.aload_n 0, 1) := by decide +kernel
theorem dX8_trace_17 : decode cX8_trace 17 = .ok (.getfield 28, 3) := by decide +kernel
theorem dX8_trace_20 : decode cX8_trace 20 = .ok (.iload_n 1, 1) := by decide +kernel
theorem dX8_trace_21 : decode cX8_trace 21 = .ok (.iaload, 1) := by decide +kernel
theorem dX8_trace_22 : decode cX8_trace 22 = .ok (.goto 9, 3) := by decide +kernel
theorem dX8_trace_25 : decode cX8_trace 25 = .ok (.aload_n 0, 1) := by decide +kernel
theorem dX8_trace_26 : decode cX8_trace 26 = .ok (.ldc 249, 2) := by decide +kernel
theorem dX8_trace_28 : decode cX8_trace 28 = .ok (.invokevirtual 68, 3) := by decide +kernel
theorem dX8_trace_31 : decode cX8_trace 31 = .ok (.ireturn, 1) := by decide +kernel
theorem dX8_isSheet_0 : decode cX8_isSheet 0 = .ok (.iload_n 0, 1) := by decide +kernel
theorem dX8_isSheet_1 : decode cX8_isSheet 1 = .ok (.i2l, 1) := by decide +kernel
theorem dX8_isSheet_2 : decode cX8_isSheet 2 = .ok (.lconst 0, 1) := by decide +kernel
theorem dX8_isSheet_3 : decode cX8_isSheet 3 = .ok (.ldc2_w 307, 3) := by decide +kernel
theorem dX8_isSheet_6 : decode cX8_isSheet 6 = .ok (.invokestatic 46, 3) := by decide +kernel
theorem dX8_isSheet_9 : decode cX8_isSheet 9 = .ok (.ireturn, 1) := by decide +kernel
theorem dX8_sheet_0 : decode cX8_sheet 0 = .ok (.iload_n 1, 1) := by decide +kernel
theorem dX8_sheet_1 : decode cX8_sheet 1 = .ok (.invokestatic 257, 3) := by decide +kernel
theorem dX8_sheet_4 : decode cX8_sheet 4 = .ok (.ifCond .eq 25, 3) := by decide +kernel
theorem dX8_sheet_7 : decode cX8_sheet 7 = .ok (.iload_n 2, 1) := by decide +kernel
theorem dX8_sheet_8 : decode cX8_sheet 8 = .ok (.ifCond .eq 28, 3) := by decide +kernel
theorem dX8_sheet_11 : decode cX8_sheet 11 = .ok (.iload_n 2, 1) := by decide +kernel
theorem dX8_sheet_12 : decode cX8_sheet 12 = .ok (.bipush 8, 2) := by decide +kernel
theorem dX8_sheet_14 : decode cX8_sheet 14 = .ok (.if_icmp .eq 22, 3) := by decide +kernel
theorem dX8_sheet_17 : decode cX8_sheet 17 = .ok (.iload_n 2, 1) := by decide +kernel
theorem dX8_sheet_18 : decode cX8_sheet 18 = .ok (.bipush 16, 2) := by decide +kernel
theorem dX8_sheet_20 : decode cX8_sheet 20 = .ok (.if_icmp .eq 16, 3) := by decide +kernel
theorem dX8_sheet_23 : decode cX8_sheet 23 = .ok (.iload_n 2, 1) := by decide +kernel
theorem dX8_sheet_24 : decode cX8_sheet 24 = .ok (.bipush 32, 2) := by decide +kernel
theorem dX8_sheet_26 : decode cX8_sheet 26 = .ok (.if_icmp .eq 10, 3) := by decide +kernel
theorem dX8_sheet_29 : decode cX8_sheet 29 = .ok (.aload_n 0, 1) := by decide +kernel
theorem dX8_sheet_30 : decode cX8_sheet 30 = .ok (.ldc 67, 2) := by decide +kernel
theorem dX8_sheet_32 : decode cX8_sheet 32 = .ok (.invokevirtual 68, 3) := by decide +kernel
theorem dX8_sheet_35 : decode cX8_sheet 35 = .ok (.ireturn, 1) := by decide +kernel
theorem dX8_sheet_36 : decode cX8_sheet 36 = .ok (.iload_n 2, 1) := by decide +kernel
theorem dX8_sheet_37 : decode cX8_sheet 37 = .ok (.ifCond .eq 14, 3) := by decide +kernel
theorem dX8_sheet_40 : decode cX8_sheet 40 = .ok (.iload_n 3, 1) := by decide +kernel
theorem dX8_sheet_41 : decode cX8_sheet 41 = .ok (.ifCond .ge 10, 3) := by decide +kernel
theorem dX8_sheet_44 : decode cX8_sheet 44 = .ok (.aload_n 0, 1) := by decide +kernel
theorem dX8_sheet_45 : decode cX8_sheet 45 = .ok (.ldc 199, 2) := by decide +kernel
theorem dX8_sheet_47 : decode cX8_sheet 47 = .ok (.invokevirtual 68, 3) := by decide +kernel
theorem dX8_sheet_50 : decode cX8_sheet 50 = .ok (.ireturn, 1) := by decide +kernel
theorem dX8_sheet_51 : decode cX8_sheet 51 = .ok (.iload_n 2, 1) := by decide +kernel
theorem dX8_sheet_52 : decode cX8_sheet 52 = .ok (.ifCond .eq 16, 3) := by decide +kernel
theorem dX8_sheet_55 : decode cX8_sheet 55 = .ok (.iload_n 3, 1) := by decide +kernel
theorem dX8_sheet_56 : decode cX8_sheet 56 = .ok (.bipush 40, 2) := by decide +kernel
theorem dX8_sheet_58 : decode cX8_sheet 58 = .ok (.if_icmp .le 10, 3) := by decide +kernel
theorem dX8_sheet_61 : decode cX8_sheet 61 = .ok (.aload_n 0, 1) := by decide +kernel
theorem dX8_sheet_62 : decode cX8_sheet 62 = .ok (.ldc 67, 2) := by decide +kernel
theorem dX8_sheet_64 : decode cX8_sheet 64 = .ok (.invokevirtual 68, 3) := by decide +kernel
theorem dX8_sheet_67 : decode cX8_sheet 67 = .ok (.ireturn, 1) := by decide +kernel
theorem dX8_sheet_68 : decode cX8_sheet 68 = .ok (.aload_n 0, 1) := by decide +kernel
theorem dX8_sheet_69 : decode cX8_sheet 69 = .ok (.getfield 31, 3) := by decide +kernel
theorem dX8_sheet_72 : decode cX8_sheet 72 = .ok (.iload_n 1, 1) := by decide +kernel
theorem dX8_sheet_73 : decode cX8_sheet 73 = .ok (.iload_n 2, 1) := by decide +kernel
theorem dX8_sheet_74 : decode cX8_sheet 74 = .ok (.iastore, 1) := by decide +kernel
theorem dX8_sheet_75 : decode cX8_sheet 75 = .ok (.aload_n 0, 1) := by decide +kernel
theorem dX8_sheet_76 : decode cX8_sheet 76 = .ok (.getfield 34, 3) := by decide +kernel
theorem dX8_sheet_79 : decode cX8_sheet 79 = .ok (.iload_n 1, 1) := by decide +kernel
theorem dX8_sheet_80 : decode cX8_sheet 80 = .ok (.iload_n 2, 1) := by decide +kernel
theorem dX8_sheet_81 : decode cX8_sheet 81 = .ok (.ifCond .ne 7, 3) := by decide +kernel
theorem dX8_sheet_84 : decode cX8_sheet 84 = .ok (.iconst 0, 1) := by decide +kernel
theorem dX8_sheet_85 : decode cX8_sheet 85 = .ok (.goto 4, 3) := by decide +kernel
theorem dX8_sheet_88 : decode cX8_sheet 88 = .ok (.iload_n 3, 1) := by decide +kernel
theorem dX8_sheet_89 : decode cX8_sheet 89 = .ok (.iastore, 1) := by decide +kernel
theorem dX8_sheet_90 : decode cX8_sheet 90 = .ok (.iconst 0, 1) := by decide +kernel
theorem dX8_sheet_91 : decode cX8_sheet 91 = .ok (.istore 4, 2) := by decide +kernel
theorem dX8_sheet_93 : decode cX8_sheet 93 = .ok (.iload 4, 2) := by decide +kernel
theorem dX8_sheet_95 : decode cX8_sheet 95 = .ok (.bipush 40, 2) := by decide +kernel
theorem dX8_sheet_97 : decode cX8_sheet 97 = .ok (.if_icmp .ge 22, 3) := by decide +kernel
theorem dX8_sheet_100 : decode cX8_sheet 100 = .ok (.aload_n 0, 1) := by decide +kernel
theorem dX8_sheet_101 : decode cX8_sheet 101 = .ok (.getfield 37, 3) := by decide +kernel
theorem dX8_sheet_104 : decode cX8_sheet 104 = .ok (.bipush 40, 2) := by decide +kernel
theorem dX8_sheet_106 : decode cX8_sheet 106 = .ok (.iload_n 1, 1) := by decide +kernel
theorem dX8_sheet_107 : decode cX8_sheet 107 = .ok (.imul, 1) := by decide +kernel
theorem dX8_sheet_108 : decode cX8_sheet 108 = .ok (.iload 4, 2) := by decide +kernel
theorem dX8_sheet_110 : decode cX8_sheet 110 = .ok (.iadd, 1) := by decide +kernel
theorem dX8_sheet_111 : decode cX8_sheet 111 = .ok (.iconst 0, 1) := by decide +kernel
theorem dX8_sheet_112 : decode cX8_sheet 112 = .ok (.iastore, 1) := by decide +kernel
theorem dX8_sheet_113 : decode cX8_sheet 113 = .ok (.iinc 4 1, 3) := by decide +kernel
theorem dX8_sheet_116 : decode cX8_sheet 116 = .ok (.goto (-23), 3) := by decide +kernel
theorem dX8_sheet_119 : decode cX8_sheet 119 = .ok (.iconst 1, 1) := by decide +kernel
theorem dX8_sheet_120 : decode cX8_sheet 120 = .ok (.ireturn, 1) := by decide +kernel
theorem dX8_wrong_0 : decode cX8_wrong 0 = .ok (.iload_n 1, 1) := by decide +kernel
theorem dX8_wrong_1 : decode cX8_wrong 1 = .ok (.invokestatic 257, 3) := by decide +kernel
theorem dX8_wrong_4 : decode cX8_wrong 4 = .ok (.ifCond .ne 8, 3) := by decide +kernel
theorem dX8_wrong_7 : decode cX8_wrong 7 = .ok (.ldc 67, 2) := by decide +kernel
theorem dX8_wrong_9 : decode cX8_wrong 9 = .ok (.goto 18, 3) := by decide +kernel
theorem dX8_wrong_12 : decode cX8_wrong 12 = .ok (.aload_n 0, 1) := by decide +kernel
theorem dX8_wrong_13 : decode cX8_wrong 13 = .ok (.getfield 31, 3) := by decide +kernel
theorem dX8_wrong_16 : decode cX8_wrong 16 = .ok (.iload_n 1, 1) := by decide +kernel
theorem dX8_wrong_17 : decode cX8_wrong 17 = .ok (.iaload, 1) := by decide +kernel
theorem dX8_wrong_18 : decode cX8_wrong 18 = .ok (.ifCond .ne 8, 3) := by decide +kernel
theorem dX8_wrong_21 : decode cX8_wrong 21 = .ok (.ldc 249, 2) := by decide +kernel
theorem dX8_wrong_23 : decode cX8_wrong 23 = .ok (.goto 4, 3) := by decide +kernel
theorem dX8_wrong_26 : decode cX8_wrong 26 = .ok (.iconst 0, 1) := by decide +kernel
theorem dX8_wrong_27 : decode cX8_wrong 27 = .ok (.ireturn, 1) := by decide +kernel
theorem dX8_put_0 : decode cX8_put 0 = .ok (.aload_n 0, 1) := by decide +kernel
theorem dX8_put_1 : decode cX8_put 1 = .ok (.iload_n 1, 1) := by decide +kernel
theorem dX8_put_2 : decode cX8_put 2 = .ok (.invokevirtual 312, 3) := by decide +kernel
theorem dX8_put_5 : decode cX8_put 5 = .ok (.istore 4, 2) := by decide +kernel
theorem dX8_put_7 : decode cX8_put 7 = .ok (.iload 4, 2) := by decide +kernel
theorem dX8_put_9 : decode cX8_put 9 = .ok (.ifCond .ne 26, 3) := by decide +kernel
theorem dX8_put_12 : decode cX8_put 12 = .ok (.iload_n 2, 1) := by decide +kernel
theorem dX8_put_13 : decode cX8_put 13 = .ok (.i2l, 1) := by decide +kernel
theorem dX8_put_14 : decode cX8_put 14 = .ok (.lconst 0, 1) := by decide +kernel
theorem dX8_put_15 : decode cX8_put 15 = .ok (.aload_n 0, 1) := by decide +kernel
theorem dX8_put_16 : decode cX8_put 16 = .ok (.getfield 34, 3) := by decide +kernel
theorem dX8_put_19 : decode cX8_put 19 = .ok (.iload_n 1, 1) := by decide +kernel
theorem dX8_put_20 : decode cX8_put 20 = .ok (.iaload, 1) := by decide +kernel
theorem dX8_put_21 : decode cX8_put 21 = .ok (.iconst 1, 1) := by decide +kernel
theorem dX8_put_22 : decode cX8_put 22 = .ok (.isub, 1) := by decide +kernel
theorem dX8_put_23 : decode cX8_put 23 = .ok (.i2l, 1) := by decide +kernel
theorem dX8_put_24 : decode cX8_put 24 = .ok (.invokestatic 46, 3) := by decide +kernel
theorem dX8_put_27 : decode cX8_put 27 = .ok (.ifCond .ne 8, 3) := by decide +kernel
theorem dX8_put_30 : decode cX8_put 30 = .ok (.ldc 67, 2) := by decide +kernel
theorem dX8_put_32 : decode cX8_put 32 = .ok (.goto 5, 3) := by decide +kernel
theorem dX8_put_35 : decode cX8_put 35 = .ok (.iload 4, 2) := by decide +kernel
theorem dX8_put_37 : decode cX8_put 37 = .ok (.istore 4, 2) := by decide +kernel
theorem dX8_put_39 : decode cX8_put 39 = .ok (.iload 4, 2) := by decide +kernel
theorem dX8_put_41 : decode cX8_put 41 = .ok (.ifCond .eq 10, 3) := by decide +kernel
theorem dX8_put_44 : decode cX8_put 44 = .ok (.aload_n 0, 1) := by decide +kernel
theorem dX8_put_45 : decode cX8_put 45 = .ok (.iload 4, 2) := by decide +kernel
theorem dX8_put_47 : decode cX8_put 47 = .ok (.invokevirtual 68, 3) := by decide +kernel
theorem dX8_put_50 : decode cX8_put 50 = .ok (.ireturn, 1) := by decide +kernel
theorem dX8_put_51 : decode cX8_put 51 = .ok (.aload_n 0, 1) := by decide +kernel
theorem dX8_put_52 : decode cX8_put 52 = .ok (.getfield 37, 3) := by decide +kernel
theorem dX8_put_55 : decode cX8_put 55 = .ok (.bipush 40, 2) := by decide +kernel
theorem dX8_put_57 : decode cX8_put 57 = .ok (.iload_n 1, 1) := by decide +kernel
theorem dX8_put_58 : decode cX8_put 58 = .ok (.imul, 1) := by decide +kernel
theorem dX8_put_59 : decode cX8_put 59 = .ok (.iload_n 2, 1) := by decide +kernel
theorem dX8_put_60 : decode cX8_put 60 = .ok (.iadd, 1) := by decide +kernel
theorem dX8_put_61 : decode cX8_put 61 = .ok (.aload_n 0, 1) := by decide +kernel
theorem dX8_put_62 : decode cX8_put 62 = .ok (.getfield 31, 3) := by decide +kernel
theorem dX8_put_65 : decode cX8_put 65 = .ok (.iload_n 1, 1) := by decide +kernel
theorem dX8_put_66 : decode cX8_put 66 = .ok (.iaload, 1) := by decide +kernel
theorem dX8_put_67 : decode cX8_put 67 = .ok (.bipush 8, 2) := by decide +kernel
theorem dX8_put_69 : decode cX8_put 69 = .ok (.if_icmp .ne 8, 3) := by decide +kernel
theorem dX8_put_72 : decode cX8_put 72 = .ok (.iload_n 3, 1) := by decide +kernel
theorem dX8_put_73 : decode cX8_put 73 = .ok (.i2b, 1) := by decide +kernel
theorem dX8_put_74 : decode cX8_put 74 = .ok (.goto 20, 3) := by decide +kernel
theorem dX8_put_77 : decode cX8_put 77 = .ok (.aload_n 0, 1) := by decide +kernel
theorem dX8_put_78 : decode cX8_put 78 = .ok (.getfield 31, 3) := by decide +kernel
theorem dX8_put_81 : decode cX8_put 81 = .ok (.iload_n 1, 1) := by decide +kernel
theorem dX8_put_82 : decode cX8_put 82 = .ok (.iaload, 1) := by decide +kernel
theorem dX8_put_83 : decode cX8_put 83 = .ok (.bipush 16, 2) := by decide +kernel
theorem dX8_put_85 : decode cX8_put 85 = .ok (.if_icmp .ne 8, 3) := by decide +kernel
theorem dX8_put_88 : decode cX8_put 88 = .ok (.iload_n 3, 1) := by decide +kernel
theorem dX8_put_89 : decode cX8_put 89 = .ok (.i2s, 1) := by decide +kernel
theorem dX8_put_90 : decode cX8_put 90 = .ok (.goto 4, 3) := by decide +kernel
theorem dX8_put_93 : decode cX8_put 93 = .ok (.iload_n 3, 1) := by decide +kernel
theorem dX8_put_94 : decode cX8_put 94 = .ok (.iastore, 1) := by decide +kernel
theorem dX8_put_95 : decode cX8_put 95 = .ok (.iconst 1, 1) := by decide +kernel
theorem dX8_put_96 : decode cX8_put 96 = .ok (.ireturn, 1) := by decide +kernel
theorem dX8_move_0 : decode cX8_move 0 = .ok (.iload_n 1, 1) := by decide +kernel
theorem dX8_move_1 : decode cX8_move 1 = .ok (.invokestatic 257, 3) := by decide +kernel
theorem dX8_move_4 : decode cX8_move 4 = .ok (.ifCond .eq 10, 3) := by decide +kernel
theorem dX8_move_7 : decode cX8_move 7 = .ok (.iload_n 3, 1) := by decide +kernel
theorem dX8_move_8 : decode cX8_move 8 = .ok (.invokestatic 257, 3) := by decide +kernel
theorem dX8_move_11 : decode cX8_move 11 = .ok (.ifCond .ne 10, 3) := by decide +kernel
theorem dX8_move_14 : decode cX8_move 14 = .ok (.aload_n 0, 1) := by decide +kernel
theorem dX8_move_15 : decode cX8_move 15 = .ok (.ldc 67, 2) := by decide +kernel
theorem dX8_move_17 : decode cX8_move 17 = .ok (.invokevirtual 68, 3) := by decide +kernel
theorem dX8_move_20 : decode cX8_move 20 = .ok (.ireturn, 1) := by decide +kernel
theorem dX8_move_21 : decode cX8_move 21 = .ok (.aload_n 0, 1) := by decide +kernel
theorem dX8_move_22 : decode cX8_move 22 = .ok (.getfield 31, 3) := by decide +kernel
theorem dX8_move_25 : decode cX8_move 25 = .ok (.iload_n 1, 1) := by decide +kernel
theorem dX8_move_26 : decode cX8_move 26 = .ok (.iaload, 1) := by decide +kernel
theorem dX8_move_27 : decode cX8_move 27 = .ok (.ifCond .eq 12, 3) := by decide +kernel
theorem dX8_move_30 : decode cX8_move 30 = .ok (.aload_n 0, 1) := by decide +kernel
theorem dX8_move_31 : decode cX8_move 31 = .ok (.getfield 31, 3) := by decide +kernel
theorem dX8_move_34 : decode cX8_move 34 = .ok (.iload_n 3, 1) := by decide +kernel
theorem dX8_move_35 : decode cX8_move 35 = .ok (.iaload, 1) := by decide +kernel
theorem dX8_move_36 : decode cX8_move 36 = .ok (.ifCond .ne 10, 3) := by decide +kernel
theorem dX8_move_39 : decode cX8_move 39 = .ok (.aload_n 0, 1) := by decide +kernel
theorem dX8_move_40 : decode cX8_move 40 = .ok (.ldc 249, 2) := by decide +kernel
theorem dX8_move_42 : decode cX8_move 42 = .ok (.invokevirtual 68, 3) := by decide +kernel
theorem dX8_move_45 : decode cX8_move 45 = .ok (.ireturn, 1) := by decide +kernel
theorem dX8_move_46 : decode cX8_move 46 = .ok (.aload_n 0, 1) := by decide +kernel
theorem dX8_move_47 : decode cX8_move 47 = .ok (.getfield 31, 3) := by decide +kernel
theorem dX8_move_50 : decode cX8_move 50 = .ok (.iload_n 1, 1) := by decide +kernel
theorem dX8_move_51 : decode cX8_move 51 = .ok (.iaload, 1) := by decide +kernel
theorem dX8_move_52 : decode cX8_move 52 = .ok (.aload_n 0, 1) := by decide +kernel
theorem dX8_move_53 : decode cX8_move 53 = .ok (.getfield 31, 3) := by decide +kernel
theorem dX8_move_56 : decode cX8_move 56 = .ok (.iload_n 3, 1) := by decide +kernel
theorem dX8_move_57 : decode cX8_move 57 = .ok (.iaload, 1) := by decide +kernel
theorem dX8_move_58 : decode cX8_move 58 = .ok (.if_icmp .eq 10, 3) := by decide +kernel
theorem dX8_move_61 : decode cX8_move 61 = .ok (.aload_n 0, 1) := by decide +kernel
theorem dX8_move_62 : decode cX8_move 62 = .ok (.ldc 120, 2) := by decide +kernel
theorem dX8_move_64 : decode cX8_move 64 = .ok (.invokevirtual 68, 3) := by decide +kernel
theorem dX8_move_67 : decode cX8_move 67 = .ok (.ireturn, 1) := by decide +kernel
theorem dX8_move_68 : decode cX8_move 68 = .ok (.iload_n 2, 1) := by decide +kernel
theorem dX8_move_69 : decode cX8_move 69 = .ok (.ifCond .lt 40, 3) := by decide +kernel
theorem dX8_move_72 : decode cX8_move 72 = .ok (.iload 4, 2) := by decide +kernel
theorem dX8_move_74 : decode cX8_move 74 = .ok (.ifCond .lt 35, 3) := by decide +kernel
theorem dX8_move_77 : decode cX8_move 77 = .ok (.iload 5, 2) := by decide +kernel
theorem dX8_move_79 : decode cX8_move 79 = .ok (.ifCond .lt 30, 3) := by decide +kernel
theorem dX8_move_82 : decode cX8_move 82 = .ok (.iload 5, 2) := by decide +kernel
theorem dX8_move_84 : decode cX8_move 84 = .ok (.aload_n 0, 1) := by decide +kernel
theorem dX8_move_85 : decode cX8_move 85 = .ok (.getfield 34, 3) := by decide +kernel
theorem dX8_move_88 : decode cX8_move 88 = .ok (.iload_n 1, 1) := by decide +kernel
theorem dX8_move_89 : decode cX8_move 89 = .ok (.iaload, 1) := by decide +kernel
theorem dX8_move_90 : decode cX8_move 90 = .ok (.iload_n 2, 1) := by decide +kernel
theorem dX8_move_91 : decode cX8_move 91 = .ok (.isub, 1) := by decide +kernel
theorem dX8_move_92 : decode cX8_move 92 = .ok (.if_icmp .gt 17, 3) := by decide +kernel
theorem dX8_move_95 : decode cX8_move 95 = .ok (.iload 5, 2) := by decide +kernel
theorem dX8_move_97 : decode cX8_move 97 = .ok (.aload_n 0, 1) := by decide +kernel
theorem dX8_move_98 : decode cX8_move 98 = .ok (.getfield 34, 3) := by decide +kernel
theorem dX8_move_101 : decode cX8_move 101 = .ok (.iload_n 3, 1) := by decide +kernel
theorem dX8_move_102 : decode cX8_move 102 = .ok (.iaload, 1) := by decide +kernel
theorem dX8_move_103 : decode cX8_move 103 = .ok (.iload 4, 2) := by decide +kernel
theorem dX8_move_105 : decode cX8_move 105 = .ok (.isub, 1) := by decide +kernel
theorem dX8_move_106 : decode cX8_move 106 = .ok (.if_icmp .le 10, 3) := by decide +kernel
theorem dX8_move_109 : decode cX8_move 109 = .ok (.aload_n 0, 1) := by decide +kernel
theorem dX8_move_110 : decode cX8_move 110 = .ok (.ldc 67, 2) := by decide +kernel
theorem dX8_move_112 : decode cX8_move 112 = .ok (.invokevirtual 68, 3) := by decide +kernel
theorem dX8_move_115 : decode cX8_move 115 = .ok (.ireturn, 1) := by decide +kernel
theorem dX8_move_116 : decode cX8_move 116 = .ok (.iconst 0, 1) := by decide +kernel
theorem dX8_move_117 : decode cX8_move 117 = .ok (.istore 6, 2) := by decide +kernel
theorem dX8_move_119 : decode cX8_move 119 = .ok (.iload 6, 2) := by decide +kernel
theorem dX8_move_121 : decode cX8_move 121 = .ok (.iload 5, 2) := by decide +kernel
theorem dX8_move_123 : decode cX8_move 123 = .ok (.if_icmp .ge 30, 3) := by decide +kernel
theorem dX8_move_126 : decode cX8_move 126 = .ok (.aload_n 0, 1) := by decide +kernel
theorem dX8_move_127 : decode cX8_move 127 = .ok (.getfield 40, 3) := by decide +kernel
theorem dX8_move_130 : decode cX8_move 130 = .ok (.iload 6, 2) := by decide +kernel
theorem dX8_move_132 : decode cX8_move 132 = .ok (.aload_n 0, 1) := by decide +kernel
theorem dX8_move_133 : decode cX8_move 133 = .ok (.getfield 37, 3) := by decide +kernel
theorem dX8_move_136 : decode cX8_move 136 = .ok (.bipush 40, 2) := by decide +kernel
theorem dX8_move_138 : decode cX8_move 138 = .ok (.iload_n 1, 1) := by decide +kernel
theorem dX8_move_139 : decode cX8_move 139 = .ok (.imul, 1) := by decide +kernel
theorem dX8_move_140 : decode cX8_move 140 = .ok (.iload_n 2, 1) := by decide +kernel
theorem dX8_move_141 : decode cX8_move 141 = .ok (.iadd, 1) := by decide +kernel
theorem dX8_move_142 : decode cX8_move 142 = .ok (.iload 6, 2) := by decide +kernel
theorem dX8_move_144 : decode cX8_move 144 = .ok (.iadd, 1) := by decide +kernel
theorem dX8_move_145 : decode cX8_move 145 = .ok (.iaload, 1) := by decide +kernel
theorem dX8_move_146 : decode cX8_move 146 = .ok (.iastore, 1) := by decide +kernel
theorem dX8_move_147 : decode cX8_move 147 = .ok (.iinc 6 1, 3) := by decide +kernel
theorem dX8_move_150 : decode cX8_move 150 = .ok (.goto (-31), 3) := by decide +kernel
theorem dX8_move_153 : decode cX8_move 153 = .ok (.iconst 0, 1) := by decide +kernel
theorem dX8_move_154 : decode cX8_move 154 = .ok (.istore 6, 2) := by decide +kernel
theorem dX8_move_156 : decode cX8_move 156 = .ok (.iload 6, 2) := by decide +kernel
theorem dX8_move_158 : decode cX8_move 158 = .ok (.iload 5, 2) := by decide +kernel
theorem dX8_move_160 : decode cX8_move 160 = .ok (.if_icmp .ge 31, 3) := by decide +kernel
theorem dX8_move_163 : decode cX8_move 163 = .ok (.aload_n 0, 1) := by decide +kernel
theorem dX8_move_164 : decode cX8_move 164 = .ok (.getfield 37, 3) := by decide +kernel
theorem dX8_move_167 : decode cX8_move 167 = .ok (.bipush 40, 2) := by decide +kernel
theorem dX8_move_169 : decode cX8_move 169 = .ok (.iload_n 3, 1) := by decide +kernel
theorem dX8_move_170 : decode cX8_move 170 = .ok (.imul, 1) := by decide +kernel
theorem dX8_move_171 : decode cX8_move 171 = .ok (.iload 4, 2) := by decide +kernel
theorem dX8_move_173 : decode cX8_move 173 = .ok (.iadd, 1) := by decide +kernel
theorem dX8_move_174 : decode cX8_move 174 = .ok (.iload 6, 2) := by decide +kernel
theorem dX8_move_176 : decode cX8_move 176 = .ok (.iadd, 1) := by decide +kernel
theorem dX8_move_177 : decode cX8_move 177 = .ok (.aload_n 0, 1) := by decide +kernel
theorem dX8_move_178 : decode cX8_move 178 = .ok (.getfield 40, 3) := by decide +kernel
theorem dX8_move_181 : decode cX8_move 181 = .ok (.iload 6, 2) := by decide +kernel
theorem dX8_move_183 : decode cX8_move 183 = .ok (.iaload, 1) := by decide +kernel
theorem dX8_move_184 : decode cX8_move 184 = .ok (.iastore, 1) := by decide +kernel
theorem dX8_move_185 : decode cX8_move 185 = .ok (.iinc 6 1, 3) := by decide +kernel
theorem dX8_move_188 : decode cX8_move 188 = .ok (.goto (-32), 3) := by decide +kernel
theorem dX8_move_191 : decode cX8_move 191 = .ok (.iload 5, 2) := by decide +kernel
theorem dX8_move_193 : decode cX8_move 193 = .ok (.ireturn, 1) := by decide +kernel
theorem dX8_waters_0 : decode cX8_waters 0 = .ok (.aload_n 0, 1) := by decide +kernel
theorem dX8_waters_1 : decode cX8_waters 1 = .ok (.iload_n 1, 1) := by decide +kernel
theorem dX8_waters_2 : decode cX8_waters 2 = .ok (.invokevirtual 312, 3) := by decide +kernel
theorem dX8_waters_5 : decode cX8_waters 5 = .ok (.istore_n 2, 1) := by decide +kernel
theorem dX8_waters_6 : decode cX8_waters 6 = .ok (.iload_n 2, 1) := by decide +kernel
theorem dX8_waters_7 : decode cX8_waters 7 = .ok (.ifCond .eq 9, 3) := by decide +kernel
theorem dX8_waters_10 : decode cX8_waters 10 = .ok (.aload_n 0, 1) := by decide +kernel
theorem dX8_waters_11 : decode cX8_waters 11 = .ok (.iload_n 2, 1) := by decide +kernel
theorem dX8_waters_12 : decode cX8_waters 12 = .ok (.invokevirtual 68, 3) := by decide +kernel
theorem dX8_waters_15 : decode cX8_waters 15 = .ok (.ireturn, 1) := by decide +kernel
theorem dX8_waters_16 : decode cX8_waters 16 = .ok (.iconst 0, 1) := by decide +kernel
theorem dX8_waters_17 : decode cX8_waters 17 = .ok (.istore_n 3, 1) := by decide +kernel
theorem dX8_waters_18 : decode cX8_waters 18 = .ok (.iload_n 3, 1) := by decide +kernel
theorem dX8_waters_19 : decode cX8_waters 19 = .ok (.aload_n 0, 1) := by decide +kernel
theorem dX8_waters_20 : decode cX8_waters 20 = .ok (.getfield 34, 3) := by decide +kernel
theorem dX8_waters_23 : decode cX8_waters 23 = .ok (.iload_n 1, 1) := by decide +kernel
theorem dX8_waters_24 : decode cX8_waters 24 = .ok (.iaload, 1) := by decide +kernel
theorem dX8_waters_25 : decode cX8_waters 25 = .ok (.if_icmp .ge 56, 3) := by decide +kernel
theorem dX8_waters_28 : decode cX8_waters 28 = .ok (.iload_n 3, 1) := by decide +kernel
theorem dX8_waters_29 : decode cX8_waters 29 = .ok (.bipush 8, 2) := by decide +kernel
theorem dX8_waters_31 : decode cX8_waters 31 = .ok (.if_icmp .ge 50, 3) := by decide +kernel
theorem dX8_waters_34 : decode cX8_waters 34 = .ok (.aload_n 0, 1) := by decide +kernel
theorem dX8_waters_35 : decode cX8_waters 35 = .ok (.getfield 37, 3) := by decide +kernel
theorem dX8_waters_38 : decode cX8_waters 38 = .ok (.bipush 40, 2) := by decide +kernel
theorem dX8_waters_40 : decode cX8_waters 40 = .ok (.iload_n 1, 1) := by decide +kernel
theorem dX8_waters_41 : decode cX8_waters 41 = .ok (.imul, 1) := by decide +kernel
theorem dX8_waters_42 : decode cX8_waters 42 = .ok (.iload_n 3, 1) := by decide +kernel
theorem dX8_waters_43 : decode cX8_waters 43 = .ok (.iadd, 1) := by decide +kernel
theorem dX8_waters_44 : decode cX8_waters 44 = .ok (.iaload, 1) := by decide +kernel
theorem dX8_waters_45 : decode cX8_waters 45 = .ok (.i2l, 1) := by decide +kernel
theorem dX8_waters_46 : decode cX8_waters 46 = .ok (.lconst 0, 1) := by decide +kernel
theorem dX8_waters_47 : decode cX8_waters 47 = .ok (.ldc2_w 62, 3) := by decide +kernel
theorem dX8_waters_50 : decode cX8_waters 50 = .ok (.invokestatic 46, 3) := by decide +kernel
theorem dX8_waters_53 : decode cX8_waters 53 = .ok (.ifCond .eq 28, 3) := by decide +kernel
theorem dX8_waters_56 : decode cX8_waters 56 = .ok (.aload_n 0, 1) := by decide +kernel
theorem dX8_waters_57 : decode cX8_waters 57 = .ok (.getfield 7, 3) := by decide +kernel
theorem dX8_waters_60 : decode cX8_waters 60 = .ok (.iconst 0, 1) := by decide +kernel
theorem dX8_waters_61 : decode cX8_waters 61 = .ok (.iload_n 3, 1) := by decide +kernel
theorem dX8_waters_62 : decode cX8_waters 62 = .ok (.iadd, 1) := by decide +kernel
theorem dX8_waters_63 : decode cX8_waters 63 = .ok (.aload_n 0, 1) := by decide +kernel
theorem dX8_waters_64 : decode cX8_waters 64 = .ok (.getfield 37, 3) := by decide +kernel
theorem dX8_waters_67 : decode cX8_waters 67 = .ok (.bipush 40, 2) := by decide +kernel
theorem dX8_waters_69 : decode cX8_waters 69 = .ok (.iload_n 1, 1) := by decide +kernel
theorem dX8_waters_70 : decode cX8_waters 70 = .ok (.imul, 1) := by decide +kernel
theorem dX8_waters_71 : decode cX8_waters 71 = .ok (.iload_n 3, 1) := by decide +kernel
theorem dX8_waters_72 : decode cX8_waters 72 = .ok (.iadd, 1) := by decide +kernel
theorem dX8_waters_73 : decode cX8_waters 73 = .ok (.iaload, 1) := by decide +kernel
theorem dX8_waters_74 : decode cX8_waters 74 = .ok (.iastore, 1) := by decide +kernel
theorem dX8_waters_75 : decode cX8_waters 75 = .ok (.iinc 3 1, 3) := by decide +kernel
theorem dX8_waters_78 : decode cX8_waters 78 = .ok (.goto (-60), 3) := by decide +kernel
theorem dX8_waters_81 : decode cX8_waters 81 = .ok (.iload_n 3, 1) := by decide +kernel
theorem dX8_waters_82 : decode cX8_waters 82 = .ok (.ireturn, 1) := by decide +kernel
theorem dX8_judge_0 : decode cX8_judge 0 = .ok (.aload_n 0, 1) := by decide +kernel
theorem dX8_judge_1 : decode cX8_judge 1 = .ok (.iload_n 1, 1) := by decide +kernel
theorem dX8_judge_2 : decode cX8_judge 2 = .ok (.invokevirtual 312, 3) := by decide +kernel
theorem dX8_judge_5 : decode cX8_judge 5 = .ok (.istore_n 2, 1) := by decide +kernel
theorem dX8_judge_6 : decode cX8_judge 6 = .ok (.iload_n 2, 1) := by decide +kernel
theorem dX8_judge_7 : decode cX8_judge 7 = .ok (.ifCond .eq 9, 3) := by decide +kernel
theorem dX8_judge_10 : decode cX8_judge 10 = .ok (.aload_n 0, 1) := by decide +kernel
theorem dX8_judge_11 : decode cX8_judge 11 = .ok (.iload_n 2, 1) := by decide +kernel
theorem dX8_judge_12 : decode cX8_judge 12 = .ok (.invokevirtual 68, 3) := by decide +kernel
theorem dX8_judge_15 : decode cX8_judge 15 = .ok (.ireturn, 1) := by decide +kernel
theorem dX8_judge_16 : decode cX8_judge 16 = .ok (.iconst 0, 1) := by decide +kernel
theorem dX8_judge_17 : decode cX8_judge 17 = .ok (.istore_n 3, 1) := by decide +kernel
theorem dX8_judge_18 : decode cX8_judge 18 = .ok (.iload_n 3, 1) := by decide +kernel
theorem dX8_judge_19 : decode cX8_judge 19 = .ok (.aload_n 0, 1) := by decide +kernel
theorem dX8_judge_20 : decode cX8_judge 20 = .ok (.getfield 34, 3) := by decide +kernel
theorem dX8_judge_23 : decode cX8_judge 23 = .ok (.iload_n 1, 1) := by decide +kernel
theorem dX8_judge_24 : decode cX8_judge 24 = .ok (.iaload, 1) := by decide +kernel
theorem dX8_judge_25 : decode cX8_judge 25 = .ok (.if_icmp .ge 41, 3) := by decide +kernel
theorem dX8_judge_28 : decode cX8_judge 28 = .ok (.iload_n 3, 1) := by decide +kernel
theorem dX8_judge_29 : decode cX8_judge 29 = .ok (.aload_n 0, 1) := by decide +kernel
theorem dX8_judge_30 : decode cX8_judge 30 = .ok (.getfield 7, 3) := by decide +kernel
theorem dX8_judge_33 : decode cX8_judge 33 = .ok (.sipush 139, 3) := by decide +kernel
theorem dX8_judge_36 : decode cX8_judge 36 = .ok (.iaload, 1) := by decide +kernel
theorem dX8_judge_37 : decode cX8_judge 37 = .ok (.if_icmp .ge 29, 3) := by decide +kernel
theorem dX8_judge_40 : decode cX8_judge 40 = .ok (.aload_n 0, 1) := by decide +kernel
theorem dX8_judge_41 : decode cX8_judge 41 = .ok (.getfield 37, 3) := by decide +kernel
theorem dX8_judge_44 : decode cX8_judge 44 = .ok (.bipush 40, 2) := by decide +kernel
theorem dX8_judge_46 : decode cX8_judge 46 = .ok (.iload_n 1, 1) := by decide +kernel
theorem dX8_judge_47 : decode cX8_judge 47 = .ok (.imul, 1) := by decide +kernel
theorem dX8_judge_48 : decode cX8_judge 48 = .ok (.iload_n 3, 1) := by decide +kernel
theorem dX8_judge_49 : decode cX8_judge 49 = .ok (.iadd, 1) := by decide +kernel
theorem dX8_judge_50 : decode cX8_judge 50 = .ok (.iaload, 1) := by decide +kernel
theorem dX8_judge_51 : decode cX8_judge 51 = .ok (.aload_n 0, 1) := by decide +kernel
theorem dX8_judge_52 : decode cX8_judge 52 = .ok (.iload_n 3, 1) := by decide +kernel
theorem dX8_judge_53 : decode cX8_judge 53 = .ok (.iconst 3, 1) := by decide +kernel
theorem dX8_judge_54 : decode cX8_judge 54 = .ok (.invokevirtual 79, 3) := by decide +kernel
theorem dX8_judge_57 : decode cX8_judge 57 = .ok (.if_icmp .ne 9, 3) := by decide +kernel
theorem dX8_judge_60 : decode cX8_judge 60 = .ok (.iinc 3 1, 3) := by decide +kernel
theorem dX8_judge_63 : decode cX8_judge 63 = .ok (.goto (-45), 3) := by decide +kernel
theorem dX8_judge_66 : decode cX8_judge 66 = .ok (.iload_n 3, 1) := by decide +kernel
theorem dX8_judge_67 : decode cX8_judge 67 = .ok (.aload_n 0, 1) := by decide +kernel
theorem dX8_judge_68 : decode cX8_judge 68 = .ok (.getfield 7, 3) := by decide +kernel
theorem dX8_judge_71 : decode cX8_judge 71 = .ok (.sipush 139, 3) := by decide +kernel
theorem dX8_judge_74 : decode cX8_judge 74 = .ok (.iaload, 1) := by decide +kernel
theorem dX8_judge_75 : decode cX8_judge 75 = .ok (.if_icmp .ne 24, 3) := by decide +kernel
theorem dX8_judge_78 : decode cX8_judge 78 = .ok (.aload_n 0, 1) := by decide +kernel
theorem dX8_judge_79 : decode cX8_judge 79 = .ok (.getfield 34, 3) := by decide +kernel
theorem dX8_judge_82 : decode cX8_judge 82 = .ok (.iload_n 1, 1) := by decide +kernel
theorem dX8_judge_83 : decode cX8_judge 83 = .ok (.iaload, 1) := by decide +kernel
theorem dX8_judge_84 : decode cX8_judge 84 = .ok (.aload_n 0, 1) := by decide +kernel
theorem dX8_judge_85 : decode cX8_judge 85 = .ok (.getfield 7, 3) := by decide +kernel
theorem dX8_judge_88 : decode cX8_judge 88 = .ok (.sipush 139, 3) := by decide +kernel
theorem dX8_judge_91 : decode cX8_judge 91 = .ok (.iaload, 1) := by decide +kernel
theorem dX8_judge_92 : decode cX8_judge 92 = .ok (.if_icmp .ne 7, 3) := by decide +kernel
theorem dX8_judge_95 : decode cX8_judge 95 = .ok (.iconst (-1), 1) := by decide +kernel
theorem dX8_judge_96 : decode cX8_judge 96 = .ok (.goto 4, 3) := by decide +kernel
theorem dX8_judge_99 : decode cX8_judge 99 = .ok (.iload_n 3, 1) := by decide +kernel
theorem dX8_judge_100 : decode cX8_judge 100 = .ok (.ireturn, 1) := by decide +kernel
theorem dX8_image_0 : decode cX8_image 0 = .ok (.iconst 0, 1) := by decide +kernel
theorem dX8_image_1 : decode cX8_image 1 = .ok (.istore_n 1, 1) := by decide +kernel
theorem dX8_image_2 : decode cX8_image 2 = .ok (.iload_n 1, 1) := by decide +kernel
theorem dX8_image_3 : decode cX8_image 3 = .ok (.sipush 351, 3) := by decide +kernel
theorem dX8_image_6 : decode cX8_image 6 = .ok (.if_icmp .ge 21, 3) := by decide +kernel
theorem dX8_image_9 : decode cX8_image 9 = .ok (.aload_n 0, 1) := by decide +kernel
theorem dX8_image_10 : decode cX8_image 10 = .ok (.getfield 13, 3) := by decide +kernel
theorem dX8_image_13 : decode cX8_image 13 = .ok (.iload_n 1, 1) := by decide +kernel
theorem dX8_image_14 : decode cX8_image 14 = .ok (.aload_n 0, 1) := by decide +kernel
theorem dX8_image_15 : decode cX8_image 15 = .ok (.getfield 7, 3) := by decide +kernel
theorem dX8_image_18 : decode cX8_image 18 = .ok (.iload_n 1, 1) := by decide +kernel
theorem dX8_image_19 : decode cX8_image 19 = .ok (.iaload, 1) := by decide +kernel
theorem dX8_image_20 : decode cX8_image 20 = .ok (.iastore, 1) := by decide +kernel
theorem dX8_image_21 : decode cX8_image 21 = .ok (.iinc 1 1, 3) := by decide +kernel
theorem dX8_image_24 : decode cX8_image 24 = .ok (.goto (-22), 3) := by decide +kernel
theorem dX8_image_27 : decode cX8_image 27 = .ok (.aload_n 0, 1) := by decide +kernel
theorem dX8_image_28 : decode cX8_image 28 = .ok (.dup, 1) := by decide +kernel
theorem dX8_image_29 : decode cX8_image 29 = .ok (.getfield 315, 3) := by decide +kernel
theorem dX8_image_32 : decode cX8_image 32 = .ok (.iconst 1, 1) := by decide +kernel
theorem dX8_image_33 : decode cX8_image 33 = .ok (.iadd, 1) := by decide +kernel
theorem dX8_image_34 : decode cX8_image 34 = .ok (.putfield 315, 3) := by decide +kernel
theorem dX8_image_37 : decode cX8_image 37 = .ok (.aload_n 0, 1) := by decide +kernel
theorem dX8_image_38 : decode cX8_image 38 = .ok (.getfield 315, 3) := by decide +kernel
theorem dX8_image_41 : decode cX8_image 41 = .ok (.ireturn, 1) := by decide +kernel
theorem dX8_restore_0 : decode cX8_restore 0 = .ok (.aload_n 0, 1) := by decide +kernel
theorem dX8_restore_1 : decode cX8_restore 1 = .ok (.getfield 315, 3) := by decide +kernel
theorem dX8_restore_4 : decode cX8_restore 4 = .ok (.ifCond .ne 10, 3) := by decide +kernel
theorem dX8_restore_7 : decode cX8_restore 7 = .ok (.aload_n 0, 1) := by decide +kernel
theorem dX8_restore_8 : decode cX8_restore 8 = .ok (.ldc 249, 2) := by decide +kernel
theorem dX8_restore_10 : decode cX8_restore 10 = .ok (.invokevirtual 68, 3) := by decide +kernel
theorem dX8_restore_13 : decode cX8_restore 13 = .ok (.ireturn, 1) := by decide +kernel
theorem dX8_restore_14 : decode cX8_restore 14 = .ok (.iconst 0, 1) := by decide +kernel
theorem dX8_restore_15 : decode cX8_restore 15 = .ok (.istore_n 1, 1) := by decide +kernel
theorem dX8_restore_16 : decode cX8_restore 16 = .ok (.iload_n 1, 1) := by decide +kernel
theorem dX8_restore_17 : decode cX8_restore 17 = .ok (.sipush 351, 3) := by decide +kernel
theorem dX8_restore_20 : decode cX8_restore 20 = .ok (.if_icmp .ge 21, 3) := by decide +kernel
theorem dX8_restore_23 : decode cX8_restore 23 = .ok (.aload_n 0, 1) := by decide +kernel
theorem dX8_restore_24 : decode cX8_restore 24 = .ok (.getfield 7, 3) := by decide +kernel
theorem dX8_restore_27 : decode cX8_restore 27 = .ok (.iload_n 1, 1) := by decide +kernel
theorem dX8_restore_28 : decode cX8_restore 28 = .ok (.aload_n 0, 1) := by decide +kernel
theorem dX8_restore_29 : decode cX8_restore 29 = .ok (.getfield 13, 3) := by decide +kernel
theorem dX8_restore_32 : decode cX8_restore 32 = .ok (.iload_n 1, 1) := by decide +kernel
theorem dX8_restore_33 : decode cX8_restore 33 = .ok (.iaload, 1) := by decide +kernel
theorem dX8_restore_34 : decode cX8_restore 34 = .ok (.iastore, 1) := by decide +kernel
theorem dX8_restore_35 : decode cX8_restore 35 = .ok (.iinc 1 1, 3) := by decide +kernel
theorem dX8_restore_38 : decode cX8_restore 38 = .ok (.goto (-22), 3) := by decide +kernel
theorem dX8_restore_41 : decode cX8_restore 41 = .ok (.aload_n 0, 1) := by decide +kernel
theorem dX8_restore_42 : decode cX8_restore 42 = .ok (.getfield 7, 3) := by decide +kernel
theorem dX8_restore_45 : decode cX8_restore 45 = .ok (.sipush 137, 3) := by decide +kernel
theorem dX8_restore_48 : decode cX8_restore 48 = .ok (.iaload, 1) := by decide +kernel
theorem dX8_restore_49 : decode cX8_restore 49 = .ok (.ireturn, 1) := by decide +kernel
theorem dX8_tell_0 : decode cX8_tell 0 = .ok (.aload_n 0, 1) := by decide +kernel
theorem dX8_tell_1 : decode cX8_tell 1 = .ok (.getfield 7, 3) := by decide +kernel
theorem dX8_tell_4 : decode cX8_tell 4 = .ok (.sipush 178, 3) := by decide +kernel
theorem dX8_tell_7 : decode cX8_tell 7 = .ok (.iaload, 1) := by decide +kernel
theorem dX8_tell_8 : decode cX8_tell 8 = .ok (.bipush 20, 2) := by decide +kernel
theorem dX8_tell_10 : decode cX8_tell 10 = .ok (.if_icmp .ne 10, 3) := by decide +kernel
theorem dX8_tell_13 : decode cX8_tell 13 = .ok (.aload_n 0, 1) := by decide +kernel
theorem dX8_tell_14 : decode cX8_tell 14 = .ok (.ldc 98, 2) := by decide +kernel
theorem dX8_tell_16 : decode cX8_tell 16 = .ok (.invokevirtual 68, 3) := by decide +kernel
theorem dX8_tell_19 : decode cX8_tell 19 = .ok (.ireturn, 1) := by decide +kernel
theorem dX8_tell_20 : decode cX8_tell 20 = .ok (.aload_n 0, 1) := by decide +kernel
theorem dX8_tell_21 : decode cX8_tell 21 = .ok (.getfield 7, 3) := by decide +kernel
theorem dX8_tell_24 : decode cX8_tell 24 = .ok (.sipush 331, 3) := by decide +kernel
theorem dX8_tell_27 : decode cX8_tell 27 = .ok (.aload_n 0, 1) := by decide +kernel
theorem dX8_tell_28 : decode cX8_tell 28 = .ok (.getfield 7, 3) := by decide +kernel
theorem dX8_tell_31 : decode cX8_tell 31 = .ok (.sipush 178, 3) := by decide +kernel
theorem dX8_tell_34 : decode cX8_tell 34 = .ok (.iaload, 1) := by decide +kernel
theorem dX8_tell_35 : decode cX8_tell 35 = .ok (.iadd, 1) := by decide +kernel
theorem dX8_tell_36 : decode cX8_tell 36 = .ok (.iload_n 1, 1) := by decide +kernel
theorem dX8_tell_37 : decode cX8_tell 37 = .ok (.iastore, 1) := by decide +kernel
theorem dX8_tell_38 : decode cX8_tell 38 = .ok (.aload_n 0, 1) := by decide +kernel
theorem dX8_tell_39 : decode cX8_tell 39 = .ok (.getfield 7, 3) := by decide +kernel
theorem dX8_tell_42 : decode cX8_tell 42 = .ok (.sipush 178, 3) := by decide +kernel
theorem dX8_tell_45 : decode cX8_tell 45 = .ok (.dup2, 1) := by decide +kernel
theorem dX8_tell_46 : decode cX8_tell 46 = .ok (.iaload, 1) := by decide +kernel
theorem dX8_tell_47 : decode cX8_tell 47 = .ok (.iconst 1, 1) := by decide +kernel
theorem dX8_tell_48 : decode cX8_tell 48 = .ok (.iadd, 1) := by decide +kernel
theorem dX8_tell_49 : decode cX8_tell 49 = .ok (.iastore, 1) := by decide +kernel
theorem dX8_tell_50 : decode cX8_tell 50 = .ok (.aload_n 0, 1) := by decide +kernel
theorem dX8_tell_51 : decode cX8_tell 51 = .ok (.getfield 7, 3) := by decide +kernel
theorem dX8_tell_54 : decode cX8_tell 54 = .ok (.sipush 178, 3) := by decide +kernel
theorem dX8_tell_57 : decode cX8_tell 57 = .ok (.iaload, 1) := by decide +kernel
theorem dX8_tell_58 : decode cX8_tell 58 = .ok (.ireturn, 1) := by decide +kernel
theorem dX8_check_0 : decode cX8_check 0 = .ok (.aload_n 0, 1) := by decide +kernel
theorem dX8_check_1 : decode cX8_check 1 = .ok (.invokevirtual 318, 3) := by decide +kernel
theorem dX8_check_4 : decode cX8_check 4 = .ok (.aload_n 0, 1) := by decide +kernel
theorem dX8_check_5 : decode cX8_check 5 = .ok (.getfield 7, 3) := by decide +kernel
theorem dX8_check_8 : decode cX8_check 8 = .ok (.sipush 178, 3) := by decide +kernel
theorem dX8_check_11 : decode cX8_check 11 = .ok (.iaload, 1) := by decide +kernel
theorem dX8_check_12 : decode cX8_check 12 = .ok (.istore_n 1, 1) := by decide +kernel
theorem dX8_check_13 : decode cX8_check 13 = .ok (.iconst 0, 1) := by decide +kernel
theorem dX8_check_14 : decode cX8_check 14 = .ok (.istore_n 2, 1) := by decide +kernel
theorem dX8_check_15 : decode cX8_check 15 = .ok (.iconst 0, 1) := by decide +kernel
theorem dX8_check_16 : decode cX8_check 16 = .ok (.istore_n 3, 1) := by decide +kernel
theorem dX8_check_17 : decode cX8_check 17 = .ok (.iload_n 3, 1) := by decide +kernel
theorem dX8_check_18 : decode cX8_check 18 = .ok (.iload_n 1, 1) := by decide +kernel
theorem dX8_check_19 : decode cX8_check 19 = .ok (.if_icmp .ge 42, 3) := by decide +kernel
theorem dX8_check_22 : decode cX8_check 22 = .ok (.iload_n 2, 1) := by decide +kernel
theorem dX8_check_23 : decode cX8_check 23 = .ok (.ifCond .ne 38, 3) := by decide +kernel
theorem dX8_check_26 : decode cX8_check 26 = .ok (.aload_n 0, 1) := by decide +kernel
theorem dX8_check_27 : decode cX8_check 27 = .ok (.invokevirtual 214, 3) := by decide +kernel
theorem dX8_check_30 : decode cX8_check 30 = .ok (.aload_n 0, 1) := by decide +kernel
theorem dX8_check_31 : decode cX8_check 31 = .ok (.invokevirtual 217, 3) := by decide +kernel
theorem dX8_check_34 : decode cX8_check 34 = .ok (.aload_n 0, 1) := by decide +kernel
theorem dX8_check_35 : decode cX8_check 35 = .ok (.getfield 7, 3) := by decide +kernel
theorem dX8_check_38 : decode cX8_check 38 = .ok (.sipush 331, 3) := by decide +kernel
theorem dX8_check_41 : decode cX8_check 41 = .ok (.iload_n 3, 1) := by decide +kernel
theorem dX8_check_42 : decode cX8_check 42 = .ok (.iadd, 1) := by decide +kernel
theorem dX8_check_43 : decode cX8_check 43 = .ok (.iaload, 1) := by decide +kernel
theorem dX8_check_44 : decode cX8_check 44 = .ok (.if_icmp .ne 7, 3) := by decide +kernel
theorem dX8_check_47 : decode cX8_check 47 = .ok (.iconst 0, 1) := by decide +kernel
theorem dX8_check_48 : decode cX8_check 48 = .ok (.goto 6, 3) := by decide +kernel
theorem dX8_check_51 : decode cX8_check 51 = .ok (.iconst 1, 1) := by decide +kernel
theorem dX8_check_52 : decode cX8_check 52 = .ok (.iload_n 3, 1) := by decide +kernel
theorem dX8_check_53 : decode cX8_check 53 = .ok (.iadd, 1) := by decide +kernel
theorem dX8_check_54 : decode cX8_check 54 = .ok (.istore_n 2, 1) := by decide +kernel
theorem dX8_check_55 : decode cX8_check 55 = .ok (.iinc 3 1, 3) := by decide +kernel
theorem dX8_check_58 : decode cX8_check 58 = .ok (.goto (-41), 3) := by decide +kernel
theorem dX8_check_61 : decode cX8_check 61 = .ok (.aload_n 0, 1) := by decide +kernel
theorem dX8_check_62 : decode cX8_check 62 = .ok (.getfield 7, 3) := by decide +kernel
theorem dX8_check_65 : decode cX8_check 65 = .ok (.sipush 178, 3) := by decide +kernel
theorem dX8_check_68 : decode cX8_check 68 = .ok (.iconst 0, 1) := by decide +kernel
theorem dX8_check_69 : decode cX8_check 69 = .ok (.iastore, 1) := by decide +kernel
theorem dX8_check_70 : decode cX8_check 70 = .ok (.aload_n 0, 1) := by decide +kernel
theorem dX8_check_71 : decode cX8_check 71 = .ok (.iload_n 2, 1) := by decide +kernel
theorem dX8_check_72 : decode cX8_check 72 = .ok (.invokevirtual 321, 3) := by decide +kernel
theorem dX8_check_75 : decode cX8_check 75 = .ok (.ireturn, 1) := by decide +kernel
theorem dX8_sum__0 : decode cX8_sum_ 0 = .ok (.iconst 0, 1) := by decide +kernel
theorem dX8_sum__1 : decode cX8_sum_ 1 = .ok (.istore_n 3, 1) := by decide +kernel
theorem dX8_sum__2 : decode cX8_sum_ 2 = .ok (.iconst 0, 1) := by decide +kernel
theorem dX8_sum__3 : decode cX8_sum_ 3 = .ok (.istore 4, 2) := by decide +kernel
theorem dX8_sum__5 : decode cX8_sum_ 5 = .ok (.iload 4, 2) := by decide +kernel
theorem dX8_sum__7 : decode cX8_sum_ 7 = .ok (.iload_n 2, 1) := by decide +kernel
theorem dX8_sum__8 : decode cX8_sum_ 8 = .ok (.if_icmp .ge 21, 3) := by decide +kernel
theorem dX8_sum__11 : decode cX8_sum_ 11 = .ok (.iload_n 3, 1) := by decide +kernel
theorem dX8_sum__12 : decode cX8_sum_ 12 = .ok (.aload_n 0, 1) := by decide +kernel
theorem dX8_sum__13 : decode cX8_sum_ 13 = .ok (.getfield 7, 3) := by decide +kernel
theorem dX8_sum__16 : decode cX8_sum_ 16 = .ok (.iload_n 1, 1) := by decide +kernel
theorem dX8_sum__17 : decode cX8_sum_ 17 = .ok (.iload 4, 2) := by decide +kernel
theorem dX8_sum__19 : decode cX8_sum_ 19 = .ok (.iadd, 1) := by decide +kernel
theorem dX8_sum__20 : decode cX8_sum_ 20 = .ok (.iaload, 1) := by decide +kernel
theorem dX8_sum__21 : decode cX8_sum_ 21 = .ok (.iadd, 1) := by decide +kernel
theorem dX8_sum__22 : decode cX8_sum_ 22 = .ok (.istore_n 3, 1) := by decide +kernel
theorem dX8_sum__23 : decode cX8_sum_ 23 = .ok (.iinc 4 1, 3) := by decide +kernel
theorem dX8_sum__26 : decode cX8_sum_ 26 = .ok (.goto (-21), 3) := by decide +kernel
theorem dX8_sum__29 : decode cX8_sum_ 29 = .ok (.iload_n 3, 1) := by decide +kernel
theorem dX8_sum__30 : decode cX8_sum_ 30 = .ok (.ireturn, 1) := by decide +kernel
theorem dX8_count_0 : decode cX8_count 0 = .ok (.iload_n 1, 1) := by decide +kernel
theorem dX8_count_1 : decode cX8_count 1 = .ok (.tableswitch 149 0 10 #[59, 68, 77, 86, 91, 99, 108, 117, 126, 135, 140], 59) := by decide +kernel
theorem dX8_count_60 : decode cX8_count 60 = .ok (.aload_n 0, 1) := by decide +kernel
theorem dX8_count_61 : decode cX8_count 61 = .ok (.getfield 7, 3) := by decide +kernel
theorem dX8_count_64 : decode cX8_count 64 = .ok (.sipush 139, 3) := by decide +kernel
theorem dX8_count_67 : decode cX8_count 67 = .ok (.iaload, 1) := by decide +kernel
theorem dX8_count_68 : decode cX8_count 68 = .ok (.ireturn, 1) := by decide +kernel
theorem dX8_count_69 : decode cX8_count 69 = .ok (.aload_n 0, 1) := by decide +kernel
theorem dX8_count_70 : decode cX8_count 70 = .ok (.getfield 7, 3) := by decide +kernel
theorem dX8_count_73 : decode cX8_count 73 = .ok (.sipush 137, 3) := by decide +kernel
theorem dX8_count_76 : decode cX8_count 76 = .ok (.iaload, 1) := by decide +kernel
theorem dX8_count_77 : decode cX8_count 77 = .ok (.ireturn, 1) := by decide +kernel
theorem dX8_count_78 : decode cX8_count 78 = .ok (.aload_n 0, 1) := by decide +kernel
theorem dX8_count_79 : decode cX8_count 79 = .ok (.getfield 7, 3) := by decide +kernel
theorem dX8_count_82 : decode cX8_count 82 = .ok (.sipush 138, 3) := by decide +kernel
theorem dX8_count_85 : decode cX8_count 85 = .ok (.iaload, 1) := by decide +kernel
theorem dX8_count_86 : decode cX8_count 86 = .ok (.ireturn, 1) := by decide +kernel
theorem dX8_count_87 : decode cX8_count 87 = .ok (.aload_n 0, 1) := by decide +kernel
theorem dX8_count_88 : decode cX8_count 88 = .ok (.invokevirtual 217, 3) := by decide +kernel
theorem dX8_count_91 : decode cX8_count 91 = .ok (.ireturn, 1) := by decide +kernel
theorem dX8_count_92 : decode cX8_count 92 = .ok (.aload_n 0, 1) := by decide +kernel
theorem dX8_count_93 : decode cX8_count 93 = .ok (.iconst 0, 1) := by decide +kernel
theorem dX8_count_94 : decode cX8_count 94 = .ok (.bipush 8, 2) := by decide +kernel
theorem dX8_count_96 : decode cX8_count 96 = .ok (.invokevirtual 324, 3) := by decide +kernel
theorem dX8_count_99 : decode cX8_count 99 = .ok (.ireturn, 1) := by decide +kernel
theorem dX8_count_100 : decode cX8_count 100 = .ok (.aload_n 0, 1) := by decide +kernel
theorem dX8_count_101 : decode cX8_count 101 = .ok (.getfield 7, 3) := by decide +kernel
theorem dX8_count_104 : decode cX8_count 104 = .ok (.sipush 136, 3) := by decide +kernel
theorem dX8_count_107 : decode cX8_count 107 = .ok (.iaload, 1) := by decide +kernel
theorem dX8_count_108 : decode cX8_count 108 = .ok (.ireturn, 1) := by decide +kernel
theorem dX8_count_109 : decode cX8_count 109 = .ok (.aload_n 0, 1) := by decide +kernel
theorem dX8_count_110 : decode cX8_count 110 = .ok (.bipush 72, 2) := by decide +kernel
theorem dX8_count_112 : decode cX8_count 112 = .ok (.bipush 64, 2) := by decide +kernel
theorem dX8_count_114 : decode cX8_count 114 = .ok (.invokevirtual 324, 3) := by decide +kernel
theorem dX8_count_117 : decode cX8_count 117 = .ok (.ireturn, 1) := by decide +kernel
theorem dX8_count_118 : decode cX8_count 118 = .ok (.aload_n 0, 1) := by decide +kernel
theorem dX8_count_119 : decode cX8_count 119 = .ok (.getfield 7, 3) := by decide +kernel
theorem dX8_count_122 : decode cX8_count 122 = .ok (.sipush 177, 3) := by decide +kernel
theorem dX8_count_125 : decode cX8_count 125 = .ok (.iaload, 1) := by decide +kernel
theorem dX8_count_126 : decode cX8_count 126 = .ok (.ireturn, 1) := by decide +kernel
theorem dX8_count_127 : decode cX8_count 127 = .ok (.aload_n 0, 1) := by decide +kernel
theorem dX8_count_128 : decode cX8_count 128 = .ok (.getfield 7, 3) := by decide +kernel
theorem dX8_count_131 : decode cX8_count 131 = .ok (.sipush 178, 3) := by decide +kernel
theorem dX8_count_134 : decode cX8_count 134 = .ok (.iaload, 1) := by decide +kernel
theorem dX8_count_135 : decode cX8_count 135 = .ok (.ireturn, 1) := by decide +kernel
theorem dX8_count_136 : decode cX8_count 136 = .ok (.aload_n 0, 1) := by decide +kernel
theorem dX8_count_137 : decode cX8_count 137 = .ok (.getfield 265, 3) := by decide +kernel
theorem dX8_count_140 : decode cX8_count 140 = .ok (.ireturn, 1) := by decide +kernel
theorem dX8_count_141 : decode cX8_count 141 = .ok (.aload_n 0, 1) := by decide +kernel
theorem dX8_count_142 : decode cX8_count 142 = .ok (.getfield 7, 3) := by decide +kernel
theorem dX8_count_145 : decode cX8_count 145 = .ok (.sipush 176, 3) := by decide +kernel
theorem dX8_count_148 : decode cX8_count 148 = .ok (.iaload, 1) := by decide +kernel
theorem dX8_count_149 : decode cX8_count 149 = .ok (.ireturn, 1) := by decide +kernel
theorem dX8_count_150 : decode cX8_count 150 = .ok (.aload_n 0, 1) := by decide +kernel
theorem dX8_count_151 : decode cX8_count 151 = .ok (.ldc 67, 2) := by decide +kernel
theorem dX8_count_153 : decode cX8_count 153 = .ok (.invokevirtual 68, 3) := by decide +kernel
theorem dX8_count_156 : decode cX8_count 156 = .ok (.ireturn, 1) := by decide +kernel
theorem dX8_told_0 : decode cX8_told 0 = .ok (.iload_n 1, 1) := by decide +kernel
theorem dX8_told_1 : decode cX8_told 1 = .ok (.i2l, 1) := by decide +kernel
theorem dX8_told_2 : decode cX8_told 2 = .ok (.lconst 1, 1) := by decide +kernel
theorem dX8_told_3 : decode cX8_told 3 = .ok (.ldc2_w 326, 3) := by decide +kernel
theorem dX8_told_6 : decode cX8_told 6 = .ok (.invokestatic 46, 3) := by decide +kernel
theorem dX8_told_9 : decode cX8_told 9 = .ok (.ifCond .eq 12, 3) := by decide +kernel
theorem dX8_told_12 : decode cX8_told 12 = .ok (.aload_n 0, 1) := by decide +kernel
theorem dX8_told_13 : decode cX8_told 13 = .ok (.getfield 19, 3) := by decide +kernel
theorem dX8_told_16 : decode cX8_told 16 = .ok (.iload_n 1, 1) := by decide +kernel
theorem dX8_told_17 : decode cX8_told 17 = .ok (.iaload, 1) := by decide +kernel
theorem dX8_told_18 : decode cX8_told 18 = .ok (.goto 9, 3) := by decide +kernel
theorem dX8_told_21 : decode cX8_told 21 = .ok (.aload_n 0, 1) := by decide +kernel
theorem dX8_told_22 : decode cX8_told 22 = .ok (.ldc 67, 2) := by decide +kernel
theorem dX8_told_24 : decode cX8_told 24 = .ok (.invokevirtual 68, 3) := by decide +kernel
theorem dX8_told_27 : decode cX8_told 27 = .ok (.ireturn, 1) := by decide +kernel
theorem dJ6_bitCount_0f7a4_0 : decode cJ6_bitCount_0f7a4 0 = .ok (.iload_n 0, 1) := by decide +kernel
theorem dJ6_bitCount_0f7a4_1 : decode cJ6_bitCount_0f7a4 1 = .ok (.iload_n 0, 1) := by decide +kernel
theorem dJ6_bitCount_0f7a4_2 : decode cJ6_bitCount_0f7a4 2 = .ok (.iconst 1, 1) := by decide +kernel
theorem dJ6_bitCount_0f7a4_3 : decode cJ6_bitCount_0f7a4 3 = .ok (.iushr, 1) := by decide +kernel
theorem dJ6_bitCount_0f7a4_4 : decode cJ6_bitCount_0f7a4 4 = .ok (.ldc_w 265, 3) := by decide +kernel
theorem dJ6_bitCount_0f7a4_7 : decode cJ6_bitCount_0f7a4 7 = .ok (.iand, 1) := by decide +kernel
theorem dJ6_bitCount_0f7a4_8 : decode cJ6_bitCount_0f7a4 8 = .ok (.isub, 1) := by decide +kernel
theorem dJ6_bitCount_0f7a4_9 : decode cJ6_bitCount_0f7a4 9 = .ok (.istore_n 0, 1) := by decide +kernel
theorem dJ6_bitCount_0f7a4_10 : decode cJ6_bitCount_0f7a4 10 = .ok (.iload_n 0, 1) := by decide +kernel
theorem dJ6_bitCount_0f7a4_11 : decode cJ6_bitCount_0f7a4 11 = .ok (.ldc_w 266, 3) := by decide +kernel
theorem dJ6_bitCount_0f7a4_14 : decode cJ6_bitCount_0f7a4 14 = .ok (.iand, 1) := by decide +kernel
theorem dJ6_bitCount_0f7a4_15 : decode cJ6_bitCount_0f7a4 15 = .ok (.iload_n 0, 1) := by decide +kernel
theorem dJ6_bitCount_0f7a4_16 : decode cJ6_bitCount_0f7a4 16 = .ok (.iconst 2, 1) := by decide +kernel
theorem dJ6_bitCount_0f7a4_17 : decode cJ6_bitCount_0f7a4 17 = .ok (.iushr, 1) := by decide +kernel
theorem dJ6_bitCount_0f7a4_18 : decode cJ6_bitCount_0f7a4 18 = .ok (.ldc_w 266, 3) := by decide +kernel
theorem dJ6_bitCount_0f7a4_21 : decode cJ6_bitCount_0f7a4 21 = .ok (.iand, 1) := by decide +kernel
theorem dJ6_bitCount_0f7a4_22 : decode cJ6_bitCount_0f7a4 22 = .ok (.iadd, 1) := by decide +kernel
theorem dJ6_bitCount_0f7a4_23 : decode cJ6_bitCount_0f7a4 23 = .ok (.istore_n 0, 1) := by decide +kernel
theorem dJ6_bitCount_0f7a4_24 : decode cJ6_bitCount_0f7a4 24 = .ok (.iload_n 0, 1) := by decide +kernel
theorem dJ6_bitCount_0f7a4_25 : decode cJ6_bitCount_0f7a4 25 = .ok (.iload_n 0, 1) := by decide +kernel
theorem dJ6_bitCount_0f7a4_26 : decode cJ6_bitCount_0f7a4 26 = .ok (.iconst 4, 1) := by decide +kernel
theorem dJ6_bitCount_0f7a4_27 : decode cJ6_bitCount_0f7a4 27 = .ok (.iushr, 1) := by decide +kernel
theorem dJ6_bitCount_0f7a4_28 : decode cJ6_bitCount_0f7a4 28 = .ok (.iadd, 1) := by decide +kernel
theorem dJ6_bitCount_0f7a4_29 : decode cJ6_bitCount_0f7a4 29 = .ok (.ldc_w 267, 3) := by decide +kernel
theorem dJ6_bitCount_0f7a4_32 : decode cJ6_bitCount_0f7a4 32 = .ok (.iand, 1) := by decide +kernel
theorem dJ6_bitCount_0f7a4_33 : decode cJ6_bitCount_0f7a4 33 = .ok (.istore_n 0, 1) := by decide +kernel
theorem dJ6_bitCount_0f7a4_34 : decode cJ6_bitCount_0f7a4 34 = .ok (.iload_n 0, 1) := by decide +kernel
theorem dJ6_bitCount_0f7a4_35 : decode cJ6_bitCount_0f7a4 35 = .ok (.iload_n 0, 1) := by decide +kernel
theorem dJ6_bitCount_0f7a4_36 : decode cJ6_bitCount_0f7a4 36 = .ok (.bipush 8, 2) := by decide +kernel
theorem dJ6_bitCount_0f7a4_38 : decode cJ6_bitCount_0f7a4 38 = .ok (.iushr, 1) := by decide +kernel
theorem dJ6_bitCount_0f7a4_39 : decode cJ6_bitCount_0f7a4 39 = .ok (.iadd, 1) := by decide +kernel
theorem dJ6_bitCount_0f7a4_40 : decode cJ6_bitCount_0f7a4 40 = .ok (.istore_n 0, 1) := by decide +kernel
theorem dJ6_bitCount_0f7a4_41 : decode cJ6_bitCount_0f7a4 41 = .ok (.iload_n 0, 1) := by decide +kernel
theorem dJ6_bitCount_0f7a4_42 : decode cJ6_bitCount_0f7a4 42 = .ok (.iload_n 0, 1) := by decide +kernel
theorem dJ6_bitCount_0f7a4_43 : decode cJ6_bitCount_0f7a4 43 = .ok (.bipush 16, 2) := by decide +kernel
theorem dJ6_bitCount_0f7a4_45 : decode cJ6_bitCount_0f7a4 45 = .ok (.iushr, 1) := by decide +kernel
theorem dJ6_bitCount_0f7a4_46 : decode cJ6_bitCount_0f7a4 46 = .ok (.iadd, 1) := by decide +kernel
theorem dJ6_bitCount_0f7a4_47 : decode cJ6_bitCount_0f7a4 47 = .ok (.istore_n 0, 1) := by decide +kernel
theorem dJ6_bitCount_0f7a4_48 : decode cJ6_bitCount_0f7a4 48 = .ok (.iload_n 0, 1) := by decide +kernel
theorem dJ6_bitCount_0f7a4_49 : decode cJ6_bitCount_0f7a4 49 = .ok (.bipush 63, 2) := by decide +kernel
theorem dJ6_bitCount_0f7a4_51 : decode cJ6_bitCount_0f7a4 51 = .ok (.iand, 1) := by decide +kernel
theorem dJ6_bitCount_0f7a4_52 : decode cJ6_bitCount_0f7a4 52 = .ok (.ireturn, 1) := by decide +kernel
theorem dJ9_max_7cf53_0 : decode cJ9_max_7cf53 0 = .ok (.iload_n 0, 1) := by decide +kernel
theorem dJ9_max_7cf53_1 : decode cJ9_max_7cf53 1 = .ok (.iload_n 1, 1) := by decide +kernel
theorem dJ9_max_7cf53_2 : decode cJ9_max_7cf53 2 = .ok (.if_icmp .lt 7, 3) := by decide +kernel
theorem dJ9_max_7cf53_5 : decode cJ9_max_7cf53 5 = .ok (.iload_n 0, 1) := by decide +kernel
theorem dJ9_max_7cf53_6 : decode cJ9_max_7cf53 6 = .ok (.goto 4, 3) := by decide +kernel
theorem dJ9_max_7cf53_9 : decode cJ9_max_7cf53 9 = .ok (.iload_n 1, 1) := by decide +kernel
theorem dJ9_max_7cf53_10 : decode cJ9_max_7cf53 10 = .ok (.ireturn, 1) := by decide +kernel
theorem dJ9_min_7cf53_0 : decode cJ9_min_7cf53 0 = .ok (.iload_n 0, 1) := by decide +kernel
theorem dJ9_min_7cf53_1 : decode cJ9_min_7cf53 1 = .ok (.iload_n 1, 1) := by decide +kernel
theorem dJ9_min_7cf53_2 : decode cJ9_min_7cf53 2 = .ok (.if_icmp .gt 7, 3) := by decide +kernel
theorem dJ9_min_7cf53_5 : decode cJ9_min_7cf53 5 = .ok (.iload_n 0, 1) := by decide +kernel
theorem dJ9_min_7cf53_6 : decode cJ9_min_7cf53 6 = .ok (.goto 4, 3) := by decide +kernel
theorem dJ9_min_7cf53_9 : decode cJ9_min_7cf53 9 = .ok (.iload_n 1, 1) := by decide +kernel
theorem dJ9_min_7cf53_10 : decode cJ9_min_7cf53 10 = .ok (.ireturn, 1) := by decide +kernel
theorem dJ7_fill_53178_0 : decode cJ7_fill_53178 0 = .ok (.iconst 0, 1) := by decide +kernel
theorem dJ7_fill_53178_1 : decode cJ7_fill_53178 1 = .ok (.istore_n 2, 1) := by decide +kernel
theorem dJ7_fill_53178_2 : decode cJ7_fill_53178 2 = .ok (.aload_n 0, 1) := by decide +kernel
theorem dJ7_fill_53178_3 : decode cJ7_fill_53178 3 = .ok (.arraylength, 1) := by decide +kernel
theorem dJ7_fill_53178_4 : decode cJ7_fill_53178 4 = .ok (.istore_n 3, 1) := by decide +kernel
theorem dJ7_fill_53178_5 : decode cJ7_fill_53178 5 = .ok (.iload_n 2, 1) := by decide +kernel
theorem dJ7_fill_53178_6 : decode cJ7_fill_53178 6 = .ok (.iload_n 3, 1) := by decide +kernel
theorem dJ7_fill_53178_7 : decode cJ7_fill_53178 7 = .ok (.if_icmp .ge 13, 3) := by decide +kernel
theorem dJ7_fill_53178_10 : decode cJ7_fill_53178 10 = .ok (.aload_n 0, 1) := by decide +kernel
theorem dJ7_fill_53178_11 : decode cJ7_fill_53178 11 = .ok (.iload_n 2, 1) := by decide +kernel
theorem dJ7_fill_53178_12 : decode cJ7_fill_53178 12 = .ok (.iload_n 1, 1) := by decide +kernel
theorem dJ7_fill_53178_13 : decode cJ7_fill_53178 13 = .ok (.iastore, 1) := by decide +kernel
theorem dJ7_fill_53178_14 : decode cJ7_fill_53178 14 = .ok (.iinc 2 1, 3) := by decide +kernel
theorem dJ7_fill_53178_17 : decode cJ7_fill_53178 17 = .ok (.goto (-12), 3) := by decide +kernel
theorem dJ7_fill_53178_20 : decode cJ7_fill_53178 20 = .ok (.return_, 1) := by decide +kernel
theorem dL_law_0 : decode cL_law 0 = .ok (.new 7, 3) := by decide +kernel
theorem dL_law_3 : decode cL_law 3 = .ok (.dup, 1) := by decide +kernel
theorem dL_law_4 : decode cL_law 4 = .ok (.invokespecial 9, 3) := by decide +kernel
theorem dL_law_7 : decode cL_law 7 = .ok (.astore_n 1, 1) := by decide +kernel
theorem dL_law_8 : decode cL_law 8 = .ok (.new 10, 3) := by decide +kernel
theorem dL_law_11 : decode cL_law 11 = .ok (.dup, 1) := by decide +kernel
theorem dL_law_12 : decode cL_law 12 = .ok (.invokespecial 12, 3) := by decide +kernel
theorem dL_law_15 : decode cL_law 15 = .ok (.astore_n 2, 1) := by decide +kernel
theorem dL_law_16 : decode cL_law 16 = .ok (.iconst 0, 1) := by decide +kernel
theorem dL_law_17 : decode cL_law 17 = .ok (.istore_n 3, 1) := by decide +kernel
theorem dL_law_18 : decode cL_law 18 = .ok (.iload_n 3, 1) := by decide +kernel
theorem dL_law_19 : decode cL_law 19 = .ok (.aload_n 0, 1) := by decide +kernel
theorem dL_law_20 : decode cL_law 20 = .ok (.arraylength, 1) := by decide +kernel
theorem dL_law_21 : decode cL_law 21 = .ok (.bipush 6, 2) := by decide +kernel
theorem dL_law_23 : decode cL_law 23 = .ok (.isub, 1) := by decide +kernel
theorem dL_law_24 : decode cL_law 24 = .ok (.if_icmp .gt 1507, 3) := by decide +kernel
theorem dL_law_27 : decode cL_law 27 = .ok (.aload_n 0, 1) := by decide +kernel
theorem dL_law_28 : decode cL_law 28 = .ok (.iload_n 3, 1) := by decide +kernel
theorem dL_law_29 : decode cL_law 29 = .ok (.iaload, 1) := by decide +kernel
theorem dL_law_30 : decode cL_law 30 = .ok (.bipush 63, 2) := by decide +kernel
theorem dL_law_32 : decode cL_law 32 = .ok (.iand, 1) := by decide +kernel
theorem dL_law_33 : decode cL_law 33 = .ok (.tableswitch 1492 0 40 #[179, 212, 255, 298, 331, 354, 387, 420, 453, 486, 549, 572, 625, 648, 681, 724, 747, 770, 783, 826, 869, 912, 945, 958, 991, 1014, 1057, 1100, 1123, 1166, 1189, 1232, 1275, 1338, 1361, 1384, 1397, 1410, 1433, 1446, 1469], 179) := by decide +kernel
theorem dL_law_212 : decode cL_law 212 = .ok (.aload_n 1, 1) := by decide +kernel
theorem dL_law_213 : decode cL_law 213 = .ok (.aload_n 0, 1) := by decide +kernel
theorem dL_law_214 : decode cL_law 214 = .ok (.iload_n 3, 1) := by decide +kernel
theorem dL_law_215 : decode cL_law 215 = .ok (.iconst 1, 1) := by decide +kernel
theorem dL_law_216 : decode cL_law 216 = .ok (.iadd, 1) := by decide +kernel
theorem dL_law_217 : decode cL_law 217 = .ok (.iaload, 1) := by decide +kernel
theorem dL_law_218 : decode cL_law 218 = .ok (.aload_n 0, 1) := by decide +kernel
theorem dL_law_219 : decode cL_law 219 = .ok (.iload_n 3, 1) := by decide +kernel
theorem dL_law_220 : decode cL_law 220 = .ok (.iconst 2, 1) := by decide +kernel
theorem dL_law_221 : decode cL_law 221 = .ok (.iadd, 1) := by decide +kernel
theorem dL_law_222 : decode cL_law 222 = .ok (.iaload, 1) := by decide +kernel
theorem dL_law_223 : decode cL_law 223 = .ok (.invokevirtual 13, 3) := by decide +kernel
theorem dL_law_226 : decode cL_law 226 = .ok (.aload_n 2, 1) := by decide +kernel
theorem dL_law_227 : decode cL_law 227 = .ok (.aload_n 0, 1) := by decide +kernel
theorem dL_law_228 : decode cL_law 228 = .ok (.iload_n 3, 1) := by decide +kernel
theorem dL_law_229 : decode cL_law 229 = .ok (.iconst 1, 1) := by decide +kernel
theorem dL_law_230 : decode cL_law 230 = .ok (.iadd, 1) := by decide +kernel
theorem dL_law_231 : decode cL_law 231 = .ok (.iaload, 1) := by decide +kernel
theorem dL_law_232 : decode cL_law 232 = .ok (.aload_n 0, 1) := by decide +kernel
theorem dL_law_233 : decode cL_law 233 = .ok (.iload_n 3, 1) := by decide +kernel
theorem dL_law_234 : decode cL_law 234 = .ok (.iconst 2, 1) := by decide +kernel
theorem dL_law_235 : decode cL_law 235 = .ok (.iadd, 1) := by decide +kernel
theorem dL_law_236 : decode cL_law 236 = .ok (.iaload, 1) := by decide +kernel
theorem dL_law_237 : decode cL_law 237 = .ok (.invokevirtual 17, 3) := by decide +kernel
theorem dL_law_240 : decode cL_law 240 = .ok (.if_icmp .eq 1285, 3) := by decide +kernel
theorem dL_law_243 : decode cL_law 243 = .ok (.iconst 0, 1) := by decide +kernel
theorem dL_law_244 : decode cL_law 244 = .ok (.ireturn, 1) := by decide +kernel
theorem dL_law_245 : decode cL_law 245 = .ok (.aload_n 1, 1) := by decide +kernel
theorem dL_law_246 : decode cL_law 246 = .ok (.aload_n 0, 1) := by decide +kernel
theorem dL_law_247 : decode cL_law 247 = .ok (.iload_n 3, 1) := by decide +kernel
theorem dL_law_248 : decode cL_law 248 = .ok (.iconst 1, 1) := by decide +kernel
theorem dL_law_249 : decode cL_law 249 = .ok (.iadd, 1) := by decide +kernel
theorem dL_law_250 : decode cL_law 250 = .ok (.iaload, 1) := by decide +kernel
theorem dL_law_251 : decode cL_law 251 = .ok (.aload_n 0, 1) := by decide +kernel
theorem dL_law_252 : decode cL_law 252 = .ok (.iload_n 3, 1) := by decide +kernel
theorem dL_law_253 : decode cL_law 253 = .ok (.iconst 2, 1) := by decide +kernel
theorem dL_law_254 : decode cL_law 254 = .ok (.iadd, 1) := by decide +kernel
theorem dL_law_255 : decode cL_law 255 = .ok (.iaload, 1) := by decide +kernel
theorem dL_law_256 : decode cL_law 256 = .ok (.aload_n 0, 1) := by decide +kernel
theorem dL_law_257 : decode cL_law 257 = .ok (.iload_n 3, 1) := by decide +kernel
theorem dL_law_258 : decode cL_law 258 = .ok (.iconst 3, 1) := by decide +kernel
theorem dL_law_259 : decode cL_law 259 = .ok (.iadd, 1) := by decide +kernel
theorem dL_law_260 : decode cL_law 260 = .ok (.iaload, 1) := by decide +kernel
theorem dL_law_261 : decode cL_law 261 = .ok (.invokevirtual 18, 3) := by decide +kernel
theorem dL_law_264 : decode cL_law 264 = .ok (.aload_n 2, 1) := by decide +kernel
theorem dL_law_265 : decode cL_law 265 = .ok (.aload_n 0, 1) := by decide +kernel
theorem dL_law_266 : decode cL_law 266 = .ok (.iload_n 3, 1) := by decide +kernel
theorem dL_law_267 : decode cL_law 267 = .ok (.iconst 1, 1) := by decide +kernel
theorem dL_law_268 : decode cL_law 268 = .ok (.iadd, 1) := by decide +kernel
theorem dL_law_269 : decode cL_law 269 = .ok (.iaload, 1) := by decide +kernel
theorem dL_law_270 : decode cL_law 270 = .ok (.aload_n 0, 1) := by decide +kernel
theorem dL_law_271 : decode cL_law 271 = .ok (.iload_n 3, 1) := by decide +kernel
theorem dL_law_272 : decode cL_law 272 = .ok (.iconst 2, 1) := by decide +kernel
theorem dL_law_273 : decode cL_law 273 = .ok (.iadd, 1) := by decide +kernel
theorem dL_law_274 : decode cL_law 274 = .ok (.iaload, 1) := by decide +kernel
theorem dL_law_275 : decode cL_law 275 = .ok (.aload_n 0, 1) := by decide +kernel
theorem dL_law_276 : decode cL_law 276 = .ok (.iload_n 3, 1) := by decide +kernel
theorem dL_law_277 : decode cL_law 277 = .ok (.iconst 3, 1) := by decide +kernel
theorem dL_law_278 : decode cL_law 278 = .ok (.iadd, 1) := by decide +kernel
theorem dL_law_279 : decode cL_law 279 = .ok (.iaload, 1) := by decide +kernel
theorem dL_law_280 : decode cL_law 280 = .ok (.invokevirtual 22, 3) := by decide +kernel
theorem dL_law_283 : decode cL_law 283 = .ok (.if_icmp .eq 1242, 3) := by decide +kernel
theorem dL_law_286 : decode cL_law 286 = .ok (.iconst 0, 1) := by decide +kernel
theorem dL_law_287 : decode cL_law 287 = .ok (.ireturn, 1) := by decide +kernel
theorem dL_law_288 : decode cL_law 288 = .ok (.aload_n 1, 1) := by decide +kernel
theorem dL_law_289 : decode cL_law 289 = .ok (.aload_n 0, 1) := by decide +kernel
theorem dL_law_290 : decode cL_law 290 = .ok (.iload_n 3, 1) := by decide +kernel
theorem dL_law_291 : decode cL_law 291 = .ok (.iconst 1, 1) := by decide +kernel
theorem dL_law_292 : decode cL_law 292 = .ok (.iadd, 1) := by decide +kernel
theorem dL_law_293 : decode cL_law 293 = .ok (.iaload, 1) := by decide +kernel
theorem dL_law_294 : decode cL_law 294 = .ok (.aload_n 0, 1) := by decide +kernel
theorem dL_law_295 : decode cL_law 295 = .ok (.iload_n 3, 1) := by decide +kernel
theorem dL_law_296 : decode cL_law 296 = .ok (.iconst 2, 1) := by decide +kernel
theorem dL_law_297 : decode cL_law 297 = .ok (.iadd, 1) := by decide +kernel
theorem dL_law_298 : decode cL_law 298 = .ok (.iaload, 1) := by decide +kernel
theorem dL_law_299 : decode cL_law 299 = .ok (.aload_n 0, 1) := by decide +kernel
theorem dL_law_300 : decode cL_law 300 = .ok (.iload_n 3, 1) := by decide +kernel
theorem dL_law_301 : decode cL_law 301 = .ok (.iconst 3, 1) := by decide +kernel
theorem dL_law_302 : decode cL_law 302 = .ok (.iadd, 1) := by decide +kernel
theorem dL_law_303 : decode cL_law 303 = .ok (.iaload, 1) := by decide +kernel
theorem dL_law_304 : decode cL_law 304 = .ok (.invokevirtual 23, 3) := by decide +kernel
theorem dL_law_307 : decode cL_law 307 = .ok (.aload_n 2, 1) := by decide +kernel
theorem dL_law_308 : decode cL_law 308 = .ok (.aload_n 0, 1) := by decide +kernel
theorem dL_law_309 : decode cL_law 309 = .ok (.iload_n 3, 1) := by decide +kernel
theorem dL_law_310 : decode cL_law 310 = .ok (.iconst 1, 1) := by decide +kernel
theorem dL_law_311 : decode cL_law 311 = .ok (.iadd, 1) := by decide +kernel
theorem dL_law_312 : decode cL_law 312 = .ok (.iaload, 1) := by decide +kernel
theorem dL_law_313 : decode cL_law 313 = .ok (.aload_n 0, 1) := by decide +kernel
theorem dL_law_314 : decode cL_law 314 = .ok (.iload_n 3, 1) := by decide +kernel
theorem dL_law_315 : decode cL_law 315 = .ok (.iconst 2, 1) := by decide +kernel
theorem dL_law_316 : decode cL_law 316 = .ok (.iadd, 1) := by decide +kernel
theorem dL_law_317 : decode cL_law 317 = .ok (.iaload, 1) := by decide +kernel
theorem dL_law_318 : decode cL_law 318 = .ok (.aload_n 0, 1) := by decide +kernel
theorem dL_law_319 : decode cL_law 319 = .ok (.iload_n 3, 1) := by decide +kernel
theorem dL_law_320 : decode cL_law 320 = .ok (.iconst 3, 1) := by decide +kernel
theorem dL_law_321 : decode cL_law 321 = .ok (.iadd, 1) := by decide +kernel
theorem dL_law_322 : decode cL_law 322 = .ok (.iaload, 1) := by decide +kernel
theorem dL_law_323 : decode cL_law 323 = .ok (.invokevirtual 26, 3) := by decide +kernel
theorem dL_law_326 : decode cL_law 326 = .ok (.if_icmp .eq 1199, 3) := by decide +kernel
theorem dL_law_329 : decode cL_law 329 = .ok (.iconst 0, 1) := by decide +kernel
theorem dL_law_330 : decode cL_law 330 = .ok (.ireturn, 1) := by decide +kernel
theorem dL_law_331 : decode cL_law 331 = .ok (.aload_n 1, 1) := by decide +kernel
theorem dL_law_332 : decode cL_law 332 = .ok (.aload_n 0, 1) := by decide +kernel
theorem dL_law_333 : decode cL_law 333 = .ok (.iload_n 3, 1) := by decide +kernel
theorem dL_law_334 : decode cL_law 334 = .ok (.iconst 1, 1) := by decide +kernel
theorem dL_law_335 : decode cL_law 335 = .ok (.iadd, 1) := by decide +kernel
theorem dL_law_336 : decode cL_law 336 = .ok (.iaload, 1) := by decide +kernel
theorem dL_law_337 : decode cL_law 337 = .ok (.aload_n 0, 1) := by decide +kernel
theorem dL_law_338 : decode cL_law 338 = .ok (.iload_n 3, 1) := by decide +kernel
theorem dL_law_339 : decode cL_law 339 = .ok (.iconst 2, 1) := by decide +kernel
theorem dL_law_340 : decode cL_law 340 = .ok (.iadd, 1) := by decide +kernel
theorem dL_law_341 : decode cL_law 341 = .ok (.iaload, 1) := by decide +kernel
theorem dL_law_342 : decode cL_law 342 = .ok (.invokevirtual 27, 3) := by decide +kernel
theorem dL_law_345 : decode cL_law 345 = .ok (.aload_n 2, 1) := by decide +kernel
theorem dL_law_346 : decode cL_law 346 = .ok (.aload_n 0, 1) := by decide +kernel
theorem dL_law_347 : decode cL_law 347 = .ok (.iload_n 3, 1) := by decide +kernel
theorem dL_law_348 : decode cL_law 348 = .ok (.iconst 1, 1) := by decide +kernel
theorem dL_law_349 : decode cL_law 349 = .ok (.iadd, 1) := by decide +kernel
theorem dL_law_350 : decode cL_law 350 = .ok (.iaload, 1) := by decide +kernel
theorem dL_law_351 : decode cL_law 351 = .ok (.aload_n 0, 1) := by decide +kernel
theorem dL_law_352 : decode cL_law 352 = .ok (.iload_n 3, 1) := by decide +kernel
theorem dL_law_353 : decode cL_law 353 = .ok (.iconst 2, 1) := by decide +kernel
theorem dL_law_354 : decode cL_law 354 = .ok (.iadd, 1) := by decide +kernel
theorem dL_law_355 : decode cL_law 355 = .ok (.iaload, 1) := by decide +kernel
theorem dL_law_356 : decode cL_law 356 = .ok (.invokevirtual 30, 3) := by decide +kernel
theorem dL_law_359 : decode cL_law 359 = .ok (.if_icmp .eq 1166, 3) := by decide +kernel
theorem dL_law_362 : decode cL_law 362 = .ok (.iconst 0, 1) := by decide +kernel
theorem dL_law_363 : decode cL_law 363 = .ok (.ireturn, 1) := by decide +kernel
theorem dL_law_364 : decode cL_law 364 = .ok (.aload_n 1, 1) := by decide +kernel
theorem dL_law_365 : decode cL_law 365 = .ok (.aload_n 0, 1) := by decide +kernel
theorem dL_law_366 : decode cL_law 366 = .ok (.iload_n 3, 1) := by decide +kernel
theorem dL_law_367 : decode cL_law 367 = .ok (.iconst 1, 1) := by decide +kernel
theorem dL_law_368 : decode cL_law 368 = .ok (.iadd, 1) := by decide +kernel
theorem dL_law_369 : decode cL_law 369 = .ok (.iaload, 1) := by decide +kernel
theorem dL_law_370 : decode cL_law 370 = .ok (.invokevirtual 31, 3) := by decide +kernel
theorem dL_law_373 : decode cL_law 373 = .ok (.aload_n 2, 1) := by decide +kernel
theorem dL_law_374 : decode cL_law 374 = .ok (.aload_n 0, 1) := by decide +kernel
theorem dL_law_375 : decode cL_law 375 = .ok (.iload_n 3, 1) := by decide +kernel
theorem dL_law_376 : decode cL_law 376 = .ok (.iconst 1, 1) := by decide +kernel
theorem dL_law_377 : decode cL_law 377 = .ok (.iadd, 1) := by decide +kernel
theorem dL_law_378 : decode cL_law 378 = .ok (.iaload, 1) := by decide +kernel
theorem dL_law_379 : decode cL_law 379 = .ok (.invokevirtual 35, 3) := by decide +kernel
theorem dL_law_382 : decode cL_law 382 = .ok (.if_icmp .eq 1143, 3) := by decide +kernel
theorem dL_law_385 : decode cL_law 385 = .ok (.iconst 0, 1) := by decide +kernel
theorem dL_law_386 : decode cL_law 386 = .ok (.ireturn, 1) := by decide +kernel
theorem dL_law_387 : decode cL_law 387 = .ok (.aload_n 1, 1) := by decide +kernel
theorem dL_law_388 : decode cL_law 388 = .ok (.aload_n 0, 1) := by decide +kernel
theorem dL_law_389 : decode cL_law 389 = .ok (.iload_n 3, 1) := by decide +kernel
theorem dL_law_390 : decode cL_law 390 = .ok (.iconst 1, 1) := by decide +kernel
theorem dL_law_391 : decode cL_law 391 = .ok (.iadd, 1) := by decide +kernel
theorem dL_law_392 : decode cL_law 392 = .ok (.iaload, 1) := by decide +kernel
theorem dL_law_393 : decode cL_law 393 = .ok (.aload_n 0, 1) := by decide +kernel
theorem dL_law_394 : decode cL_law 394 = .ok (.iload_n 3, 1) := by decide +kernel
theorem dL_law_395 : decode cL_law 395 = .ok (.iconst 2, 1) := by decide +kernel
theorem dL_law_396 : decode cL_law 396 = .ok (.iadd, 1) := by decide +kernel
theorem dL_law_397 : decode cL_law 397 = .ok (.iaload, 1) := by decide +kernel
theorem dL_law_398 : decode cL_law 398 = .ok (.invokevirtual 36, 3) := by decide +kernel
theorem dL_law_401 : decode cL_law 401 = .ok (.aload_n 2, 1) := by decide +kernel
theorem dL_law_402 : decode cL_law 402 = .ok (.aload_n 0, 1) := by decide +kernel
theorem dL_law_403 : decode cL_law 403 = .ok (.iload_n 3, 1) := by decide +kernel
theorem dL_law_404 : decode cL_law 404 = .ok (.iconst 1, 1) := by decide +kernel
theorem dL_law_405 : decode cL_law 405 = .ok (.iadd, 1) := by decide +kernel
theorem dL_law_406 : decode cL_law 406 = .ok (.iaload, 1) := by decide +kernel
theorem dL_law_407 : decode cL_law 407 = .ok (.aload_n 0, 1) := by decide +kernel
theorem dL_law_408 : decode cL_law 408 = .ok (.iload_n 3, 1) := by decide +kernel
theorem dL_law_409 : decode cL_law 409 = .ok (.iconst 2, 1) := by decide +kernel
theorem dL_law_410 : decode cL_law 410 = .ok (.iadd, 1) := by decide +kernel
theorem dL_law_411 : decode cL_law 411 = .ok (.iaload, 1) := by decide +kernel
theorem dL_law_412 : decode cL_law 412 = .ok (.invokevirtual 39, 3) := by decide +kernel
theorem dL_law_415 : decode cL_law 415 = .ok (.if_icmp .eq 1110, 3) := by decide +kernel
theorem dL_law_418 : decode cL_law 418 = .ok (.iconst 0, 1) := by decide +kernel
theorem dL_law_419 : decode cL_law 419 = .ok (.ireturn, 1) := by decide +kernel
theorem dL_law_420 : decode cL_law 420 = .ok (.aload_n 1, 1) := by decide +kernel
theorem dL_law_421 : decode cL_law 421 = .ok (.aload_n 0, 1) := by decide +kernel
theorem dL_law_422 : decode cL_law 422 = .ok (.iload_n 3, 1) := by decide +kernel
theorem dL_law_423 : decode cL_law 423 = .ok (.iconst 1, 1) := by decide +kernel
theorem dL_law_424 : decode cL_law 424 = .ok (.iadd, 1) := by decide +kernel
theorem dL_law_425 : decode cL_law 425 = .ok (.iaload, 1) := by decide +kernel
theorem dL_law_426 : decode cL_law 426 = .ok (.aload_n 0, 1) := by decide +kernel
theorem dL_law_427 : decode cL_law 427 = .ok (.iload_n 3, 1) := by decide +kernel
theorem dL_law_428 : decode cL_law 428 = .ok (.iconst 2, 1) := by decide +kernel
theorem dL_law_429 : decode cL_law 429 = .ok (.iadd, 1) := by decide +kernel
theorem dL_law_430 : decode cL_law 430 = .ok (.iaload, 1) := by decide +kernel
theorem dL_law_431 : decode cL_law 431 = .ok (.invokevirtual 40, 3) := by decide +kernel
theorem dL_law_434 : decode cL_law 434 = .ok (.aload_n 2, 1) := by decide +kernel
theorem dL_law_435 : decode cL_law 435 = .ok (.aload_n 0, 1) := by decide +kernel
theorem dL_law_436 : decode cL_law 436 = .ok (.iload_n 3, 1) := by decide +kernel
theorem dL_law_437 : decode cL_law 437 = .ok (.iconst 1, 1) := by decide +kernel
theorem dL_law_438 : decode cL_law 438 = .ok (.iadd, 1) := by decide +kernel
theorem dL_law_439 : decode cL_law 439 = .ok (.iaload, 1) := by decide +kernel
theorem dL_law_440 : decode cL_law 440 = .ok (.aload_n 0, 1) := by decide +kernel
theorem dL_law_441 : decode cL_law 441 = .ok (.iload_n 3, 1) := by decide +kernel
theorem dL_law_442 : decode cL_law 442 = .ok (.iconst 2, 1) := by decide +kernel
theorem dL_law_443 : decode cL_law 443 = .ok (.iadd, 1) := by decide +kernel
theorem dL_law_444 : decode cL_law 444 = .ok (.iaload, 1) := by decide +kernel
theorem dL_law_445 : decode cL_law 445 = .ok (.invokevirtual 43, 3) := by decide +kernel
theorem dL_law_448 : decode cL_law 448 = .ok (.if_icmp .eq 1077, 3) := by decide +kernel
theorem dL_law_451 : decode cL_law 451 = .ok (.iconst 0, 1) := by decide +kernel
theorem dL_law_452 : decode cL_law 452 = .ok (.ireturn, 1) := by decide +kernel
theorem dL_law_453 : decode cL_law 453 = .ok (.aload_n 1, 1) := by decide +kernel
theorem dL_law_454 : decode cL_law 454 = .ok (.aload_n 0, 1) := by decide +kernel
theorem dL_law_455 : decode cL_law 455 = .ok (.iload_n 3, 1) := by decide +kernel
theorem dL_law_456 : decode cL_law 456 = .ok (.iconst 1, 1) := by decide +kernel
theorem dL_law_457 : decode cL_law 457 = .ok (.iadd, 1) := by decide +kernel
theorem dL_law_458 : decode cL_law 458 = .ok (.iaload, 1) := by decide +kernel
theorem dL_law_459 : decode cL_law 459 = .ok (.aload_n 0, 1) := by decide +kernel
theorem dL_law_460 : decode cL_law 460 = .ok (.iload_n 3, 1) := by decide +kernel
theorem dL_law_461 : decode cL_law 461 = .ok (.iconst 2, 1) := by decide +kernel
theorem dL_law_462 : decode cL_law 462 = .ok (.iadd, 1) := by decide +kernel
theorem dL_law_463 : decode cL_law 463 = .ok (.iaload, 1) := by decide +kernel
theorem dL_law_464 : decode cL_law 464 = .ok (.invokevirtual 44, 3) := by decide +kernel
theorem dL_law_467 : decode cL_law 467 = .ok (.aload_n 2, 1) := by decide +kernel
theorem dL_law_468 : decode cL_law 468 = .ok (.aload_n 0, 1) := by decide +kernel
theorem dL_law_469 : decode cL_law 469 = .ok (.iload_n 3, 1) := by decide +kernel
theorem dL_law_470 : decode cL_law 470 = .ok (.iconst 1, 1) := by decide +kernel
theorem dL_law_471 : decode cL_law 471 = .ok (.iadd, 1) := by decide +kernel
theorem dL_law_472 : decode cL_law 472 = .ok (.iaload, 1) := by decide +kernel
theorem dL_law_473 : decode cL_law 473 = .ok (.aload_n 0, 1) := by decide +kernel
theorem dL_law_474 : decode cL_law 474 = .ok (.iload_n 3, 1) := by decide +kernel
theorem dL_law_475 : decode cL_law 475 = .ok (.iconst 2, 1) := by decide +kernel
theorem dL_law_476 : decode cL_law 476 = .ok (.iadd, 1) := by decide +kernel
theorem dL_law_477 : decode cL_law 477 = .ok (.iaload, 1) := by decide +kernel
theorem dL_law_478 : decode cL_law 478 = .ok (.invokevirtual 47, 3) := by decide +kernel
theorem dL_law_481 : decode cL_law 481 = .ok (.if_icmp .eq 1044, 3) := by decide +kernel
theorem dL_law_484 : decode cL_law 484 = .ok (.iconst 0, 1) := by decide +kernel
theorem dL_law_485 : decode cL_law 485 = .ok (.ireturn, 1) := by decide +kernel
theorem dL_law_486 : decode cL_law 486 = .ok (.aload_n 1, 1) := by decide +kernel
theorem dL_law_487 : decode cL_law 487 = .ok (.aload_n 0, 1) := by decide +kernel
theorem dL_law_488 : decode cL_law 488 = .ok (.iload_n 3, 1) := by decide +kernel
theorem dL_law_489 : decode cL_law 489 = .ok (.iconst 1, 1) := by decide +kernel
theorem dL_law_490 : decode cL_law 490 = .ok (.iadd, 1) := by decide +kernel
theorem dL_law_491 : decode cL_law 491 = .ok (.iaload, 1) := by decide +kernel
theorem dL_law_492 : decode cL_law 492 = .ok (.aload_n 0, 1) := by decide +kernel
theorem dL_law_493 : decode cL_law 493 = .ok (.iload_n 3, 1) := by decide +kernel
theorem dL_law_494 : decode cL_law 494 = .ok (.iconst 2, 1) := by decide +kernel
theorem dL_law_495 : decode cL_law 495 = .ok (.iadd, 1) := by decide +kernel
theorem dL_law_496 : decode cL_law 496 = .ok (.iaload, 1) := by decide +kernel
theorem dL_law_497 : decode cL_law 497 = .ok (.invokevirtual 48, 3) := by decide +kernel
theorem dL_law_500 : decode cL_law 500 = .ok (.aload_n 2, 1) := by decide +kernel
theorem dL_law_501 : decode cL_law 501 = .ok (.aload_n 0, 1) := by decide +kernel
theorem dL_law_502 : decode cL_law 502 = .ok (.iload_n 3, 1) := by decide +kernel
theorem dL_law_503 : decode cL_law 503 = .ok (.iconst 1, 1) := by decide +kernel
theorem dL_law_504 : decode cL_law 504 = .ok (.iadd, 1) := by decide +kernel
theorem dL_law_505 : decode cL_law 505 = .ok (.iaload, 1) := by decide +kernel
theorem dL_law_506 : decode cL_law 506 = .ok (.aload_n 0, 1) := by decide +kernel
theorem dL_law_507 : decode cL_law 507 = .ok (.iload_n 3, 1) := by decide +kernel
theorem dL_law_508 : decode cL_law 508 = .ok (.iconst 2, 1) := by decide +kernel
theorem dL_law_509 : decode cL_law 509 = .ok (.iadd, 1) := by decide +kernel
theorem dL_law_510 : decode cL_law 510 = .ok (.iaload, 1) := by decide +kernel
theorem dL_law_511 : decode cL_law 511 = .ok (.invokevirtual 51, 3) := by decide +kernel
theorem dL_law_514 : decode cL_law 514 = .ok (.if_icmp .eq 1011, 3) := by decide +kernel
theorem dL_law_517 : decode cL_law 517 = .ok (.iconst 0, 1) := by decide +kernel
theorem dL_law_518 : decode cL_law 518 = .ok (.ireturn, 1) := by decide +kernel
theorem dL_law_519 : decode cL_law 519 = .ok (.aload_n 1, 1) := by decide +kernel
theorem dL_law_520 : decode cL_law 520 = .ok (.aload_n 0, 1) := by decide +kernel
theorem dL_law_521 : decode cL_law 521 = .ok (.iload_n 3, 1) := by decide +kernel
theorem dL_law_522 : decode cL_law 522 = .ok (.iconst 1, 1) := by decide +kernel
theorem dL_law_523 : decode cL_law 523 = .ok (.iadd, 1) := by decide +kernel
theorem dL_law_524 : decode cL_law 524 = .ok (.iaload, 1) := by decide +kernel
theorem dL_law_525 : decode cL_law 525 = .ok (.i2l, 1) := by decide +kernel
theorem dL_law_526 : decode cL_law 526 = .ok (.bipush 32, 2) := by decide +kernel
theorem dL_law_528 : decode cL_law 528 = .ok (.lshl, 1) := by decide +kernel
theorem dL_law_529 : decode cL_law 529 = .ok (.aload_n 0, 1) := by decide +kernel
theorem dL_law_530 : decode cL_law 530 = .ok (.iload_n 3, 1) := by decide +kernel
theorem dL_law_531 : decode cL_law 531 = .ok (.iconst 2, 1) := by decide +kernel
theorem dL_law_532 : decode cL_law 532 = .ok (.iadd, 1) := by decide +kernel
theorem dL_law_533 : decode cL_law 533 = .ok (.iaload, 1) := by decide +kernel
theorem dL_law_534 : decode cL_law 534 = .ok (.i2l, 1) := by decide +kernel
theorem dL_law_535 : decode cL_law 535 = .ok (.ldc2_w 52, 3) := by decide +kernel
theorem dL_law_538 : decode cL_law 538 = .ok (.land, 1) := by decide +kernel
theorem dL_law_539 : decode cL_law 539 = .ok (.lor, 1) := by decide +kernel
theorem dL_law_540 : decode cL_law 540 = .ok (.aload_n 0, 1) := by decide +kernel
theorem dL_law_541 : decode cL_law 541 = .ok (.iload_n 3, 1) := by decide +kernel
theorem dL_law_542 : decode cL_law 542 = .ok (.iconst 3, 1) := by decide +kernel
theorem dL_law_543 : decode cL_law 543 = .ok (.iadd, 1) := by decide +kernel
theorem dL_law_544 : decode cL_law 544 = .ok (.iaload, 1) := by decide +kernel
theorem dL_law_545 : decode cL_law 545 = .ok (.invokevirtual 54, 3) := by decide +kernel
theorem dL_law_548 : decode cL_law 548 = .ok (.aload_n 2, 1) := by decide +kernel
theorem dL_law_549 : decode cL_law 549 = .ok (.aload_n 0, 1) := by decide +kernel
theorem dL_law_550 : decode cL_law 550 = .ok (.iload_n 3, 1) := by decide +kernel
theorem dL_law_551 : decode cL_law 551 = .ok (.iconst 1, 1) := by decide +kernel
theorem dL_law_552 : decode cL_law 552 = .ok (.iadd, 1) := by decide +kernel
theorem dL_law_553 : decode cL_law 553 = .ok (.iaload, 1) := by decide +kernel
theorem dL_law_554 : decode cL_law 554 = .ok (.i2l, 1) := by decide +kernel
theorem dL_law_555 : decode cL_law 555 = .ok (.bipush 32, 2) := by decide +kernel
theorem dL_law_557 : decode cL_law 557 = .ok (.lshl, 1) := by decide +kernel
theorem dL_law_558 : decode cL_law 558 = .ok (.aload_n 0, 1) := by decide +kernel
theorem dL_law_559 : decode cL_law 559 = .ok (.iload_n 3, 1) := by decide +kernel
theorem dL_law_560 : decode cL_law 560 = .ok (.iconst 2, 1) := by decide +kernel
theorem dL_law_561 : decode cL_law 561 = .ok (.iadd, 1) := by decide +kernel
theorem dL_law_562 : decode cL_law 562 = .ok (.iaload, 1) := by decide +kernel
theorem dL_law_563 : decode cL_law 563 = .ok (.i2l, 1) := by decide +kernel
theorem dL_law_564 : decode cL_law 564 = .ok (.ldc2_w 52, 3) := by decide +kernel
theorem dL_law_567 : decode cL_law 567 = .ok (.land, 1) := by decide +kernel
theorem dL_law_568 : decode cL_law 568 = .ok (.lor, 1) := by decide +kernel
theorem dL_law_569 : decode cL_law 569 = .ok (.aload_n 0, 1) := by decide +kernel
theorem dL_law_570 : decode cL_law 570 = .ok (.iload_n 3, 1) := by decide +kernel
theorem dL_law_571 : decode cL_law 571 = .ok (.iconst 3, 1) := by decide +kernel
theorem dL_law_572 : decode cL_law 572 = .ok (.iadd, 1) := by decide +kernel
theorem dL_law_573 : decode cL_law 573 = .ok (.iaload, 1) := by decide +kernel
theorem dL_law_574 : decode cL_law 574 = .ok (.invokevirtual 58, 3) := by decide +kernel
theorem dL_law_577 : decode cL_law 577 = .ok (.if_icmp .eq 948, 3) := by decide +kernel
theorem dL_law_580 : decode cL_law 580 = .ok (.iconst 0, 1) := by decide +kernel
theorem dL_law_581 : decode cL_law 581 = .ok (.ireturn, 1) := by decide +kernel
theorem dL_law_582 : decode cL_law 582 = .ok (.aload_n 1, 1) := by decide +kernel
theorem dL_law_583 : decode cL_law 583 = .ok (.aload_n 0, 1) := by decide +kernel
theorem dL_law_584 : decode cL_law 584 = .ok (.iload_n 3, 1) := by decide +kernel
theorem dL_law_585 : decode cL_law 585 = .ok (.iconst 1, 1) := by decide +kernel
theorem dL_law_586 : decode cL_law 586 = .ok (.iadd, 1) := by decide +kernel
theorem dL_law_587 : decode cL_law 587 = .ok (.iaload, 1) := by decide +kernel
theorem dL_law_588 : decode cL_law 588 = .ok (.invokevirtual 59, 3) := by decide +kernel
theorem dL_law_591 : decode cL_law 591 = .ok (.aload_n 2, 1) := by decide +kernel
theorem dL_law_592 : decode cL_law 592 = .ok (.aload_n 0, 1) := by decide +kernel
theorem dL_law_593 : decode cL_law 593 = .ok (.iload_n 3, 1) := by decide +kernel
theorem dL_law_594 : decode cL_law 594 = .ok (.iconst 1, 1) := by decide +kernel
theorem dL_law_595 : decode cL_law 595 = .ok (.iadd, 1) := by decide +kernel
theorem dL_law_596 : decode cL_law 596 = .ok (.iaload, 1) := by decide +kernel
theorem dL_law_597 : decode cL_law 597 = .ok (.invokevirtual 62, 3) := by decide +kernel
theorem dL_law_600 : decode cL_law 600 = .ok (.if_icmp .eq 925, 3) := by decide +kernel
theorem dL_law_603 : decode cL_law 603 = .ok (.iconst 0, 1) := by decide +kernel
theorem dL_law_604 : decode cL_law 604 = .ok (.ireturn, 1) := by decide +kernel
theorem dL_law_605 : decode cL_law 605 = .ok (.aload_n 1, 1) := by decide +kernel
theorem dL_law_606 : decode cL_law 606 = .ok (.aload_n 0, 1) := by decide +kernel
theorem dL_law_607 : decode cL_law 607 = .ok (.iload_n 3, 1) := by decide +kernel
theorem dL_law_608 : decode cL_law 608 = .ok (.iconst 1, 1) := by decide +kernel
theorem dL_law_609 : decode cL_law 609 = .ok (.iadd, 1) := by decide +kernel
theorem dL_law_610 : decode cL_law 610 = .ok (.iaload, 1) := by decide +kernel
theorem dL_law_611 : decode cL_law 611 = .ok (.aload_n 0, 1) := by decide +kernel
theorem dL_law_612 : decode cL_law 612 = .ok (.iload_n 3, 1) := by decide +kernel
theorem dL_law_613 : decode cL_law 613 = .ok (.iconst 2, 1) := by decide +kernel
theorem dL_law_614 : decode cL_law 614 = .ok (.iadd, 1) := by decide +kernel
theorem dL_law_615 : decode cL_law 615 = .ok (.iaload, 1) := by decide +kernel
theorem dL_law_616 : decode cL_law 616 = .ok (.aload_n 0, 1) := by decide +kernel
theorem dL_law_617 : decode cL_law 617 = .ok (.iload_n 3, 1) := by decide +kernel
theorem dL_law_618 : decode cL_law 618 = .ok (.iconst 3, 1) := by decide +kernel
theorem dL_law_619 : decode cL_law 619 = .ok (.iadd, 1) := by decide +kernel
theorem dL_law_620 : decode cL_law 620 = .ok (.iaload, 1) := by decide +kernel
theorem dL_law_621 : decode cL_law 621 = .ok (.aload_n 0, 1) := by decide +kernel
theorem dL_law_622 : decode cL_law 622 = .ok (.iload_n 3, 1) := by decide +kernel
theorem dL_law_623 : decode cL_law 623 = .ok (.iconst 4, 1) := by decide +kernel
theorem dL_law_624 : decode cL_law 624 = .ok (.iadd, 1) := by decide +kernel
theorem dL_law_625 : decode cL_law 625 = .ok (.iaload, 1) := by decide +kernel
theorem dL_law_626 : decode cL_law 626 = .ok (.invokevirtual 63, 3) := by decide +kernel
theorem dL_law_629 : decode cL_law 629 = .ok (.aload_n 2, 1) := by decide +kernel
theorem dL_law_630 : decode cL_law 630 = .ok (.aload_n 0, 1) := by decide +kernel
theorem dL_law_631 : decode cL_law 631 = .ok (.iload_n 3, 1) := by decide +kernel
theorem dL_law_632 : decode cL_law 632 = .ok (.iconst 1, 1) := by decide +kernel
theorem dL_law_633 : decode cL_law 633 = .ok (.iadd, 1) := by decide +kernel
theorem dL_law_634 : decode cL_law 634 = .ok (.iaload, 1) := by decide +kernel
theorem dL_law_635 : decode cL_law 635 = .ok (.aload_n 0, 1) := by decide +kernel
theorem dL_law_636 : decode cL_law 636 = .ok (.iload_n 3, 1) := by decide +kernel
theorem dL_law_637 : decode cL_law 637 = .ok (.iconst 2, 1) := by decide +kernel
theorem dL_law_638 : decode cL_law 638 = .ok (.iadd, 1) := by decide +kernel
theorem dL_law_639 : decode cL_law 639 = .ok (.iaload, 1) := by decide +kernel
theorem dL_law_640 : decode cL_law 640 = .ok (.aload_n 0, 1) := by decide +kernel
theorem dL_law_641 : decode cL_law 641 = .ok (.iload_n 3, 1) := by decide +kernel
theorem dL_law_642 : decode cL_law 642 = .ok (.iconst 3, 1) := by decide +kernel
theorem dL_law_643 : decode cL_law 643 = .ok (.iadd, 1) := by decide +kernel
theorem dL_law_644 : decode cL_law 644 = .ok (.iaload, 1) := by decide +kernel
theorem dL_law_645 : decode cL_law 645 = .ok (.aload_n 0, 1) := by decide +kernel
theorem dL_law_646 : decode cL_law 646 = .ok (.iload_n 3, 1) := by decide +kernel
theorem dL_law_647 : decode cL_law 647 = .ok (.iconst 4, 1) := by decide +kernel
theorem dL_law_648 : decode cL_law 648 = .ok (.iadd, 1) := by decide +kernel
theorem dL_law_649 : decode cL_law 649 = .ok (.iaload, 1) := by decide +kernel
theorem dL_law_650 : decode cL_law 650 = .ok (.invokevirtual 67, 3) := by decide +kernel
theorem dL_law_653 : decode cL_law 653 = .ok (.if_icmp .eq 872, 3) := by decide +kernel
theorem dL_law_656 : decode cL_law 656 = .ok (.iconst 0, 1) := by decide +kernel
theorem dL_law_657 : decode cL_law 657 = .ok (.ireturn, 1) := by decide +kernel
theorem dL_law_658 : decode cL_law 658 = .ok (.aload_n 1, 1) := by decide +kernel
theorem dL_law_659 : decode cL_law 659 = .ok (.aload_n 0, 1) := by decide +kernel
theorem dL_law_660 : decode cL_law 660 = .ok (.iload_n 3, 1) := by decide +kernel
theorem dL_law_661 : decode cL_law 661 = .ok (.iconst 1, 1) := by decide +kernel
theorem dL_law_662 : decode cL_law 662 = .ok (.iadd, 1) := by decide +kernel
theorem dL_law_663 : decode cL_law 663 = .ok (.iaload, 1) := by decide +kernel
theorem dL_law_664 : decode cL_law 664 = .ok (.invokevirtual 68, 3) := by decide +kernel
theorem dL_law_667 : decode cL_law 667 = .ok (.aload_n 2, 1) := by decide +kernel
theorem dL_law_668 : decode cL_law 668 = .ok (.aload_n 0, 1) := by decide +kernel
theorem dL_law_669 : decode cL_law 669 = .ok (.iload_n 3, 1) := by decide +kernel
theorem dL_law_670 : decode cL_law 670 = .ok (.iconst 1, 1) := by decide +kernel
theorem dL_law_671 : decode cL_law 671 = .ok (.iadd, 1) := by decide +kernel
theorem dL_law_672 : decode cL_law 672 = .ok (.iaload, 1) := by decide +kernel
theorem dL_law_673 : decode cL_law 673 = .ok (.invokevirtual 71, 3) := by decide +kernel
theorem dL_law_676 : decode cL_law 676 = .ok (.if_icmp .eq 849, 3) := by decide +kernel
theorem dL_law_679 : decode cL_law 679 = .ok (.iconst 0, 1) := by decide +kernel
theorem dL_law_680 : decode cL_law 680 = .ok (.ireturn, 1) := by decide +kernel
theorem dL_law_681 : decode cL_law 681 = .ok (.aload_n 1, 1) := by decide +kernel
theorem dL_law_682 : decode cL_law 682 = .ok (.aload_n 0, 1) := by decide +kernel
theorem dL_law_683 : decode cL_law 683 = .ok (.iload_n 3, 1) := by decide +kernel
theorem dL_law_684 : decode cL_law 684 = .ok (.iconst 1, 1) := by decide +kernel
theorem dL_law_685 : decode cL_law 685 = .ok (.iadd, 1) := by decide +kernel
theorem dL_law_686 : decode cL_law 686 = .ok (.iaload, 1) := by decide +kernel
theorem dL_law_687 : decode cL_law 687 = .ok (.aload_n 0, 1) := by decide +kernel
theorem dL_law_688 : decode cL_law 688 = .ok (.iload_n 3, 1) := by decide +kernel
theorem dL_law_689 : decode cL_law 689 = .ok (.iconst 2, 1) := by decide +kernel
theorem dL_law_690 : decode cL_law 690 = .ok (.iadd, 1) := by decide +kernel
theorem dL_law_691 : decode cL_law 691 = .ok (.iaload, 1) := by decide +kernel
theorem dL_law_692 : decode cL_law 692 = .ok (.invokevirtual 72, 3) := by decide +kernel
theorem dL_law_695 : decode cL_law 695 = .ok (.aload_n 2, 1) := by decide +kernel
theorem dL_law_696 : decode cL_law 696 = .ok (.aload_n 0, 1) := by decide +kernel
theorem dL_law_697 : decode cL_law 697 = .ok (.iload_n 3, 1) := by decide +kernel
theorem dL_law_698 : decode cL_law 698 = .ok (.iconst 1, 1) := by decide +kernel
theorem dL_law_699 : decode cL_law 699 = .ok (.iadd, 1) := by decide +kernel
theorem dL_law_700 : decode cL_law 700 = .ok (.iaload, 1) := by decide +kernel
theorem dL_law_701 : decode cL_law 701 = .ok (.aload_n 0, 1) := by decide +kernel
theorem dL_law_702 : decode cL_law 702 = .ok (.iload_n 3, 1) := by decide +kernel
theorem dL_law_703 : decode cL_law 703 = .ok (.iconst 2, 1) := by decide +kernel
theorem dL_law_704 : decode cL_law 704 = .ok (.iadd, 1) := by decide +kernel
theorem dL_law_705 : decode cL_law 705 = .ok (.iaload, 1) := by decide +kernel
theorem dL_law_706 : decode cL_law 706 = .ok (.invokevirtual 75, 3) := by decide +kernel
theorem dL_law_709 : decode cL_law 709 = .ok (.if_icmp .eq 816, 3) := by decide +kernel
theorem dL_law_712 : decode cL_law 712 = .ok (.iconst 0, 1) := by decide +kernel
theorem dL_law_713 : decode cL_law 713 = .ok (.ireturn, 1) := by decide +kernel
theorem dL_law_714 : decode cL_law 714 = .ok (.aload_n 1, 1) := by decide +kernel
theorem dL_law_715 : decode cL_law 715 = .ok (.aload_n 0, 1) := by decide +kernel
theorem dL_law_716 : decode cL_law 716 = .ok (.iload_n 3, 1) := by decide +kernel
theorem dL_law_717 : decode cL_law 717 = .ok (.iconst 1, 1) := by decide +kernel
theorem dL_law_718 : decode cL_law 718 = .ok (.iadd, 1) := by decide +kernel
theorem dL_law_719 : decode cL_law 719 = .ok (.iaload, 1) := by decide +kernel
theorem dL_law_720 : decode cL_law 720 = .ok (.aload_n 0, 1) := by decide +kernel
theorem dL_law_721 : decode cL_law 721 = .ok (.iload_n 3, 1) := by decide +kernel
theorem dL_law_722 : decode cL_law 722 = .ok (.iconst 2, 1) := by decide +kernel
theorem dL_law_723 : decode cL_law 723 = .ok (.iadd, 1) := by decide +kernel
theorem dL_law_724 : decode cL_law 724 = .ok (.iaload, 1) := by decide +kernel
theorem dL_law_725 : decode cL_law 725 = .ok (.aload_n 0, 1) := by decide +kernel
theorem dL_law_726 : decode cL_law 726 = .ok (.iload_n 3, 1) := by decide +kernel
theorem dL_law_727 : decode cL_law 727 = .ok (.iconst 3, 1) := by decide +kernel
theorem dL_law_728 : decode cL_law 728 = .ok (.iadd, 1) := by decide +kernel
theorem dL_law_729 : decode cL_law 729 = .ok (.iaload, 1) := by decide +kernel
theorem dL_law_730 : decode cL_law 730 = .ok (.invokevirtual 76, 3) := by decide +kernel
theorem dL_law_733 : decode cL_law 733 = .ok (.aload_n 2, 1) := by decide +kernel
theorem dL_law_734 : decode cL_law 734 = .ok (.aload_n 0, 1) := by decide +kernel
theorem dL_law_735 : decode cL_law 735 = .ok (.iload_n 3, 1) := by decide +kernel
theorem dL_law_736 : decode cL_law 736 = .ok (.iconst 1, 1) := by decide +kernel
theorem dL_law_737 : decode cL_law 737 = .ok (.iadd, 1) := by decide +kernel
theorem dL_law_738 : decode cL_law 738 = .ok (.iaload, 1) := by decide +kernel
theorem dL_law_739 : decode cL_law 739 = .ok (.aload_n 0, 1) := by decide +kernel
theorem dL_law_740 : decode cL_law 740 = .ok (.iload_n 3, 1) := by decide +kernel
theorem dL_law_741 : decode cL_law 741 = .ok (.iconst 2, 1) := by decide +kernel
theorem dL_law_742 : decode cL_law 742 = .ok (.iadd, 1) := by decide +kernel
theorem dL_law_743 : decode cL_law 743 = .ok (.iaload, 1) := by decide +kernel
theorem dL_law_744 : decode cL_law 744 = .ok (.aload_n 0, 1) := by decide +kernel
theorem dL_law_745 : decode cL_law 745 = .ok (.iload_n 3, 1) := by decide +kernel
theorem dL_law_746 : decode cL_law 746 = .ok (.iconst 3, 1) := by decide +kernel
theorem dL_law_747 : decode cL_law 747 = .ok (.iadd, 1) := by decide +kernel
theorem dL_law_748 : decode cL_law 748 = .ok (.iaload, 1) := by decide +kernel
theorem dL_law_749 : decode cL_law 749 = .ok (.invokevirtual 79, 3) := by decide +kernel
theorem dL_law_752 : decode cL_law 752 = .ok (.if_icmp .eq 773, 3) := by decide +kernel
theorem dL_law_755 : decode cL_law 755 = .ok (.iconst 0, 1) := by decide +kernel
theorem dL_law_756 : decode cL_law 756 = .ok (.ireturn, 1) := by decide +kernel
theorem dL_law_757 : decode cL_law 757 = .ok (.aload_n 1, 1) := by decide +kernel
theorem dL_law_758 : decode cL_law 758 = .ok (.aload_n 0, 1) := by decide +kernel
theorem dL_law_759 : decode cL_law 759 = .ok (.iload_n 3, 1) := by decide +kernel
theorem dL_law_760 : decode cL_law 760 = .ok (.iconst 1, 1) := by decide +kernel
theorem dL_law_761 : decode cL_law 761 = .ok (.iadd, 1) := by decide +kernel
theorem dL_law_762 : decode cL_law 762 = .ok (.iaload, 1) := by decide +kernel
theorem dL_law_763 : decode cL_law 763 = .ok (.invokevirtual 80, 3) := by decide +kernel
theorem dL_law_766 : decode cL_law 766 = .ok (.aload_n 2, 1) := by decide +kernel
theorem dL_law_767 : decode cL_law 767 = .ok (.aload_n 0, 1) := by decide +kernel
theorem dL_law_768 : decode cL_law 768 = .ok (.iload_n 3, 1) := by decide +kernel
theorem dL_law_769 : decode cL_law 769 = .ok (.iconst 1, 1) := by decide +kernel
theorem dL_law_770 : decode cL_law 770 = .ok (.iadd, 1) := by decide +kernel
theorem dL_law_771 : decode cL_law 771 = .ok (.iaload, 1) := by decide +kernel
theorem dL_law_772 : decode cL_law 772 = .ok (.invokevirtual 83, 3) := by decide +kernel
theorem dL_law_775 : decode cL_law 775 = .ok (.if_icmp .eq 750, 3) := by decide +kernel
theorem dL_law_778 : decode cL_law 778 = .ok (.iconst 0, 1) := by decide +kernel
theorem dL_law_779 : decode cL_law 779 = .ok (.ireturn, 1) := by decide +kernel
theorem dL_law_780 : decode cL_law 780 = .ok (.aload_n 1, 1) := by decide +kernel
theorem dL_law_781 : decode cL_law 781 = .ok (.aload_n 0, 1) := by decide +kernel
theorem dL_law_782 : decode cL_law 782 = .ok (.iload_n 3, 1) := by decide +kernel
theorem dL_law_783 : decode cL_law 783 = .ok (.iconst 1, 1) := by decide +kernel
theorem dL_law_784 : decode cL_law 784 = .ok (.iadd, 1) := by decide +kernel
theorem dL_law_785 : decode cL_law 785 = .ok (.iaload, 1) := by decide +kernel
theorem dL_law_786 : decode cL_law 786 = .ok (.invokevirtual 84, 3) := by decide +kernel
theorem dL_law_789 : decode cL_law 789 = .ok (.aload_n 2, 1) := by decide +kernel
theorem dL_law_790 : decode cL_law 790 = .ok (.aload_n 0, 1) := by decide +kernel
theorem dL_law_791 : decode cL_law 791 = .ok (.iload_n 3, 1) := by decide +kernel
theorem dL_law_792 : decode cL_law 792 = .ok (.iconst 1, 1) := by decide +kernel
theorem dL_law_793 : decode cL_law 793 = .ok (.iadd, 1) := by decide +kernel
theorem dL_law_794 : decode cL_law 794 = .ok (.iaload, 1) := by decide +kernel
theorem dL_law_795 : decode cL_law 795 = .ok (.invokevirtual 87, 3) := by decide +kernel
theorem dL_law_798 : decode cL_law 798 = .ok (.if_icmp .eq 727, 3) := by decide +kernel
theorem dL_law_801 : decode cL_law 801 = .ok (.iconst 0, 1) := by decide +kernel
theorem dL_law_802 : decode cL_law 802 = .ok (.ireturn, 1) := by decide +kernel
theorem dL_law_803 : decode cL_law 803 = .ok (.aload_n 1, 1) := by decide +kernel
theorem dL_law_804 : decode cL_law 804 = .ok (.invokevirtual 88, 3) := by decide +kernel
theorem dL_law_807 : decode cL_law 807 = .ok (.aload_n 2, 1) := by decide +kernel
theorem dL_law_808 : decode cL_law 808 = .ok (.invokevirtual 92, 3) := by decide +kernel
theorem dL_law_811 : decode cL_law 811 = .ok (.if_icmp .eq 714, 3) := by decide +kernel
theorem dL_law_814 : decode cL_law 814 = .ok (.iconst 0, 1) := by decide +kernel
theorem dL_law_815 : decode cL_law 815 = .ok (.ireturn, 1) := by decide +kernel
theorem dL_law_816 : decode cL_law 816 = .ok (.aload_n 1, 1) := by decide +kernel
theorem dL_law_817 : decode cL_law 817 = .ok (.aload_n 0, 1) := by decide +kernel
theorem dL_law_818 : decode cL_law 818 = .ok (.iload_n 3, 1) := by decide +kernel
theorem dL_law_819 : decode cL_law 819 = .ok (.iconst 1, 1) := by decide +kernel
theorem dL_law_820 : decode cL_law 820 = .ok (.iadd, 1) := by decide +kernel
theorem dL_law_821 : decode cL_law 821 = .ok (.iaload, 1) := by decide +kernel
theorem dL_law_822 : decode cL_law 822 = .ok (.aload_n 0, 1) := by decide +kernel
theorem dL_law_823 : decode cL_law 823 = .ok (.iload_n 3, 1) := by decide +kernel
theorem dL_law_824 : decode cL_law 824 = .ok (.iconst 2, 1) := by decide +kernel
theorem dL_law_825 : decode cL_law 825 = .ok (.iadd, 1) := by decide +kernel
theorem dL_law_826 : decode cL_law 826 = .ok (.iaload, 1) := by decide +kernel
theorem dL_law_827 : decode cL_law 827 = .ok (.aload_n 0, 1) := by decide +kernel
theorem dL_law_828 : decode cL_law 828 = .ok (.iload_n 3, 1) := by decide +kernel
theorem dL_law_829 : decode cL_law 829 = .ok (.iconst 3, 1) := by decide +kernel
theorem dL_law_830 : decode cL_law 830 = .ok (.iadd, 1) := by decide +kernel
theorem dL_law_831 : decode cL_law 831 = .ok (.iaload, 1) := by decide +kernel
theorem dL_law_832 : decode cL_law 832 = .ok (.invokevirtual 93, 3) := by decide +kernel
theorem dL_law_835 : decode cL_law 835 = .ok (.aload_n 2, 1) := by decide +kernel
theorem dL_law_836 : decode cL_law 836 = .ok (.aload_n 0, 1) := by decide +kernel
theorem dL_law_837 : decode cL_law 837 = .ok (.iload_n 3, 1) := by decide +kernel
theorem dL_law_838 : decode cL_law 838 = .ok (.iconst 1, 1) := by decide +kernel
theorem dL_law_839 : decode cL_law 839 = .ok (.iadd, 1) := by decide +kernel
theorem dL_law_840 : decode cL_law 840 = .ok (.iaload, 1) := by decide +kernel
theorem dL_law_841 : decode cL_law 841 = .ok (.aload_n 0, 1) := by decide +kernel
theorem dL_law_842 : decode cL_law 842 = .ok (.iload_n 3, 1) := by decide +kernel
theorem dL_law_843 : decode cL_law 843 = .ok (.iconst 2, 1) := by decide +kernel
theorem dL_law_844 : decode cL_law 844 = .ok (.iadd, 1) := by decide +kernel
theorem dL_law_845 : decode cL_law 845 = .ok (.iaload, 1) := by decide +kernel
theorem dL_law_846 : decode cL_law 846 = .ok (.aload_n 0, 1) := by decide +kernel
theorem dL_law_847 : decode cL_law 847 = .ok (.iload_n 3, 1) := by decide +kernel
theorem dL_law_848 : decode cL_law 848 = .ok (.iconst 3, 1) := by decide +kernel
theorem dL_law_849 : decode cL_law 849 = .ok (.iadd, 1) := by decide +kernel
theorem dL_law_850 : decode cL_law 850 = .ok (.iaload, 1) := by decide +kernel
theorem dL_law_851 : decode cL_law 851 = .ok (.invokevirtual 96, 3) := by decide +kernel
theorem dL_law_854 : decode cL_law 854 = .ok (.if_icmp .eq 671, 3) := by decide +kernel
theorem dL_law_857 : decode cL_law 857 = .ok (.iconst 0, 1) := by decide +kernel
theorem dL_law_858 : decode cL_law 858 = .ok (.ireturn, 1) := by decide +kernel
theorem dL_law_859 : decode cL_law 859 = .ok (.aload_n 1, 1) := by decide +kernel
theorem dL_law_860 : decode cL_law 860 = .ok (.aload_n 0, 1) := by decide +kernel
theorem dL_law_861 : decode cL_law 861 = .ok (.iload_n 3, 1) := by decide +kernel
theorem dL_law_862 : decode cL_law 862 = .ok (.iconst 1, 1) := by decide +kernel
theorem dL_law_863 : decode cL_law 863 = .ok (.iadd, 1) := by decide +kernel
theorem dL_law_864 : decode cL_law 864 = .ok (.iaload, 1) := by decide +kernel
theorem dL_law_865 : decode cL_law 865 = .ok (.aload_n 0, 1) := by decide +kernel
theorem dL_law_866 : decode cL_law 866 = .ok (.iload_n 3, 1) := by decide +kernel
theorem dL_law_867 : decode cL_law 867 = .ok (.iconst 2, 1) := by decide +kernel
theorem dL_law_868 : decode cL_law 868 = .ok (.iadd, 1) := by decide +kernel
theorem dL_law_869 : decode cL_law 869 = .ok (.iaload, 1) := by decide +kernel
theorem dL_law_870 : decode cL_law 870 = .ok (.aload_n 0, 1) := by decide +kernel
theorem dL_law_871 : decode cL_law 871 = .ok (.iload_n 3, 1) := by decide +kernel
theorem dL_law_872 : decode cL_law 872 = .ok (.iconst 3, 1) := by decide +kernel
theorem dL_law_873 : decode cL_law 873 = .ok (.iadd, 1) := by decide +kernel
theorem dL_law_874 : decode cL_law 874 = .ok (.iaload, 1) := by decide +kernel
theorem dL_law_875 : decode cL_law 875 = .ok (.invokevirtual 97, 3) := by decide +kernel
theorem dL_law_878 : decode cL_law 878 = .ok (.aload_n 2, 1) := by decide +kernel
theorem dL_law_879 : decode cL_law 879 = .ok (.aload_n 0, 1) := by decide +kernel
theorem dL_law_880 : decode cL_law 880 = .ok (.iload_n 3, 1) := by decide +kernel
theorem dL_law_881 : decode cL_law 881 = .ok (.iconst 1, 1) := by decide +kernel
theorem dL_law_882 : decode cL_law 882 = .ok (.iadd, 1) := by decide +kernel
theorem dL_law_883 : decode cL_law 883 = .ok (.iaload, 1) := by decide +kernel
theorem dL_law_884 : decode cL_law 884 = .ok (.aload_n 0, 1) := by decide +kernel
theorem dL_law_885 : decode cL_law 885 = .ok (.iload_n 3, 1) := by decide +kernel
theorem dL_law_886 : decode cL_law 886 = .ok (.iconst 2, 1) := by decide +kernel
theorem dL_law_887 : decode cL_law 887 = .ok (.iadd, 1) := by decide +kernel
theorem dL_law_888 : decode cL_law 888 = .ok (.iaload, 1) := by decide +kernel
theorem dL_law_889 : decode cL_law 889 = .ok (.aload_n 0, 1) := by decide +kernel
theorem dL_law_890 : decode cL_law 890 = .ok (.iload_n 3, 1) := by decide +kernel
theorem dL_law_891 : decode cL_law 891 = .ok (.iconst 3, 1) := by decide +kernel
theorem dL_law_892 : decode cL_law 892 = .ok (.iadd, 1) := by decide +kernel
theorem dL_law_893 : decode cL_law 893 = .ok (.iaload, 1) := by decide +kernel
theorem dL_law_894 : decode cL_law 894 = .ok (.invokevirtual 100, 3) := by decide +kernel
theorem dL_law_897 : decode cL_law 897 = .ok (.if_icmp .eq 628, 3) := by decide +kernel
theorem dL_law_900 : decode cL_law 900 = .ok (.iconst 0, 1) := by decide +kernel
theorem dL_law_901 : decode cL_law 901 = .ok (.ireturn, 1) := by decide +kernel
theorem dL_law_902 : decode cL_law 902 = .ok (.aload_n 1, 1) := by decide +kernel
theorem dL_law_903 : decode cL_law 903 = .ok (.aload_n 0, 1) := by decide +kernel
theorem dL_law_904 : decode cL_law 904 = .ok (.iload_n 3, 1) := by decide +kernel
theorem dL_law_905 : decode cL_law 905 = .ok (.iconst 1, 1) := by decide +kernel
theorem dL_law_906 : decode cL_law 906 = .ok (.iadd, 1) := by decide +kernel
theorem dL_law_907 : decode cL_law 907 = .ok (.iaload, 1) := by decide +kernel
theorem dL_law_908 : decode cL_law 908 = .ok (.aload_n 0, 1) := by decide +kernel
theorem dL_law_909 : decode cL_law 909 = .ok (.iload_n 3, 1) := by decide +kernel
theorem dL_law_910 : decode cL_law 910 = .ok (.iconst 2, 1) := by decide +kernel
theorem dL_law_911 : decode cL_law 911 = .ok (.iadd, 1) := by decide +kernel
theorem dL_law_912 : decode cL_law 912 = .ok (.iaload, 1) := by decide +kernel
theorem dL_law_913 : decode cL_law 913 = .ok (.aload_n 0, 1) := by decide +kernel
theorem dL_law_914 : decode cL_law 914 = .ok (.iload_n 3, 1) := by decide +kernel
theorem dL_law_915 : decode cL_law 915 = .ok (.iconst 3, 1) := by decide +kernel
theorem dL_law_916 : decode cL_law 916 = .ok (.iadd, 1) := by decide +kernel
theorem dL_law_917 : decode cL_law 917 = .ok (.iaload, 1) := by decide +kernel
theorem dL_law_918 : decode cL_law 918 = .ok (.invokevirtual 101, 3) := by decide +kernel
theorem dL_law_921 : decode cL_law 921 = .ok (.aload_n 2, 1) := by decide +kernel
theorem dL_law_922 : decode cL_law 922 = .ok (.aload_n 0, 1) := by decide +kernel
theorem dL_law_923 : decode cL_law 923 = .ok (.iload_n 3, 1) := by decide +kernel
theorem dL_law_924 : decode cL_law 924 = .ok (.iconst 1, 1) := by decide +kernel
theorem dL_law_925 : decode cL_law 925 = .ok (.iadd, 1) := by decide +kernel
theorem dL_law_926 : decode cL_law 926 = .ok (.iaload, 1) := by decide +kernel
theorem dL_law_927 : decode cL_law 927 = .ok (.aload_n 0, 1) := by decide +kernel
theorem dL_law_928 : decode cL_law 928 = .ok (.iload_n 3, 1) := by decide +kernel
theorem dL_law_929 : decode cL_law 929 = .ok (.iconst 2, 1) := by decide +kernel
theorem dL_law_930 : decode cL_law 930 = .ok (.iadd, 1) := by decide +kernel
theorem dL_law_931 : decode cL_law 931 = .ok (.iaload, 1) := by decide +kernel
theorem dL_law_932 : decode cL_law 932 = .ok (.aload_n 0, 1) := by decide +kernel
theorem dL_law_933 : decode cL_law 933 = .ok (.iload_n 3, 1) := by decide +kernel
theorem dL_law_934 : decode cL_law 934 = .ok (.iconst 3, 1) := by decide +kernel
theorem dL_law_935 : decode cL_law 935 = .ok (.iadd, 1) := by decide +kernel
theorem dL_law_936 : decode cL_law 936 = .ok (.iaload, 1) := by decide +kernel
theorem dL_law_937 : decode cL_law 937 = .ok (.invokevirtual 104, 3) := by decide +kernel
theorem dL_law_940 : decode cL_law 940 = .ok (.if_icmp .eq 585, 3) := by decide +kernel
theorem dL_law_943 : decode cL_law 943 = .ok (.iconst 0, 1) := by decide +kernel
theorem dL_law_944 : decode cL_law 944 = .ok (.ireturn, 1) := by decide +kernel
theorem dL_law_945 : decode cL_law 945 = .ok (.aload_n 1, 1) := by decide +kernel
theorem dL_law_946 : decode cL_law 946 = .ok (.aload_n 0, 1) := by decide +kernel
theorem dL_law_947 : decode cL_law 947 = .ok (.iload_n 3, 1) := by decide +kernel
theorem dL_law_948 : decode cL_law 948 = .ok (.iconst 1, 1) := by decide +kernel
theorem dL_law_949 : decode cL_law 949 = .ok (.iadd, 1) := by decide +kernel
theorem dL_law_950 : decode cL_law 950 = .ok (.iaload, 1) := by decide +kernel
theorem dL_law_951 : decode cL_law 951 = .ok (.aload_n 0, 1) := by decide +kernel
theorem dL_law_952 : decode cL_law 952 = .ok (.iload_n 3, 1) := by decide +kernel
theorem dL_law_953 : decode cL_law 953 = .ok (.iconst 2, 1) := by decide +kernel
theorem dL_law_954 : decode cL_law 954 = .ok (.iadd, 1) := by decide +kernel
theorem dL_law_955 : decode cL_law 955 = .ok (.iaload, 1) := by decide +kernel
theorem dL_law_956 : decode cL_law 956 = .ok (.invokevirtual 105, 3) := by decide +kernel
theorem dL_law_959 : decode cL_law 959 = .ok (.aload_n 2, 1) := by decide +kernel
theorem dL_law_960 : decode cL_law 960 = .ok (.aload_n 0, 1) := by decide +kernel
theorem dL_law_961 : decode cL_law 961 = .ok (.iload_n 3, 1) := by decide +kernel
theorem dL_law_962 : decode cL_law 962 = .ok (.iconst 1, 1) := by decide +kernel
theorem dL_law_963 : decode cL_law 963 = .ok (.iadd, 1) := by decide +kernel
theorem dL_law_964 : decode cL_law 964 = .ok (.iaload, 1) := by decide +kernel
theorem dL_law_965 : decode cL_law 965 = .ok (.aload_n 0, 1) := by decide +kernel
theorem dL_law_966 : decode cL_law 966 = .ok (.iload_n 3, 1) := by decide +kernel
theorem dL_law_967 : decode cL_law 967 = .ok (.iconst 2, 1) := by decide +kernel
theorem dL_law_968 : decode cL_law 968 = .ok (.iadd, 1) := by decide +kernel
theorem dL_law_969 : decode cL_law 969 = .ok (.iaload, 1) := by decide +kernel
theorem dL_law_970 : decode cL_law 970 = .ok (.invokevirtual 108, 3) := by decide +kernel
theorem dL_law_973 : decode cL_law 973 = .ok (.if_icmp .eq 552, 3) := by decide +kernel
theorem dL_law_976 : decode cL_law 976 = .ok (.iconst 0, 1) := by decide +kernel
theorem dL_law_977 : decode cL_law 977 = .ok (.ireturn, 1) := by decide +kernel
theorem dL_law_978 : decode cL_law 978 = .ok (.aload_n 1, 1) := by decide +kernel
theorem dL_law_979 : decode cL_law 979 = .ok (.invokevirtual 109, 3) := by decide +kernel
theorem dL_law_982 : decode cL_law 982 = .ok (.aload_n 2, 1) := by decide +kernel
theorem dL_law_983 : decode cL_law 983 = .ok (.invokevirtual 112, 3) := by decide +kernel
theorem dL_law_986 : decode cL_law 986 = .ok (.if_icmp .eq 539, 3) := by decide +kernel
theorem dL_law_989 : decode cL_law 989 = .ok (.iconst 0, 1) := by decide +kernel
theorem dL_law_990 : decode cL_law 990 = .ok (.ireturn, 1) := by decide +kernel
theorem dL_law_991 : decode cL_law 991 = .ok (.aload_n 1, 1) := by decide +kernel
theorem dL_law_992 : decode cL_law 992 = .ok (.aload_n 0, 1) := by decide +kernel
theorem dL_law_993 : decode cL_law 993 = .ok (.iload_n 3, 1) := by decide +kernel
theorem dL_law_994 : decode cL_law 994 = .ok (.iconst 1, 1) := by decide +kernel
theorem dL_law_995 : decode cL_law 995 = .ok (.iadd, 1) := by decide +kernel
theorem dL_law_996 : decode cL_law 996 = .ok (.iaload, 1) := by decide +kernel
theorem dL_law_997 : decode cL_law 997 = .ok (.aload_n 0, 1) := by decide +kernel
theorem dL_law_998 : decode cL_law 998 = .ok (.iload_n 3, 1) := by decide +kernel
theorem dL_law_999 : decode cL_law 999 = .ok (.iconst 2, 1) := by decide +kernel
theorem dL_law_1000 : decode cL_law 1000 = .ok (.iadd, 1) := by decide +kernel
theorem dL_law_1001 : decode cL_law 1001 = .ok (.iaload, 1) := by decide +kernel
theorem dL_law_1002 : decode cL_law 1002 = .ok (.invokevirtual 113, 3) := by decide +kernel
theorem dL_law_1005 : decode cL_law 1005 = .ok (.aload_n 2, 1) := by decide +kernel
theorem dL_law_1006 : decode cL_law 1006 = .ok (.aload_n 0, 1) := by decide +kernel
theorem dL_law_1007 : decode cL_law 1007 = .ok (.iload_n 3, 1) := by decide +kernel
theorem dL_law_1008 : decode cL_law 1008 = .ok (.iconst 1, 1) := by decide +kernel
theorem dL_law_1009 : decode cL_law 1009 = .ok (.iadd, 1) := by decide +kernel
theorem dL_law_1010 : decode cL_law 1010 = .ok (.iaload, 1) := by decide +kernel
theorem dL_law_1011 : decode cL_law 1011 = .ok (.aload_n 0, 1) := by decide +kernel
theorem dL_law_1012 : decode cL_law 1012 = .ok (.iload_n 3, 1) := by decide +kernel
theorem dL_law_1013 : decode cL_law 1013 = .ok (.iconst 2, 1) := by decide +kernel
theorem dL_law_1014 : decode cL_law 1014 = .ok (.iadd, 1) := by decide +kernel
theorem dL_law_1015 : decode cL_law 1015 = .ok (.iaload, 1) := by decide +kernel
theorem dL_law_1016 : decode cL_law 1016 = .ok (.invokevirtual 116, 3) := by decide +kernel
theorem dL_law_1019 : decode cL_law 1019 = .ok (.if_icmp .eq 506, 3) := by decide +kernel
theorem dL_law_1022 : decode cL_law 1022 = .ok (.iconst 0, 1) := by decide +kernel
theorem dL_law_1023 : decode cL_law 1023 = .ok (.ireturn, 1) := by decide +kernel
theorem dL_law_1024 : decode cL_law 1024 = .ok (.aload_n 1, 1) := by decide +kernel
theorem dL_law_1025 : decode cL_law 1025 = .ok (.aload_n 0, 1) := by decide +kernel
theorem dL_law_1026 : decode cL_law 1026 = .ok (.iload_n 3, 1) := by decide +kernel
theorem dL_law_1027 : decode cL_law 1027 = .ok (.iconst 1, 1) := by decide +kernel
theorem dL_law_1028 : decode cL_law 1028 = .ok (.iadd, 1) := by decide +kernel
theorem dL_law_1029 : decode cL_law 1029 = .ok (.iaload, 1) := by decide +kernel
theorem dL_law_1030 : decode cL_law 1030 = .ok (.invokevirtual 117, 3) := by decide +kernel
theorem dL_law_1033 : decode cL_law 1033 = .ok (.aload_n 2, 1) := by decide +kernel
theorem dL_law_1034 : decode cL_law 1034 = .ok (.aload_n 0, 1) := by decide +kernel
theorem dL_law_1035 : decode cL_law 1035 = .ok (.iload_n 3, 1) := by decide +kernel
theorem dL_law_1036 : decode cL_law 1036 = .ok (.iconst 1, 1) := by decide +kernel
theorem dL_law_1037 : decode cL_law 1037 = .ok (.iadd, 1) := by decide +kernel
theorem dL_law_1038 : decode cL_law 1038 = .ok (.iaload, 1) := by decide +kernel
theorem dL_law_1039 : decode cL_law 1039 = .ok (.invokevirtual 120, 3) := by decide +kernel
theorem dL_law_1042 : decode cL_law 1042 = .ok (.if_icmp .eq 483, 3) := by decide +kernel
theorem dL_law_1045 : decode cL_law 1045 = .ok (.iconst 0, 1) := by decide +kernel
theorem dL_law_1046 : decode cL_law 1046 = .ok (.ireturn, 1) := by decide +kernel
theorem dL_law_1047 : decode cL_law 1047 = .ok (.aload_n 1, 1) := by decide +kernel
theorem dL_law_1048 : decode cL_law 1048 = .ok (.aload_n 0, 1) := by decide +kernel
theorem dL_law_1049 : decode cL_law 1049 = .ok (.iload_n 3, 1) := by decide +kernel
theorem dL_law_1050 : decode cL_law 1050 = .ok (.iconst 1, 1) := by decide +kernel
theorem dL_law_1051 : decode cL_law 1051 = .ok (.iadd, 1) := by decide +kernel
theorem dL_law_1052 : decode cL_law 1052 = .ok (.iaload, 1) := by decide +kernel
theorem dL_law_1053 : decode cL_law 1053 = .ok (.aload_n 0, 1) := by decide +kernel
theorem dL_law_1054 : decode cL_law 1054 = .ok (.iload_n 3, 1) := by decide +kernel
theorem dL_law_1055 : decode cL_law 1055 = .ok (.iconst 2, 1) := by decide +kernel
theorem dL_law_1056 : decode cL_law 1056 = .ok (.iadd, 1) := by decide +kernel
theorem dL_law_1057 : decode cL_law 1057 = .ok (.iaload, 1) := by decide +kernel
theorem dL_law_1058 : decode cL_law 1058 = .ok (.aload_n 0, 1) := by decide +kernel
theorem dL_law_1059 : decode cL_law 1059 = .ok (.iload_n 3, 1) := by decide +kernel
theorem dL_law_1060 : decode cL_law 1060 = .ok (.iconst 3, 1) := by decide +kernel
theorem dL_law_1061 : decode cL_law 1061 = .ok (.iadd, 1) := by decide +kernel
theorem dL_law_1062 : decode cL_law 1062 = .ok (.iaload, 1) := by decide +kernel
theorem dL_law_1063 : decode cL_law 1063 = .ok (.invokevirtual 121, 3) := by decide +kernel
theorem dL_law_1066 : decode cL_law 1066 = .ok (.aload_n 2, 1) := by decide +kernel
theorem dL_law_1067 : decode cL_law 1067 = .ok (.aload_n 0, 1) := by decide +kernel
theorem dL_law_1068 : decode cL_law 1068 = .ok (.iload_n 3, 1) := by decide +kernel
theorem dL_law_1069 : decode cL_law 1069 = .ok (.iconst 1, 1) := by decide +kernel
theorem dL_law_1070 : decode cL_law 1070 = .ok (.iadd, 1) := by decide +kernel
theorem dL_law_1071 : decode cL_law 1071 = .ok (.iaload, 1) := by decide +kernel
theorem dL_law_1072 : decode cL_law 1072 = .ok (.aload_n 0, 1) := by decide +kernel
theorem dL_law_1073 : decode cL_law 1073 = .ok (.iload_n 3, 1) := by decide +kernel
theorem dL_law_1074 : decode cL_law 1074 = .ok (.iconst 2, 1) := by decide +kernel
theorem dL_law_1075 : decode cL_law 1075 = .ok (.iadd, 1) := by decide +kernel
theorem dL_law_1076 : decode cL_law 1076 = .ok (.iaload, 1) := by decide +kernel
theorem dL_law_1077 : decode cL_law 1077 = .ok (.aload_n 0, 1) := by decide +kernel
theorem dL_law_1078 : decode cL_law 1078 = .ok (.iload_n 3, 1) := by decide +kernel
theorem dL_law_1079 : decode cL_law 1079 = .ok (.iconst 3, 1) := by decide +kernel
theorem dL_law_1080 : decode cL_law 1080 = .ok (.iadd, 1) := by decide +kernel
theorem dL_law_1081 : decode cL_law 1081 = .ok (.iaload, 1) := by decide +kernel
theorem dL_law_1082 : decode cL_law 1082 = .ok (.invokevirtual 124, 3) := by decide +kernel
theorem dL_law_1085 : decode cL_law 1085 = .ok (.if_icmp .eq 440, 3) := by decide +kernel
theorem dL_law_1088 : decode cL_law 1088 = .ok (.iconst 0, 1) := by decide +kernel
theorem dL_law_1089 : decode cL_law 1089 = .ok (.ireturn, 1) := by decide +kernel
theorem dL_law_1090 : decode cL_law 1090 = .ok (.aload_n 1, 1) := by decide +kernel
theorem dL_law_1091 : decode cL_law 1091 = .ok (.aload_n 0, 1) := by decide +kernel
theorem dL_law_1092 : decode cL_law 1092 = .ok (.iload_n 3, 1) := by decide +kernel
theorem dL_law_1093 : decode cL_law 1093 = .ok (.iconst 1, 1) := by decide +kernel
theorem dL_law_1094 : decode cL_law 1094 = .ok (.iadd, 1) := by decide +kernel
theorem dL_law_1095 : decode cL_law 1095 = .ok (.iaload, 1) := by decide +kernel
theorem dL_law_1096 : decode cL_law 1096 = .ok (.aload_n 0, 1) := by decide +kernel
theorem dL_law_1097 : decode cL_law 1097 = .ok (.iload_n 3, 1) := by decide +kernel
theorem dL_law_1098 : decode cL_law 1098 = .ok (.iconst 2, 1) := by decide +kernel
theorem dL_law_1099 : decode cL_law 1099 = .ok (.iadd, 1) := by decide +kernel
theorem dL_law_1100 : decode cL_law 1100 = .ok (.iaload, 1) := by decide +kernel
theorem dL_law_1101 : decode cL_law 1101 = .ok (.aload_n 0, 1) := by decide +kernel
theorem dL_law_1102 : decode cL_law 1102 = .ok (.iload_n 3, 1) := by decide +kernel
theorem dL_law_1103 : decode cL_law 1103 = .ok (.iconst 3, 1) := by decide +kernel
theorem dL_law_1104 : decode cL_law 1104 = .ok (.iadd, 1) := by decide +kernel
theorem dL_law_1105 : decode cL_law 1105 = .ok (.iaload, 1) := by decide +kernel
theorem dL_law_1106 : decode cL_law 1106 = .ok (.invokevirtual 125, 3) := by decide +kernel
theorem dL_law_1109 : decode cL_law 1109 = .ok (.aload_n 2, 1) := by decide +kernel
theorem dL_law_1110 : decode cL_law 1110 = .ok (.aload_n 0, 1) := by decide +kernel
theorem dL_law_1111 : decode cL_law 1111 = .ok (.iload_n 3, 1) := by decide +kernel
theorem dL_law_1112 : decode cL_law 1112 = .ok (.iconst 1, 1) := by decide +kernel
theorem dL_law_1113 : decode cL_law 1113 = .ok (.iadd, 1) := by decide +kernel
theorem dL_law_1114 : decode cL_law 1114 = .ok (.iaload, 1) := by decide +kernel
theorem dL_law_1115 : decode cL_law 1115 = .ok (.aload_n 0, 1) := by decide +kernel
theorem dL_law_1116 : decode cL_law 1116 = .ok (.iload_n 3, 1) := by decide +kernel
theorem dL_law_1117 : decode cL_law 1117 = .ok (.iconst 2, 1) := by decide +kernel
theorem dL_law_1118 : decode cL_law 1118 = .ok (.iadd, 1) := by decide +kernel
theorem dL_law_1119 : decode cL_law 1119 = .ok (.iaload, 1) := by decide +kernel
theorem dL_law_1120 : decode cL_law 1120 = .ok (.aload_n 0, 1) := by decide +kernel
theorem dL_law_1121 : decode cL_law 1121 = .ok (.iload_n 3, 1) := by decide +kernel
theorem dL_law_1122 : decode cL_law 1122 = .ok (.iconst 3, 1) := by decide +kernel
theorem dL_law_1123 : decode cL_law 1123 = .ok (.iadd, 1) := by decide +kernel
theorem dL_law_1124 : decode cL_law 1124 = .ok (.iaload, 1) := by decide +kernel
theorem dL_law_1125 : decode cL_law 1125 = .ok (.invokevirtual 128, 3) := by decide +kernel
theorem dL_law_1128 : decode cL_law 1128 = .ok (.if_icmp .eq 397, 3) := by decide +kernel
theorem dL_law_1131 : decode cL_law 1131 = .ok (.iconst 0, 1) := by decide +kernel
theorem dL_law_1132 : decode cL_law 1132 = .ok (.ireturn, 1) := by decide +kernel
theorem dL_law_1133 : decode cL_law 1133 = .ok (.aload_n 1, 1) := by decide +kernel
theorem dL_law_1134 : decode cL_law 1134 = .ok (.aload_n 0, 1) := by decide +kernel
theorem dL_law_1135 : decode cL_law 1135 = .ok (.iload_n 3, 1) := by decide +kernel
theorem dL_law_1136 : decode cL_law 1136 = .ok (.iconst 1, 1) := by decide +kernel
theorem dL_law_1137 : decode cL_law 1137 = .ok (.iadd, 1) := by decide +kernel
theorem dL_law_1138 : decode cL_law 1138 = .ok (.iaload, 1) := by decide +kernel
theorem dL_law_1139 : decode cL_law 1139 = .ok (.invokevirtual 129, 3) := by decide +kernel
theorem dL_law_1142 : decode cL_law 1142 = .ok (.aload_n 2, 1) := by decide +kernel
theorem dL_law_1143 : decode cL_law 1143 = .ok (.aload_n 0, 1) := by decide +kernel
theorem dL_law_1144 : decode cL_law 1144 = .ok (.iload_n 3, 1) := by decide +kernel
theorem dL_law_1145 : decode cL_law 1145 = .ok (.iconst 1, 1) := by decide +kernel
theorem dL_law_1146 : decode cL_law 1146 = .ok (.iadd, 1) := by decide +kernel
theorem dL_law_1147 : decode cL_law 1147 = .ok (.iaload, 1) := by decide +kernel
theorem dL_law_1148 : decode cL_law 1148 = .ok (.invokevirtual 132, 3) := by decide +kernel
theorem dL_law_1151 : decode cL_law 1151 = .ok (.if_icmp .eq 374, 3) := by decide +kernel
theorem dL_law_1154 : decode cL_law 1154 = .ok (.iconst 0, 1) := by decide +kernel
theorem dL_law_1155 : decode cL_law 1155 = .ok (.ireturn, 1) := by decide +kernel
theorem dL_law_1156 : decode cL_law 1156 = .ok (.aload_n 1, 1) := by decide +kernel
theorem dL_law_1157 : decode cL_law 1157 = .ok (.aload_n 0, 1) := by decide +kernel
theorem dL_law_1158 : decode cL_law 1158 = .ok (.iload_n 3, 1) := by decide +kernel
theorem dL_law_1159 : decode cL_law 1159 = .ok (.iconst 1, 1) := by decide +kernel
theorem dL_law_1160 : decode cL_law 1160 = .ok (.iadd, 1) := by decide +kernel
theorem dL_law_1161 : decode cL_law 1161 = .ok (.iaload, 1) := by decide +kernel
theorem dL_law_1162 : decode cL_law 1162 = .ok (.aload_n 0, 1) := by decide +kernel
theorem dL_law_1163 : decode cL_law 1163 = .ok (.iload_n 3, 1) := by decide +kernel
theorem dL_law_1164 : decode cL_law 1164 = .ok (.iconst 2, 1) := by decide +kernel
theorem dL_law_1165 : decode cL_law 1165 = .ok (.iadd, 1) := by decide +kernel
theorem dL_law_1166 : decode cL_law 1166 = .ok (.iaload, 1) := by decide +kernel
theorem dL_law_1167 : decode cL_law 1167 = .ok (.aload_n 0, 1) := by decide +kernel
theorem dL_law_1168 : decode cL_law 1168 = .ok (.iload_n 3, 1) := by decide +kernel
theorem dL_law_1169 : decode cL_law 1169 = .ok (.iconst 3, 1) := by decide +kernel
theorem dL_law_1170 : decode cL_law 1170 = .ok (.iadd, 1) := by decide +kernel
theorem dL_law_1171 : decode cL_law 1171 = .ok (.iaload, 1) := by decide +kernel
theorem dL_law_1172 : decode cL_law 1172 = .ok (.invokevirtual 133, 3) := by decide +kernel
theorem dL_law_1175 : decode cL_law 1175 = .ok (.aload_n 2, 1) := by decide +kernel
theorem dL_law_1176 : decode cL_law 1176 = .ok (.aload_n 0, 1) := by decide +kernel
theorem dL_law_1177 : decode cL_law 1177 = .ok (.iload_n 3, 1) := by decide +kernel
theorem dL_law_1178 : decode cL_law 1178 = .ok (.iconst 1, 1) := by decide +kernel
theorem dL_law_1179 : decode cL_law 1179 = .ok (.iadd, 1) := by decide +kernel
theorem dL_law_1180 : decode cL_law 1180 = .ok (.iaload, 1) := by decide +kernel
theorem dL_law_1181 : decode cL_law 1181 = .ok (.aload_n 0, 1) := by decide +kernel
theorem dL_law_1182 : decode cL_law 1182 = .ok (.iload_n 3, 1) := by decide +kernel
theorem dL_law_1183 : decode cL_law 1183 = .ok (.iconst 2, 1) := by decide +kernel
theorem dL_law_1184 : decode cL_law 1184 = .ok (.iadd, 1) := by decide +kernel
theorem dL_law_1185 : decode cL_law 1185 = .ok (.iaload, 1) := by decide +kernel
theorem dL_law_1186 : decode cL_law 1186 = .ok (.aload_n 0, 1) := by decide +kernel
theorem dL_law_1187 : decode cL_law 1187 = .ok (.iload_n 3, 1) := by decide +kernel
theorem dL_law_1188 : decode cL_law 1188 = .ok (.iconst 3, 1) := by decide +kernel
theorem dL_law_1189 : decode cL_law 1189 = .ok (.iadd, 1) := by decide +kernel
theorem dL_law_1190 : decode cL_law 1190 = .ok (.iaload, 1) := by decide +kernel
theorem dL_law_1191 : decode cL_law 1191 = .ok (.invokevirtual 136, 3) := by decide +kernel
theorem dL_law_1194 : decode cL_law 1194 = .ok (.if_icmp .eq 331, 3) := by decide +kernel
theorem dL_law_1197 : decode cL_law 1197 = .ok (.iconst 0, 1) := by decide +kernel
theorem dL_law_1198 : decode cL_law 1198 = .ok (.ireturn, 1) := by decide +kernel
theorem dL_law_1199 : decode cL_law 1199 = .ok (.aload_n 1, 1) := by decide +kernel
theorem dL_law_1200 : decode cL_law 1200 = .ok (.aload_n 0, 1) := by decide +kernel
theorem dL_law_1201 : decode cL_law 1201 = .ok (.iload_n 3, 1) := by decide +kernel
theorem dL_law_1202 : decode cL_law 1202 = .ok (.iconst 1, 1) := by decide +kernel
theorem dL_law_1203 : decode cL_law 1203 = .ok (.iadd, 1) := by decide +kernel
theorem dL_law_1204 : decode cL_law 1204 = .ok (.iaload, 1) := by decide +kernel
theorem dL_law_1205 : decode cL_law 1205 = .ok (.invokevirtual 137, 3) := by decide +kernel
theorem dL_law_1208 : decode cL_law 1208 = .ok (.aload_n 2, 1) := by decide +kernel
theorem dL_law_1209 : decode cL_law 1209 = .ok (.aload_n 0, 1) := by decide +kernel
theorem dL_law_1210 : decode cL_law 1210 = .ok (.iload_n 3, 1) := by decide +kernel
theorem dL_law_1211 : decode cL_law 1211 = .ok (.iconst 1, 1) := by decide +kernel
theorem dL_law_1212 : decode cL_law 1212 = .ok (.iadd, 1) := by decide +kernel
theorem dL_law_1213 : decode cL_law 1213 = .ok (.iaload, 1) := by decide +kernel
theorem dL_law_1214 : decode cL_law 1214 = .ok (.invokevirtual 140, 3) := by decide +kernel
theorem dL_law_1217 : decode cL_law 1217 = .ok (.if_icmp .eq 308, 3) := by decide +kernel
theorem dL_law_1220 : decode cL_law 1220 = .ok (.iconst 0, 1) := by decide +kernel
theorem dL_law_1221 : decode cL_law 1221 = .ok (.ireturn, 1) := by decide +kernel
theorem dL_law_1222 : decode cL_law 1222 = .ok (.aload_n 1, 1) := by decide +kernel
theorem dL_law_1223 : decode cL_law 1223 = .ok (.aload_n 0, 1) := by decide +kernel
theorem dL_law_1224 : decode cL_law 1224 = .ok (.iload_n 3, 1) := by decide +kernel
theorem dL_law_1225 : decode cL_law 1225 = .ok (.iconst 1, 1) := by decide +kernel
theorem dL_law_1226 : decode cL_law 1226 = .ok (.iadd, 1) := by decide +kernel
theorem dL_law_1227 : decode cL_law 1227 = .ok (.iaload, 1) := by decide +kernel
theorem dL_law_1228 : decode cL_law 1228 = .ok (.aload_n 0, 1) := by decide +kernel
theorem dL_law_1229 : decode cL_law 1229 = .ok (.iload_n 3, 1) := by decide +kernel
theorem dL_law_1230 : decode cL_law 1230 = .ok (.iconst 2, 1) := by decide +kernel
theorem dL_law_1231 : decode cL_law 1231 = .ok (.iadd, 1) := by decide +kernel
theorem dL_law_1232 : decode cL_law 1232 = .ok (.iaload, 1) := by decide +kernel
theorem dL_law_1233 : decode cL_law 1233 = .ok (.aload_n 0, 1) := by decide +kernel
theorem dL_law_1234 : decode cL_law 1234 = .ok (.iload_n 3, 1) := by decide +kernel
theorem dL_law_1235 : decode cL_law 1235 = .ok (.iconst 3, 1) := by decide +kernel
theorem dL_law_1236 : decode cL_law 1236 = .ok (.iadd, 1) := by decide +kernel
theorem dL_law_1237 : decode cL_law 1237 = .ok (.iaload, 1) := by decide +kernel
theorem dL_law_1238 : decode cL_law 1238 = .ok (.invokevirtual 141, 3) := by decide +kernel
theorem dL_law_1241 : decode cL_law 1241 = .ok (.aload_n 2, 1) := by decide +kernel
theorem dL_law_1242 : decode cL_law 1242 = .ok (.aload_n 0, 1) := by decide +kernel
theorem dL_law_1243 : decode cL_law 1243 = .ok (.iload_n 3, 1) := by decide +kernel
theorem dL_law_1244 : decode cL_law 1244 = .ok (.iconst 1, 1) := by decide +kernel
theorem dL_law_1245 : decode cL_law 1245 = .ok (.iadd, 1) := by decide +kernel
theorem dL_law_1246 : decode cL_law 1246 = .ok (.iaload, 1) := by decide +kernel
theorem dL_law_1247 : decode cL_law 1247 = .ok (.aload_n 0, 1) := by decide +kernel
theorem dL_law_1248 : decode cL_law 1248 = .ok (.iload_n 3, 1) := by decide +kernel
theorem dL_law_1249 : decode cL_law 1249 = .ok (.iconst 2, 1) := by decide +kernel
theorem dL_law_1250 : decode cL_law 1250 = .ok (.iadd, 1) := by decide +kernel
theorem dL_law_1251 : decode cL_law 1251 = .ok (.iaload, 1) := by decide +kernel
theorem dL_law_1252 : decode cL_law 1252 = .ok (.aload_n 0, 1) := by decide +kernel
theorem dL_law_1253 : decode cL_law 1253 = .ok (.iload_n 3, 1) := by decide +kernel
theorem dL_law_1254 : decode cL_law 1254 = .ok (.iconst 3, 1) := by decide +kernel
theorem dL_law_1255 : decode cL_law 1255 = .ok (.iadd, 1) := by decide +kernel
theorem dL_law_1256 : decode cL_law 1256 = .ok (.iaload, 1) := by decide +kernel
theorem dL_law_1257 : decode cL_law 1257 = .ok (.invokevirtual 144, 3) := by decide +kernel
theorem dL_law_1260 : decode cL_law 1260 = .ok (.if_icmp .eq 265, 3) := by decide +kernel
theorem dL_law_1263 : decode cL_law 1263 = .ok (.iconst 0, 1) := by decide +kernel
theorem dL_law_1264 : decode cL_law 1264 = .ok (.ireturn, 1) := by decide +kernel
theorem dL_law_1265 : decode cL_law 1265 = .ok (.aload_n 1, 1) := by decide +kernel
theorem dL_law_1266 : decode cL_law 1266 = .ok (.aload_n 0, 1) := by decide +kernel
theorem dL_law_1267 : decode cL_law 1267 = .ok (.iload_n 3, 1) := by decide +kernel
theorem dL_law_1268 : decode cL_law 1268 = .ok (.iconst 1, 1) := by decide +kernel
theorem dL_law_1269 : decode cL_law 1269 = .ok (.iadd, 1) := by decide +kernel
theorem dL_law_1270 : decode cL_law 1270 = .ok (.iaload, 1) := by decide +kernel
theorem dL_law_1271 : decode cL_law 1271 = .ok (.aload_n 0, 1) := by decide +kernel
theorem dL_law_1272 : decode cL_law 1272 = .ok (.iload_n 3, 1) := by decide +kernel
theorem dL_law_1273 : decode cL_law 1273 = .ok (.iconst 2, 1) := by decide +kernel
theorem dL_law_1274 : decode cL_law 1274 = .ok (.iadd, 1) := by decide +kernel
theorem dL_law_1275 : decode cL_law 1275 = .ok (.iaload, 1) := by decide +kernel
theorem dL_law_1276 : decode cL_law 1276 = .ok (.aload_n 0, 1) := by decide +kernel
theorem dL_law_1277 : decode cL_law 1277 = .ok (.iload_n 3, 1) := by decide +kernel
theorem dL_law_1278 : decode cL_law 1278 = .ok (.iconst 3, 1) := by decide +kernel
theorem dL_law_1279 : decode cL_law 1279 = .ok (.iadd, 1) := by decide +kernel
theorem dL_law_1280 : decode cL_law 1280 = .ok (.iaload, 1) := by decide +kernel
theorem dL_law_1281 : decode cL_law 1281 = .ok (.invokevirtual 145, 3) := by decide +kernel
theorem dL_law_1284 : decode cL_law 1284 = .ok (.aload_n 2, 1) := by decide +kernel
theorem dL_law_1285 : decode cL_law 1285 = .ok (.aload_n 0, 1) := by decide +kernel
theorem dL_law_1286 : decode cL_law 1286 = .ok (.iload_n 3, 1) := by decide +kernel
theorem dL_law_1287 : decode cL_law 1287 = .ok (.iconst 1, 1) := by decide +kernel
theorem dL_law_1288 : decode cL_law 1288 = .ok (.iadd, 1) := by decide +kernel
theorem dL_law_1289 : decode cL_law 1289 = .ok (.iaload, 1) := by decide +kernel
theorem dL_law_1290 : decode cL_law 1290 = .ok (.aload_n 0, 1) := by decide +kernel
theorem dL_law_1291 : decode cL_law 1291 = .ok (.iload_n 3, 1) := by decide +kernel
theorem dL_law_1292 : decode cL_law 1292 = .ok (.iconst 2, 1) := by decide +kernel
theorem dL_law_1293 : decode cL_law 1293 = .ok (.iadd, 1) := by decide +kernel
theorem dL_law_1294 : decode cL_law 1294 = .ok (.iaload, 1) := by decide +kernel
theorem dL_law_1295 : decode cL_law 1295 = .ok (.aload_n 0, 1) := by decide +kernel
theorem dL_law_1296 : decode cL_law 1296 = .ok (.iload_n 3, 1) := by decide +kernel
theorem dL_law_1297 : decode cL_law 1297 = .ok (.iconst 3, 1) := by decide +kernel
theorem dL_law_1298 : decode cL_law 1298 = .ok (.iadd, 1) := by decide +kernel
theorem dL_law_1299 : decode cL_law 1299 = .ok (.iaload, 1) := by decide +kernel
theorem dL_law_1300 : decode cL_law 1300 = .ok (.invokevirtual 148, 3) := by decide +kernel
theorem dL_law_1303 : decode cL_law 1303 = .ok (.if_icmp .eq 222, 3) := by decide +kernel
theorem dL_law_1306 : decode cL_law 1306 = .ok (.iconst 0, 1) := by decide +kernel
theorem dL_law_1307 : decode cL_law 1307 = .ok (.ireturn, 1) := by decide +kernel
theorem dL_law_1308 : decode cL_law 1308 = .ok (.aload_n 1, 1) := by decide +kernel
theorem dL_law_1309 : decode cL_law 1309 = .ok (.aload_n 0, 1) := by decide +kernel
theorem dL_law_1310 : decode cL_law 1310 = .ok (.iload_n 3, 1) := by decide +kernel
theorem dL_law_1311 : decode cL_law 1311 = .ok (.iconst 1, 1) := by decide +kernel
theorem dL_law_1312 : decode cL_law 1312 = .ok (.iadd, 1) := by decide +kernel
theorem dL_law_1313 : decode cL_law 1313 = .ok (.iaload, 1) := by decide +kernel
theorem dL_law_1314 : decode cL_law 1314 = .ok (.aload_n 0, 1) := by decide +kernel
theorem dL_law_1315 : decode cL_law 1315 = .ok (.iload_n 3, 1) := by decide +kernel
theorem dL_law_1316 : decode cL_law 1316 = .ok (.iconst 2, 1) := by decide +kernel
theorem dL_law_1317 : decode cL_law 1317 = .ok (.iadd, 1) := by decide +kernel
theorem dL_law_1318 : decode cL_law 1318 = .ok (.iaload, 1) := by decide +kernel
theorem dL_law_1319 : decode cL_law 1319 = .ok (.aload_n 0, 1) := by decide +kernel
theorem dL_law_1320 : decode cL_law 1320 = .ok (.iload_n 3, 1) := by decide +kernel
theorem dL_law_1321 : decode cL_law 1321 = .ok (.iconst 3, 1) := by decide +kernel
theorem dL_law_1322 : decode cL_law 1322 = .ok (.iadd, 1) := by decide +kernel
theorem dL_law_1323 : decode cL_law 1323 = .ok (.iaload, 1) := by decide +kernel
theorem dL_law_1324 : decode cL_law 1324 = .ok (.aload_n 0, 1) := by decide +kernel
theorem dL_law_1325 : decode cL_law 1325 = .ok (.iload_n 3, 1) := by decide +kernel
theorem dL_law_1326 : decode cL_law 1326 = .ok (.iconst 4, 1) := by decide +kernel
theorem dL_law_1327 : decode cL_law 1327 = .ok (.iadd, 1) := by decide +kernel
theorem dL_law_1328 : decode cL_law 1328 = .ok (.iaload, 1) := by decide +kernel
theorem dL_law_1329 : decode cL_law 1329 = .ok (.aload_n 0, 1) := by decide +kernel
theorem dL_law_1330 : decode cL_law 1330 = .ok (.iload_n 3, 1) := by decide +kernel
theorem dL_law_1331 : decode cL_law 1331 = .ok (.iconst 5, 1) := by decide +kernel
theorem dL_law_1332 : decode cL_law 1332 = .ok (.iadd, 1) := by decide +kernel
theorem dL_law_1333 : decode cL_law 1333 = .ok (.iaload, 1) := by decide +kernel
theorem dL_law_1334 : decode cL_law 1334 = .ok (.invokevirtual 149, 3) := by decide +kernel
theorem dL_law_1337 : decode cL_law 1337 = .ok (.aload_n 2, 1) := by decide +kernel
theorem dL_law_1338 : decode cL_law 1338 = .ok (.aload_n 0, 1) := by decide +kernel
theorem dL_law_1339 : decode cL_law 1339 = .ok (.iload_n 3, 1) := by decide +kernel
theorem dL_law_1340 : decode cL_law 1340 = .ok (.iconst 1, 1) := by decide +kernel
theorem dL_law_1341 : decode cL_law 1341 = .ok (.iadd, 1) := by decide +kernel
theorem dL_law_1342 : decode cL_law 1342 = .ok (.iaload, 1) := by decide +kernel
theorem dL_law_1343 : decode cL_law 1343 = .ok (.aload_n 0, 1) := by decide +kernel
theorem dL_law_1344 : decode cL_law 1344 = .ok (.iload_n 3, 1) := by decide +kernel
theorem dL_law_1345 : decode cL_law 1345 = .ok (.iconst 2, 1) := by decide +kernel
theorem dL_law_1346 : decode cL_law 1346 = .ok (.iadd, 1) := by decide +kernel
theorem dL_law_1347 : decode cL_law 1347 = .ok (.iaload, 1) := by decide +kernel
theorem dL_law_1348 : decode cL_law 1348 = .ok (.aload_n 0, 1) := by decide +kernel
theorem dL_law_1349 : decode cL_law 1349 = .ok (.iload_n 3, 1) := by decide +kernel
theorem dL_law_1350 : decode cL_law 1350 = .ok (.iconst 3, 1) := by decide +kernel
theorem dL_law_1351 : decode cL_law 1351 = .ok (.iadd, 1) := by decide +kernel
theorem dL_law_1352 : decode cL_law 1352 = .ok (.iaload, 1) := by decide +kernel
theorem dL_law_1353 : decode cL_law 1353 = .ok (.aload_n 0, 1) := by decide +kernel
theorem dL_law_1354 : decode cL_law 1354 = .ok (.iload_n 3, 1) := by decide +kernel
theorem dL_law_1355 : decode cL_law 1355 = .ok (.iconst 4, 1) := by decide +kernel
theorem dL_law_1356 : decode cL_law 1356 = .ok (.iadd, 1) := by decide +kernel
theorem dL_law_1357 : decode cL_law 1357 = .ok (.iaload, 1) := by decide +kernel
theorem dL_law_1358 : decode cL_law 1358 = .ok (.aload_n 0, 1) := by decide +kernel
theorem dL_law_1359 : decode cL_law 1359 = .ok (.iload_n 3, 1) := by decide +kernel
theorem dL_law_1360 : decode cL_law 1360 = .ok (.iconst 5, 1) := by decide +kernel
theorem dL_law_1361 : decode cL_law 1361 = .ok (.iadd, 1) := by decide +kernel
theorem dL_law_1362 : decode cL_law 1362 = .ok (.iaload, 1) := by decide +kernel
theorem dL_law_1363 : decode cL_law 1363 = .ok (.invokevirtual 153, 3) := by decide +kernel
theorem dL_law_1366 : decode cL_law 1366 = .ok (.if_icmp .eq 159, 3) := by decide +kernel
theorem dL_law_1369 : decode cL_law 1369 = .ok (.iconst 0, 1) := by decide +kernel
theorem dL_law_1370 : decode cL_law 1370 = .ok (.ireturn, 1) := by decide +kernel
theorem dL_law_1371 : decode cL_law 1371 = .ok (.aload_n 1, 1) := by decide +kernel
theorem dL_law_1372 : decode cL_law 1372 = .ok (.aload_n 0, 1) := by decide +kernel
theorem dL_law_1373 : decode cL_law 1373 = .ok (.iload_n 3, 1) := by decide +kernel
theorem dL_law_1374 : decode cL_law 1374 = .ok (.iconst 1, 1) := by decide +kernel
theorem dL_law_1375 : decode cL_law 1375 = .ok (.iadd, 1) := by decide +kernel
theorem dL_law_1376 : decode cL_law 1376 = .ok (.iaload, 1) := by decide +kernel
theorem dL_law_1377 : decode cL_law 1377 = .ok (.invokevirtual 154, 3) := by decide +kernel
theorem dL_law_1380 : decode cL_law 1380 = .ok (.aload_n 2, 1) := by decide +kernel
theorem dL_law_1381 : decode cL_law 1381 = .ok (.aload_n 0, 1) := by decide +kernel
theorem dL_law_1382 : decode cL_law 1382 = .ok (.iload_n 3, 1) := by decide +kernel
theorem dL_law_1383 : decode cL_law 1383 = .ok (.iconst 1, 1) := by decide +kernel
theorem dL_law_1384 : decode cL_law 1384 = .ok (.iadd, 1) := by decide +kernel
theorem dL_law_1385 : decode cL_law 1385 = .ok (.iaload, 1) := by decide +kernel
theorem dL_law_1386 : decode cL_law 1386 = .ok (.invokevirtual 157, 3) := by decide +kernel
theorem dL_law_1389 : decode cL_law 1389 = .ok (.if_icmp .eq 136, 3) := by decide +kernel
theorem dL_law_1392 : decode cL_law 1392 = .ok (.iconst 0, 1) := by decide +kernel
theorem dL_law_1393 : decode cL_law 1393 = .ok (.ireturn, 1) := by decide +kernel
theorem dL_law_1394 : decode cL_law 1394 = .ok (.aload_n 1, 1) := by decide +kernel
theorem dL_law_1395 : decode cL_law 1395 = .ok (.aload_n 0, 1) := by decide +kernel
theorem dL_law_1396 : decode cL_law 1396 = .ok (.iload_n 3, 1) := by decide +kernel
theorem dL_law_1397 : decode cL_law 1397 = .ok (.iconst 1, 1) := by decide +kernel
theorem dL_law_1398 : decode cL_law 1398 = .ok (.iadd, 1) := by decide +kernel
theorem dL_law_1399 : decode cL_law 1399 = .ok (.iaload, 1) := by decide +kernel
theorem dL_law_1400 : decode cL_law 1400 = .ok (.invokevirtual 158, 3) := by decide +kernel
theorem dL_law_1403 : decode cL_law 1403 = .ok (.aload_n 2, 1) := by decide +kernel
theorem dL_law_1404 : decode cL_law 1404 = .ok (.aload_n 0, 1) := by decide +kernel
theorem dL_law_1405 : decode cL_law 1405 = .ok (.iload_n 3, 1) := by decide +kernel
theorem dL_law_1406 : decode cL_law 1406 = .ok (.iconst 1, 1) := by decide +kernel
theorem dL_law_1407 : decode cL_law 1407 = .ok (.iadd, 1) := by decide +kernel
theorem dL_law_1408 : decode cL_law 1408 = .ok (.iaload, 1) := by decide +kernel
theorem dL_law_1409 : decode cL_law 1409 = .ok (.invokevirtual 161, 3) := by decide +kernel
theorem dL_law_1412 : decode cL_law 1412 = .ok (.if_icmp .eq 113, 3) := by decide +kernel
theorem dL_law_1415 : decode cL_law 1415 = .ok (.iconst 0, 1) := by decide +kernel
theorem dL_law_1416 : decode cL_law 1416 = .ok (.ireturn, 1) := by decide +kernel
theorem dL_law_1417 : decode cL_law 1417 = .ok (.aload_n 1, 1) := by decide +kernel
theorem dL_law_1418 : decode cL_law 1418 = .ok (.invokevirtual 162, 3) := by decide +kernel
theorem dL_law_1421 : decode cL_law 1421 = .ok (.aload_n 2, 1) := by decide +kernel
theorem dL_law_1422 : decode cL_law 1422 = .ok (.invokevirtual 165, 3) := by decide +kernel
theorem dL_law_1425 : decode cL_law 1425 = .ok (.if_icmp .eq 100, 3) := by decide +kernel
theorem dL_law_1428 : decode cL_law 1428 = .ok (.iconst 0, 1) := by decide +kernel
theorem dL_law_1429 : decode cL_law 1429 = .ok (.ireturn, 1) := by decide +kernel
theorem dL_law_1430 : decode cL_law 1430 = .ok (.aload_n 1, 1) := by decide +kernel
theorem dL_law_1431 : decode cL_law 1431 = .ok (.invokevirtual 166, 3) := by decide +kernel
theorem dL_law_1434 : decode cL_law 1434 = .ok (.aload_n 2, 1) := by decide +kernel
theorem dL_law_1435 : decode cL_law 1435 = .ok (.invokevirtual 169, 3) := by decide +kernel
theorem dL_law_1438 : decode cL_law 1438 = .ok (.if_icmp .eq 87, 3) := by decide +kernel
theorem dL_law_1441 : decode cL_law 1441 = .ok (.iconst 0, 1) := by decide +kernel
theorem dL_law_1442 : decode cL_law 1442 = .ok (.ireturn, 1) := by decide +kernel
theorem dL_law_1443 : decode cL_law 1443 = .ok (.aload_n 1, 1) := by decide +kernel
theorem dL_law_1444 : decode cL_law 1444 = .ok (.aload_n 0, 1) := by decide +kernel
theorem dL_law_1445 : decode cL_law 1445 = .ok (.iload_n 3, 1) := by decide +kernel
theorem dL_law_1446 : decode cL_law 1446 = .ok (.iconst 1, 1) := by decide +kernel
theorem dL_law_1447 : decode cL_law 1447 = .ok (.iadd, 1) := by decide +kernel
theorem dL_law_1448 : decode cL_law 1448 = .ok (.iaload, 1) := by decide +kernel
theorem dL_law_1449 : decode cL_law 1449 = .ok (.invokevirtual 170, 3) := by decide +kernel
theorem dL_law_1452 : decode cL_law 1452 = .ok (.aload_n 2, 1) := by decide +kernel
theorem dL_law_1453 : decode cL_law 1453 = .ok (.aload_n 0, 1) := by decide +kernel
theorem dL_law_1454 : decode cL_law 1454 = .ok (.iload_n 3, 1) := by decide +kernel
theorem dL_law_1455 : decode cL_law 1455 = .ok (.iconst 1, 1) := by decide +kernel
theorem dL_law_1456 : decode cL_law 1456 = .ok (.iadd, 1) := by decide +kernel
theorem dL_law_1457 : decode cL_law 1457 = .ok (.iaload, 1) := by decide +kernel
theorem dL_law_1458 : decode cL_law 1458 = .ok (.invokevirtual 173, 3) := by decide +kernel
theorem dL_law_1461 : decode cL_law 1461 = .ok (.if_icmp .eq 64, 3) := by decide +kernel
theorem dL_law_1464 : decode cL_law 1464 = .ok (.iconst 0, 1) := by decide +kernel
theorem dL_law_1465 : decode cL_law 1465 = .ok (.ireturn, 1) := by decide +kernel
theorem dL_law_1466 : decode cL_law 1466 = .ok (.aload_n 1, 1) := by decide +kernel
theorem dL_law_1467 : decode cL_law 1467 = .ok (.invokevirtual 174, 3) := by decide +kernel
theorem dL_law_1470 : decode cL_law 1470 = .ok (.aload_n 2, 1) := by decide +kernel
theorem dL_law_1471 : decode cL_law 1471 = .ok (.invokevirtual 177, 3) := by decide +kernel
theorem dL_law_1474 : decode cL_law 1474 = .ok (.if_icmp .eq 51, 3) := by decide +kernel
theorem dL_law_1477 : decode cL_law 1477 = .ok (.iconst 0, 1) := by decide +kernel
theorem dL_law_1478 : decode cL_law 1478 = .ok (.ireturn, 1) := by decide +kernel
theorem dL_law_1479 : decode cL_law 1479 = .ok (.aload_n 1, 1) := by decide +kernel
theorem dL_law_1480 : decode cL_law 1480 = .ok (.aload_n 0, 1) := by decide +kernel
theorem dL_law_1481 : decode cL_law 1481 = .ok (.iload_n 3, 1) := by decide +kernel
theorem dL_law_1482 : decode cL_law 1482 = .ok (.iconst 1, 1) := by decide +kernel
theorem dL_law_1483 : decode cL_law 1483 = .ok (.iadd, 1) := by decide +kernel
theorem dL_law_1484 : decode cL_law 1484 = .ok (.iaload, 1) := by decide +kernel
theorem dL_law_1485 : decode cL_law 1485 = .ok (.invokevirtual 178, 3) := by decide +kernel
theorem dL_law_1488 : decode cL_law 1488 = .ok (.aload_n 2, 1) := by decide +kernel
theorem dL_law_1489 : decode cL_law 1489 = .ok (.aload_n 0, 1) := by decide +kernel
theorem dL_law_1490 : decode cL_law 1490 = .ok (.iload_n 3, 1) := by decide +kernel
theorem dL_law_1491 : decode cL_law 1491 = .ok (.iconst 1, 1) := by decide +kernel
theorem dL_law_1492 : decode cL_law 1492 = .ok (.iadd, 1) := by decide +kernel
theorem dL_law_1493 : decode cL_law 1493 = .ok (.iaload, 1) := by decide +kernel
theorem dL_law_1494 : decode cL_law 1494 = .ok (.invokevirtual 181, 3) := by decide +kernel
theorem dL_law_1497 : decode cL_law 1497 = .ok (.if_icmp .eq 28, 3) := by decide +kernel
theorem dL_law_1500 : decode cL_law 1500 = .ok (.iconst 0, 1) := by decide +kernel
theorem dL_law_1501 : decode cL_law 1501 = .ok (.ireturn, 1) := by decide +kernel
theorem dL_law_1502 : decode cL_law 1502 = .ok (.aload_n 1, 1) := by decide +kernel
theorem dL_law_1503 : decode cL_law 1503 = .ok (.aload_n 0, 1) := by decide +kernel
theorem dL_law_1504 : decode cL_law 1504 = .ok (.iload_n 3, 1) := by decide +kernel
theorem dL_law_1505 : decode cL_law 1505 = .ok (.iconst 1, 1) := by decide +kernel
theorem dL_law_1506 : decode cL_law 1506 = .ok (.iadd, 1) := by decide +kernel
theorem dL_law_1507 : decode cL_law 1507 = .ok (.iaload, 1) := by decide +kernel
theorem dL_law_1508 : decode cL_law 1508 = .ok (.invokevirtual 182, 3) := by decide +kernel
theorem dL_law_1511 : decode cL_law 1511 = .ok (.aload_n 2, 1) := by decide +kernel
theorem dL_law_1512 : decode cL_law 1512 = .ok (.aload_n 0, 1) := by decide +kernel
theorem dL_law_1513 : decode cL_law 1513 = .ok (.iload_n 3, 1) := by decide +kernel
theorem dL_law_1514 : decode cL_law 1514 = .ok (.iconst 1, 1) := by decide +kernel
theorem dL_law_1515 : decode cL_law 1515 = .ok (.iadd, 1) := by decide +kernel
theorem dL_law_1516 : decode cL_law 1516 = .ok (.iaload, 1) := by decide +kernel
theorem dL_law_1517 : decode cL_law 1517 = .ok (.invokevirtual 185, 3) := by decide +kernel
theorem dL_law_1520 : decode cL_law 1520 = .ok (.if_icmp .eq 5, 3) := by decide +kernel
theorem dL_law_1523 : decode cL_law 1523 = .ok (.iconst 0, 1) := by decide +kernel
theorem dL_law_1524 : decode cL_law 1524 = .ok (.ireturn, 1) := by decide +kernel
theorem dL_law_1525 : decode cL_law 1525 = .ok (.iinc 3 6, 3) := by decide +kernel
theorem dL_law_1528 : decode cL_law 1528 = .ok (.goto (-1510), 3) := by decide +kernel
theorem dL_law_1531 : decode cL_law 1531 = .ok (.iconst 1, 1) := by decide +kernel
theorem dL_law_1532 : decode cL_law 1532 = .ok (.ireturn, 1) := by decide +kernel
abbrev vwCl : List vw_C := [(RX0, TX0, 4), (RX1, TX1, 6), (RX2, TX2, 8), (RX3, TX3, 3), (RX4, TX4, 5), (RX5, TX5, 7), (RX6, TX6, 14), (RX7, TX7, 8), (RX8, TX8, 25)]
theorem inX0 : ∀ w ∈ wsX00, w ∈ lw_tbl := by decide +kernel
theorem inX1 : ∀ w ∈ wsX10, w ∈ lw_tbl := by decide +kernel
theorem inX2 : ∀ w ∈ wsX20, w ∈ lw_tbl := by decide +kernel
theorem inX3 : ∀ w ∈ wsX30, w ∈ lw_tbl := by decide +kernel
theorem inX4 : ∀ w ∈ wsX40, w ∈ lw_tbl := by decide +kernel
theorem inX5 : ∀ w ∈ wsX50, w ∈ lw_tbl := by decide +kernel
theorem inX6 : ∀ w ∈ wsX60, w ∈ lw_tbl := by decide +kernel
theorem inX7 : ∀ w ∈ wsX70, w ∈ lw_tbl := by decide +kernel
theorem inX8 : ∀ w ∈ wsX80, w ∈ lw_tbl := by decide +kernel
