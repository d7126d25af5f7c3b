def wnf_within  (x0 : Int32) (x1 : Int32) (x2 : Int32)  : Int32 := if x0 < x1 then 0 else if x2 < x0 then 0 else 1
theorem z_wnf_within (x0 : Int32) (x1 : Int32) (x2 : Int32)  : wnf_within x0 x1 x2 = 0 ∨ wnf_within x0 x1 x2 = 1 := by
  unfold wnf_within
  first | (first | exact Or.inl rfl | exact Or.inr rfl) | ((repeat' split) <;> first | exact Or.inl rfl | exact Or.inr rfl)
set_option maxRecDepth 100000 in
theorem c_wnf_within {g : jj_G} (d : Nat)  {x0 : Int32} {x1 : Int32} {x2 : Int32} {μ : jj_M} {r : Int32}   (h : wnf_within x0 x1 x2 = r) : jj_N g yX7_within cX7_within 3 (some .boolean) (d + 0) [.int x0, .int x1, .int x2] μ (some (.int r)) μ := by
  refine jj_N_of jn_7 (Nat.le_of_ble_eq_true rfl) (fun X hF => ?_)
  unfold wnf_within at h
  refine jj_sub (own := RX7) (lv2 := [(0, .int x0), (1, .int x1), (2, .int x2)]) [0, 1, 2] rfl ?_
  refine jj_iload_n dX7_within_0 0 rfl ?_
  refine jj_iload_n dX7_within_1 1 rfl ?_
  refine jj_icmp_lt 14 dX7_within_2 (by decide) (fun c1 => ?_) (fun c1 => ?_)
  · replace h := (if_pos c1).symm.trans h
    refine jj_iconst (0) dX7_within_14 rfl ?_
    exact jj_zret1 hF dX7_within_15 (Or.inl rfl) h
  · replace h := (if_neg c1).symm.trans h
    refine jj_iload_n dX7_within_5 0 rfl ?_
    refine jj_iload_n dX7_within_6 2 rfl ?_
    refine jj_icmp_gt 14 dX7_within_7 (by decide) (fun c2 => ?_) (fun c2 => ?_)
    · replace h := (if_pos c2).symm.trans h
      refine jj_iconst (0) dX7_within_14 rfl ?_
      exact jj_zret1 hF dX7_within_15 (Or.inl rfl) h
    · replace h := (if_neg c2).symm.trans h
      refine jj_iconst (1) dX7_within_10 rfl ?_
      refine jj_goto 15 dX7_within_11 (by decide) ?_
      exact jj_zret1 hF dX7_within_15 (Or.inr rfl) h
def wnf_isWell  (x0 : Int32)  : Int32 := wnf_within x0 0 7
theorem z_wnf_isWell (x0 : Int32)  : wnf_isWell x0 = 0 ∨ wnf_isWell x0 = 1 := by
  unfold wnf_isWell
  first | (first | exact Or.inl rfl | exact Or.inr rfl | apply z_wnf_within) | ((repeat' split) <;> first | exact Or.inl rfl | exact Or.inr rfl | apply z_wnf_within)
set_option maxRecDepth 100000 in
theorem c_wnf_isWell {g : jj_G} (d : Nat)  {x0 : Int32} {μ : jj_M} {r : Int32}   (h : wnf_isWell x0 = r) : jj_N g yX7_isWell cX7_isWell 1 (some .boolean) (d + 1) [.int x0] μ (some (.int r)) μ := by
  refine jj_N_of jn_7 (Nat.le_of_ble_eq_true rfl) (fun X hF => ?_)
  unfold wnf_isWell at h
  refine jj_sub (own := RX7) (lv2 := [(0, .int x0)]) [0] rfl ?_
  refine jj_iload_n dX7_isWell_0 0 rfl ?_
  refine jj_iconst (0) dX7_isWell_1 rfl ?_
  refine jj_bipush (7) dX7_isWell_2 rfl ?_
  refine jj_callSi [.int x0, .int 0, .int 7] [] (c_wnf_within (d + 0)  rfl) jm_wnf_within lk_7_55 rfl (by omega) rfl (Nat.le_of_ble_eq_true rfl) dX7_isWell_4 ?_
  exact jj_zret1 hF dX7_isWell_7 (z_wnf_within _ _ _) h
def wnf_refuse  (x1 : Int32) (μ : jj_M) : Option (Int32 × jj_M) := if jj_i x1 6 then if jj_i x1 6 then some (((-1000000000) - x1, jj_u μ 59 x1.toNatClampNeg ((μ 59 x1.toNatClampNeg) + 1))) else none else none
set_option maxRecDepth 100000 in
theorem c_wnf_refuse {g : jj_G} (d : Nat)  {x1 : Int32} {μ : jj_M} {r : Int32} {μ' : jj_M}   (h : wnf_refuse x1 μ = some (r, μ')) : jj_N g yX7_refuse cX7_refuse 2 (some .int) (d + 0) [.ref (jj_ad g 0), .int x1] μ (some (.int r)) μ' := by
  refine jj_N_of jn_7 (Nat.le_of_ble_eq_true rfl) (fun X hF => ?_)
  unfold wnf_refuse at h
  refine jj_sub (own := RX7) (lv2 := [(0, .ref (jj_ad g 0)), (1, .int x1)]) [0, 1] rfl ?_
  refine jj_aload_n dX7_refuse_0 0 rfl ?_
  refine jg_7_6 (k := 0) rfl lk_7_46 dX7_refuse_1 ?_
  show jj_V g X _ _ _ _ _ _ (.ref (jj_ad g 59) :: _) _
  refine jj_iload_n dX7_refuse_4 1 rfl ?_
  refine jj_dup2 dX7_refuse_5 rfl rfl ?_
  obtain ⟨g1, h⟩ := jj_ge h
  refine jj_iaload (k := 59) (n := 6) rfl g1 dX7_refuse_6 ?_
  refine jj_iconst (1) dX7_refuse_7 rfl ?_
  refine jj_iadd dX7_refuse_8 ?_
  obtain ⟨g2, h⟩ := jj_ge h
  refine jj_iastore (k := 59) (n := 6) rfl g2 dX7_refuse_9 ?_
  refine jj_ldc_w (-1000000000) lk_7_331 dX7_refuse_10 ?_
  refine jj_iload_n dX7_refuse_13 1 rfl ?_
  refine jj_isub dX7_refuse_14 ?_
  exact jj_iret2 hF dX7_refuse_15 (Option.some.inj h)
def wnf_water  (x1 : Int32) (x2 : Int32) (μ : jj_M) : Option (Int32 × jj_M) := if (wnf_isWell x1) = 0 then (wnf_refuse 1 μ).bind fun q2 => some ((q2.1, q2.2)) else if (wnf_within x2 0 99) = 0 then (wnf_refuse 1 μ).bind fun q6 => some ((q6.1, q6.2)) else if jj_i x1 8 then if jj_i x1 8 then some ((μ 2 x1.toNatClampNeg, jj_u μ 2 x1.toNatClampNeg x2)) else none else none
set_option maxRecDepth 100000 in
theorem c_wnf_water {g : jj_G} (d : Nat)  {x1 : Int32} {x2 : Int32} {μ : jj_M} {r : Int32} {μ' : jj_M}   (h : wnf_water x1 x2 μ = some (r, μ')) : jj_N g yX7_water cX7_water 4 (some .int) (d + 2) [.ref (jj_ad g 0), .int x1, .int x2] μ (some (.int r)) μ' := by
  refine jj_N_of jn_7 (Nat.le_of_ble_eq_true rfl) (fun X hF => ?_)
  unfold wnf_water at h
  refine jj_sub (own := RX7) (lv2 := [(0, .ref (jj_ad g 0)), (1, .int x1), (2, .int x2)]) [0, 1, 2] rfl ?_
  refine jj_iload_n dX7_water_0 1 rfl ?_
  refine jj_callSi [.int x1] [] (c_wnf_isWell (d + 0)  rfl) jm_wnf_isWell lk_7_51 rfl (by omega) rfl (Nat.le_of_ble_eq_true rfl) dX7_water_1 ?_
  refine jj_if_eq 17 dX7_water_4 (by decide) (fun c1 => ?_) (fun c1 => ?_)
  · replace h := (if_pos c1).symm.trans h
    refine jj_aload_n dX7_water_17 0 rfl ?_
    refine jj_iconst (1) dX7_water_18 rfl ?_
    obtain ⟨q2, e2, h⟩ := jj_be h
    refine jj_callVi [.int 1] [] (c_wnf_refuse (d + 1)  e2) jm_wnf_refuse lk_7_59 (b := 0) rfl (by decide) (jj_E7 rfl) rfl rfl rfl (by omega) rfl (Nat.le_of_ble_eq_true rfl) dX7_water_19 ?_
    exact jj_iret2 hF dX7_water_22 (Option.some.inj h)
  · replace h := (if_neg c1).symm.trans h
    refine jj_iload_n dX7_water_7 2 rfl ?_
    refine jj_iconst (0) dX7_water_8 rfl ?_
    refine jj_bipush (99) dX7_water_9 rfl ?_
    refine jj_callSi [.int x2, .int 0, .int 99] [] (c_wnf_within (d + 1)  rfl) jm_wnf_within lk_7_55 rfl (by omega) rfl (Nat.le_of_ble_eq_true rfl) dX7_water_11 ?_
    refine jj_if_ne 23 dX7_water_14 (by decide) (fun c3 => ?_) (fun c3 => ?_)
    · replace h := (if_neg c3).symm.trans h
      refine jj_aload_n dX7_water_23 0 rfl ?_
      refine jg_7_0 (k := 0) rfl lk_7_10 dX7_water_24 ?_
      show jj_V g X _ _ _ _ _ _ (.ref (jj_ad g 1) :: _) _
      refine jg_6_0 (k := 1) rfl lk_7_63 dX7_water_27 ?_
      show jj_V g X _ _ _ _ _ _ (.ref (jj_ad g 2) :: _) _
      refine jj_iload_n dX7_water_30 1 rfl ?_
      obtain ⟨g4, h⟩ := jj_ge h
      refine jj_iaload (k := 2) (n := 8) rfl g4 dX7_water_31 ?_
      refine jj_istore_n [(3, .int (μ 2 x1.toNatClampNeg)), (0, .ref (jj_ad g 0)), (1, .int x1), (2, .int x2)] dX7_water_32 (by decide) rfl ?_
      refine jj_aload_n dX7_water_33 1 rfl ?_
      refine jg_7_0 (k := 0) rfl lk_7_10 dX7_water_34 ?_
      show jj_V g X _ _ _ _ _ _ (.ref (jj_ad g 1) :: _) _
      refine jg_6_0 (k := 1) rfl lk_7_63 dX7_water_37 ?_
      show jj_V g X _ _ _ _ _ _ (.ref (jj_ad g 2) :: _) _
      refine jj_iload_n dX7_water_40 2 rfl ?_
      refine jj_iload_n dX7_water_41 3 rfl ?_
      obtain ⟨g5, h⟩ := jj_ge h
      refine jj_iastore (k := 2) (n := 8) rfl g5 dX7_water_42 ?_
      refine jj_iload_n dX7_water_43 0 rfl ?_
      exact jj_iret2 hF dX7_water_44 (Option.some.inj h)
    · replace h := (if_pos c3).symm.trans h
      refine jj_aload_n dX7_water_17 0 rfl ?_
      refine jj_iconst (1) dX7_water_18 rfl ?_
      obtain ⟨q6, e6, h⟩ := jj_be h
      refine jj_callVi [.int 1] [] (c_wnf_refuse (d + 1)  e6) jm_wnf_refuse lk_7_59 (b := 0) rfl (by decide) (jj_E7 rfl) rfl rfl rfl (by omega) rfl (Nat.le_of_ble_eq_true rfl) dX7_water_19 ?_
      exact jj_iret2 hF dX7_water_22 (Option.some.inj h)
def wnf_areTwoWells  (x0 : Int32) (x1 : Int32)  : Int32 := if (wnf_isWell x0) = 0 then 0 else if (wnf_isWell x1) = 0 then 0 else if x0 = x1 then 0 else 1
theorem z_wnf_areTwoWells (x0 : Int32) (x1 : Int32)  : wnf_areTwoWells x0 x1 = 0 ∨ wnf_areTwoWells x0 x1 = 1 := by
  unfold wnf_areTwoWells
  first | (first | exact Or.inl rfl | exact Or.inr rfl | apply z_wnf_isWell | apply z_wnf_isWell) | ((repeat' split) <;> first | exact Or.inl rfl | exact Or.inr rfl | apply z_wnf_isWell | apply z_wnf_isWell)
set_option maxRecDepth 100000 in
theorem c_wnf_areTwoWells {g : jj_G} (d : Nat)  {x0 : Int32} {x1 : Int32} {μ : jj_M} {r : Int32}   (h : wnf_areTwoWells x0 x1 = r) : jj_N g yX7_areTwoWells cX7_areTwoWells 2 (some .boolean) (d + 2) [.int x0, .int x1] μ (some (.int r)) μ := by
  refine jj_N_of jn_7 (Nat.le_of_ble_eq_true rfl) (fun X hF => ?_)
  unfold wnf_areTwoWells at h
  refine jj_sub (own := RX7) (lv2 := [(0, .int x0), (1, .int x1)]) [0, 1] rfl ?_
  refine jj_iload_n dX7_areTwoWells_0 0 rfl ?_
  refine jj_callSi [.int x0] [] (c_wnf_isWell (d + 0)  rfl) jm_wnf_isWell lk_7_51 rfl (by omega) rfl (Nat.le_of_ble_eq_true rfl) dX7_areTwoWells_1 ?_
  refine jj_if_eq 23 dX7_areTwoWells_4 (by decide) (fun c1 => ?_) (fun c1 => ?_)
  · replace h := (if_pos c1).symm.trans h
    refine jj_iconst (0) dX7_areTwoWells_23 rfl ?_
    exact jj_zret1 hF dX7_areTwoWells_24 (Or.inl rfl) h
  · replace h := (if_neg c1).symm.trans h
    refine jj_iload_n dX7_areTwoWells_7 1 rfl ?_
    refine jj_callSi [.int x1] [] (c_wnf_isWell (d + 0)  rfl) jm_wnf_isWell lk_7_51 rfl (by omega) rfl (Nat.le_of_ble_eq_true rfl) dX7_areTwoWells_8 ?_
    refine jj_if_eq 23 dX7_areTwoWells_11 (by decide) (fun c2 => ?_) (fun c2 => ?_)
    · replace h := (if_pos c2).symm.trans h
      refine jj_iconst (0) dX7_areTwoWells_23 rfl ?_
      exact jj_zret1 hF dX7_areTwoWells_24 (Or.inl rfl) h
    · replace h := (if_neg c2).symm.trans h
      refine jj_iload_n dX7_areTwoWells_14 0 rfl ?_
      refine jj_iload_n dX7_areTwoWells_15 1 rfl ?_
      refine jj_icmp_eq 23 dX7_areTwoWells_16 (by decide) (fun c3 => ?_) (fun c3 => ?_)
      · replace h := (if_pos c3).symm.trans h
        refine jj_iconst (0) dX7_areTwoWells_23 rfl ?_
        exact jj_zret1 hF dX7_areTwoWells_24 (Or.inl rfl) h
      · replace h := (if_neg c3).symm.trans h
        refine jj_iconst (1) dX7_areTwoWells_19 rfl ?_
        refine jj_goto 24 dX7_areTwoWells_20 (by decide) ?_
        exact jj_zret1 hF dX7_areTwoWells_24 (Or.inr rfl) h
def wnf_road  (x1 : Int32) (x2 : Int32) (x3 : Int32) (μ : jj_M) : Option (Int32 × jj_M) := if (wnf_areTwoWells x1 x2) = 0 then (wnf_refuse 1 μ).bind fun q2 => some ((q2.1, q2.2)) else if (wnf_within x3 0 20) = 0 then (wnf_refuse 1 μ).bind fun q8 => some ((q8.1, q8.2)) else if jj_i ((x1 * 8) + x2) 64 then if jj_i ((x1 * 8) + x2) 64 then if jj_i ((x2 * 8) + x1) 64 then (some (jj_u (jj_u μ 3 ((x1 * 8) + x2).toNatClampNeg x3) 3 ((x2 * 8) + x1).toNatClampNeg x3)).bind fun m7 => some ((μ 3 ((x1 * 8) + x2).toNatClampNeg, m7)) else none else none else none
set_option maxRecDepth 100000 in
theorem c_wnf_road {g : jj_G} (d : Nat)  {x1 : Int32} {x2 : Int32} {x3 : Int32} {μ : jj_M} {r : Int32} {μ' : jj_M}   (h : wnf_road x1 x2 x3 μ = some (r, μ')) : jj_N g yX7_road cX7_road 5 (some .int) (d + 3) [.ref (jj_ad g 0), .int x1, .int x2, .int x3] μ (some (.int r)) μ' := by
  refine jj_N_of jn_7 (Nat.le_of_ble_eq_true rfl) (fun X hF => ?_)
  unfold wnf_road at h
  refine jj_sub (own := RX7) (lv2 := [(0, .ref (jj_ad g 0)), (1, .int x1), (2, .int x2), (3, .int x3)]) [0, 1, 2, 3] rfl ?_
  refine jj_iload_n dX7_road_0 1 rfl ?_
  refine jj_iload_n dX7_road_1 2 rfl ?_
  refine jj_callSi [.int x1, .int x2] [] (c_wnf_areTwoWells (d + 0)  rfl) jm_wnf_areTwoWells lk_7_66 rfl (by omega) rfl (Nat.le_of_ble_eq_true rfl) dX7_road_2 ?_
  refine jj_if_eq 18 dX7_road_5 (by decide) (fun c1 => ?_) (fun c1 => ?_)
  · replace h := (if_pos c1).symm.trans h
    refine jj_aload_n dX7_road_18 0 rfl ?_
    refine jj_iconst (1) dX7_road_19 rfl ?_
    obtain ⟨q2, e2, h⟩ := jj_be h
    refine jj_callVi [.int 1] [] (c_wnf_refuse (d + 2)  e2) jm_wnf_refuse lk_7_59 (b := 0) rfl (by decide) (jj_E7 rfl) rfl rfl rfl (by omega) rfl (Nat.le_of_ble_eq_true rfl) dX7_road_20 ?_
    exact jj_iret2 hF dX7_road_23 (Option.some.inj h)
  · replace h := (if_neg c1).symm.trans h
    refine jj_iload_n dX7_road_8 3 rfl ?_
    refine jj_iconst (0) dX7_road_9 rfl ?_
    refine jj_bipush (20) dX7_road_10 rfl ?_
    refine jj_callSi [.int x3, .int 0, .int 20] [] (c_wnf_within (d + 2)  rfl) jm_wnf_within lk_7_55 rfl (by omega) rfl (Nat.le_of_ble_eq_true rfl) dX7_road_12 ?_
    refine jj_if_ne 24 dX7_road_15 (by decide) (fun c3 => ?_) (fun c3 => ?_)
    · replace h := (if_neg c3).symm.trans h
      refine jj_aload_n dX7_road_24 0 rfl ?_
      refine jg_7_0 (k := 0) rfl lk_7_10 dX7_road_25 ?_
      show jj_V g X _ _ _ _ _ _ (.ref (jj_ad g 1) :: _) _
      refine jg_6_1 (k := 1) rfl lk_7_70 dX7_road_28 ?_
      show jj_V g X _ _ _ _ _ _ (.ref (jj_ad g 3) :: _) _
      refine jj_iload_n dX7_road_31 1 rfl ?_
      refine jj_bipush (8) dX7_road_32 rfl ?_
      refine jj_imul dX7_road_34 ?_
      refine jj_iload_n dX7_road_35 2 rfl ?_
      refine jj_iadd dX7_road_36 ?_
      obtain ⟨g4, h⟩ := jj_ge h
      refine jj_iaload (k := 3) (n := 64) rfl g4 dX7_road_37 ?_
      refine jj_istore [(4, .int (μ 3 ((x1 * 8) + x2).toNatClampNeg)), (0, .ref (jj_ad g 0)), (1, .int x1), (2, .int x2), (3, .int x3)] dX7_road_38 (by decide) rfl ?_
      refine jj_aload_n dX7_road_40 1 rfl ?_
      refine jg_7_0 (k := 0) rfl lk_7_10 dX7_road_41 ?_
      show jj_V g X _ _ _ _ _ _ (.ref (jj_ad g 1) :: _) _
      refine jg_6_1 (k := 1) rfl lk_7_70 dX7_road_44 ?_
      show jj_V g X _ _ _ _ _ _ (.ref (jj_ad g 3) :: _) _
      refine jj_iload_n dX7_road_47 2 rfl ?_
      refine jj_bipush (8) dX7_road_48 rfl ?_
      refine jj_imul dX7_road_50 ?_
      refine jj_iload_n dX7_road_51 3 rfl ?_
      refine jj_iadd dX7_road_52 ?_
      refine jj_iload_n dX7_road_53 4 rfl ?_
      obtain ⟨g5, h⟩ := jj_ge h
      refine jj_iastore (k := 3) (n := 64) rfl g5 dX7_road_54 ?_
      refine jj_aload_n dX7_road_55 1 rfl ?_
      refine jg_7_0 (k := 0) rfl lk_7_10 dX7_road_56 ?_
      show jj_V g X _ _ _ _ _ _ (.ref (jj_ad g 1) :: _) _
      refine jg_6_1 (k := 1) rfl lk_7_70 dX7_road_59 ?_
      show jj_V g X _ _ _ _ _ _ (.ref (jj_ad g 3) :: _) _
      refine jj_iload_n dX7_road_62 3 rfl ?_
      refine jj_bipush (8) dX7_road_63 rfl ?_
      refine jj_imul dX7_road_65 ?_
      refine jj_iload_n dX7_road_66 2 rfl ?_
      refine jj_iadd dX7_road_67 ?_
      refine jj_iload_n dX7_road_68 4 rfl ?_
      obtain ⟨g6, h⟩ := jj_ge h
      refine jj_iastore (k := 3) (n := 64) rfl g6 dX7_road_69 ?_
      obtain ⟨m7, em7, h⟩ := jj_be h
      refine jj_mu em7 ?_
      refine jj_iload dX7_road_70 0 rfl ?_
      exact jj_iret2 hF dX7_road_72 (Option.some.inj h)
    · replace h := (if_pos c3).symm.trans h
      refine jj_aload_n dX7_road_18 0 rfl ?_
      refine jj_iconst (1) dX7_road_19 rfl ?_
      obtain ⟨q8, e8, h⟩ := jj_be h
      refine jj_callVi [.int 1] [] (c_wnf_refuse (d + 2)  e8) jm_wnf_refuse lk_7_59 (b := 0) rfl (by decide) (jj_E7 rfl) rfl rfl rfl (by omega) rfl (Nat.le_of_ble_eq_true rfl) dX7_road_20 ?_
      exact jj_iret2 hF dX7_road_23 (Option.some.inj h)
def wnf_owe  (x1 : Int32) (x2 : Int32) (x3 : Int32) (μ : jj_M) : Option (Int32 × jj_M) := if (wnf_areTwoWells x1 x2) = 0 then (wnf_refuse 1 μ).bind fun q2 => some ((q2.1, q2.2)) else if (wnf_within x3 0 9999) = 0 then (wnf_refuse 1 μ).bind fun q6 => some ((q6.1, q6.2)) else if jj_i ((x1 * 8) + x2) 64 then if jj_i ((x1 * 8) + x2) 64 then some ((μ 4 ((x1 * 8) + x2).toNatClampNeg, jj_u μ 4 ((x1 * 8) + x2).toNatClampNeg x3)) else none else none
set_option maxRecDepth 100000 in
theorem c_wnf_owe {g : jj_G} (d : Nat)  {x1 : Int32} {x2 : Int32} {x3 : Int32} {μ : jj_M} {r : Int32} {μ' : jj_M}   (h : wnf_owe x1 x2 x3 μ = some (r, μ')) : jj_N g yX7_owe cX7_owe 5 (some .int) (d + 3) [.ref (jj_ad g 0), .int x1, .int x2, .int x3] μ (some (.int r)) μ' := by
  refine jj_N_of jn_7 (Nat.le_of_ble_eq_true rfl) (fun X hF => ?_)
  unfold wnf_owe at h
  refine jj_sub (own := RX7) (lv2 := [(0, .ref (jj_ad g 0)), (1, .int x1), (2, .int x2), (3, .int x3)]) [0, 1, 2, 3] rfl ?_
  refine jj_iload_n dX7_owe_0 1 rfl ?_
  refine jj_iload_n dX7_owe_1 2 rfl ?_
  refine jj_callSi [.int x1, .int x2] [] (c_wnf_areTwoWells (d + 0)  rfl) jm_wnf_areTwoWells lk_7_66 rfl (by omega) rfl (Nat.le_of_ble_eq_true rfl) dX7_owe_2 ?_
  refine jj_if_eq 19 dX7_owe_5 (by decide) (fun c1 => ?_) (fun c1 => ?_)
  · replace h := (if_pos c1).symm.trans h
    refine jj_aload_n dX7_owe_19 0 rfl ?_
    refine jj_iconst (1) dX7_owe_20 rfl ?_
    obtain ⟨q2, e2, h⟩ := jj_be h
    refine jj_callVi [.int 1] [] (c_wnf_refuse (d + 2)  e2) jm_wnf_refuse lk_7_59 (b := 0) rfl (by decide) (jj_E7 rfl) rfl rfl rfl (by omega) rfl (Nat.le_of_ble_eq_true rfl) dX7_owe_21 ?_
    exact jj_iret2 hF dX7_owe_24 (Option.some.inj h)
  · replace h := (if_neg c1).symm.trans h
    refine jj_iload_n dX7_owe_8 3 rfl ?_
    refine jj_iconst (0) dX7_owe_9 rfl ?_
    refine jj_sipush (9999) dX7_owe_10 rfl ?_
    refine jj_callSi [.int x3, .int 0, .int 9999] [] (c_wnf_within (d + 2)  rfl) jm_wnf_within lk_7_55 rfl (by omega) rfl (Nat.le_of_ble_eq_true rfl) dX7_owe_13 ?_
    refine jj_if_ne 25 dX7_owe_16 (by decide) (fun c3 => ?_) (fun c3 => ?_)
    · replace h := (if_neg c3).symm.trans h
      refine jj_aload_n dX7_owe_25 0 rfl ?_
      refine jg_7_0 (k := 0) rfl lk_7_10 dX7_owe_26 ?_
      show jj_V g X _ _ _ _ _ _ (.ref (jj_ad g 1) :: _) _
      refine jg_6_2 (k := 1) rfl lk_7_73 dX7_owe_29 ?_
      show jj_V g X _ _ _ _ _ _ (.ref (jj_ad g 4) :: _) _
      refine jj_iload_n dX7_owe_32 1 rfl ?_
      refine jj_bipush (8) dX7_owe_33 rfl ?_
      refine jj_imul dX7_owe_35 ?_
      refine jj_iload_n dX7_owe_36 2 rfl ?_
      refine jj_iadd dX7_owe_37 ?_
      obtain ⟨g4, h⟩ := jj_ge h
      refine jj_iaload (k := 4) (n := 64) rfl g4 dX7_owe_38 ?_
      refine jj_istore [(4, .int (μ 4 ((x1 * 8) + x2).toNatClampNeg)), (0, .ref (jj_ad g 0)), (1, .int x1), (2, .int x2), (3, .int x3)] dX7_owe_39 (by decide) rfl ?_
      refine jj_aload_n dX7_owe_41 1 rfl ?_
      refine jg_7_0 (k := 0) rfl lk_7_10 dX7_owe_42 ?_
      show jj_V g X _ _ _ _ _ _ (.ref (jj_ad g 1) :: _) _
      refine jg_6_2 (k := 1) rfl lk_7_73 dX7_owe_45 ?_
      show jj_V g X _ _ _ _ _ _ (.ref (jj_ad g 4) :: _) _
      refine jj_iload_n dX7_owe_48 2 rfl ?_
      refine jj_bipush (8) dX7_owe_49 rfl ?_
      refine jj_imul dX7_owe_51 ?_
      refine jj_iload_n dX7_owe_52 3 rfl ?_
      refine jj_iadd dX7_owe_53 ?_
      refine jj_iload_n dX7_owe_54 4 rfl ?_
      obtain ⟨g5, h⟩ := jj_ge h
      refine jj_iastore (k := 4) (n := 64) rfl g5 dX7_owe_55 ?_
      refine jj_iload dX7_owe_56 0 rfl ?_
      exact jj_iret2 hF dX7_owe_58 (Option.some.inj h)
    · replace h := (if_pos c3).symm.trans h
      refine jj_aload_n dX7_owe_19 0 rfl ?_
      refine jj_iconst (1) dX7_owe_20 rfl ?_
      obtain ⟨q6, e6, h⟩ := jj_be h
      refine jj_callVi [.int 1] [] (c_wnf_refuse (d + 2)  e6) jm_wnf_refuse lk_7_59 (b := 0) rfl (by decide) (jj_E7 rfl) rfl rfl rfl (by omega) rfl (Nat.le_of_ble_eq_true rfl) dX7_owe_21 ?_
      exact jj_iret2 hF dX7_owe_24 (Option.some.inj h)
def wof_roadsFrom_L4 (N : Nat)  (p0 : Nat) (x1 : Int32) (μ : jj_M) : Nat → Int32 → Int32 → Option (Int32)
  | 0, _, _ => none
  | n + 1, x2, x3 => if 8 ≤ x3 then some x2 else if jj_i ((x1 * 8) + x3) 64 then if (μ (p0 + 2) ((x1 * 8) + x3).toNatClampNeg) ≤ 0 then wof_roadsFrom_L4 N p0 x1 μ n x2 (x3 + 1) else wof_roadsFrom_L4 N p0 x1 μ n (x2 + 1) (x3 + 1) else none
set_option maxRecDepth 100000 in
theorem t_wof_roadsFrom_L4 {g : jj_G} (d : Nat) {N : Nat}  {p0 : Nat} {x1 : Int32} {μ : jj_M}  {r : Int32} {X : jj_X}  (hp0 : jj_kd p0 = 6) (hF : jj_F g (some .int) (some (.int r)) μ X)  : ∀ (n : Nat) (x2 : Int32) (x3 : Int32), wof_roadsFrom_L4 N p0 x1 μ n x2 x3 = some r → jj_V g X RX6 cX6_roadsFrom 4 (d + 0) 4 [(0, .ref (jj_ad g p0)), (1, .int x1), (2, .int x2), (3, .int x3)] [] μ := by
  intro n
  induction n with
  | zero =>
    intro x2 x3 h
    exact (jj_no h).elim
  | succ n ih =>
    intro x2 x3 h
    rw [wof_roadsFrom_L4] at h
    refine jj_iload_n dX6_roadsFrom_4 3 rfl ?_
    refine jj_bipush (8) dX6_roadsFrom_5 rfl ?_
    refine jj_icmp_ge 33 dX6_roadsFrom_7 (by decide) (fun c1 => ?_) (fun c1 => ?_)
    · replace h := (if_pos c1).symm.trans h
      refine jj_iload_n dX6_roadsFrom_33 2 rfl ?_
      exact jj_iret1 hF dX6_roadsFrom_34 (Option.some.inj h)
    · replace h := (if_neg c1).symm.trans h
      refine jj_aload_n dX6_roadsFrom_10 0 rfl ?_
      refine jg_6_1 (k := p0) hp0 lk_6_15 dX6_roadsFrom_11 ?_
      refine jj_iload_n dX6_roadsFrom_14 1 rfl ?_
      refine jj_bipush (8) dX6_roadsFrom_15 rfl ?_
      refine jj_imul dX6_roadsFrom_17 ?_
      refine jj_iload_n dX6_roadsFrom_18 3 rfl ?_
      refine jj_iadd dX6_roadsFrom_19 ?_
      obtain ⟨g2, h⟩ := jj_ge h
      refine jj_iaload (k := p0 + 2) (n := 64) (jk_6_1 hp0) g2 dX6_roadsFrom_20 ?_
      refine jj_if_le 27 dX6_roadsFrom_21 (by decide) (fun c3 => ?_) (fun c3 => ?_)
      · replace h := (if_pos c3).symm.trans h
        refine jj_iinc (x3 + 1) [(3, .int (x3 + 1)), (0, .ref (jj_ad g p0)), (1, .int x1), (2, .int x2)] dX6_roadsFrom_27 3 rfl rfl (by decide) rfl ?_
        refine jj_goto 4 dX6_roadsFrom_30 (by decide) ?_
        refine jj_sub [1, 2, 3, 0] rfl ?_
        exact ih _ _ h
      · replace h := (if_neg c3).symm.trans h
        refine jj_iinc (x2 + 1) [(2, .int (x2 + 1)), (0, .ref (jj_ad g p0)), (1, .int x1), (3, .int x3)] dX6_roadsFrom_24 2 rfl rfl (by decide) rfl ?_
        refine jj_iinc (x3 + 1) [(3, .int (x3 + 1)), (2, .int (x2 + 1)), (0, .ref (jj_ad g p0)), (1, .int x1)] dX6_roadsFrom_27 3 rfl rfl (by decide) rfl ?_
        refine jj_goto 4 dX6_roadsFrom_30 (by decide) ?_
        refine jj_sub [2, 3, 1, 0] rfl ?_
        exact ih _ _ h
def wof_roadsFrom (N : Nat) (p0 : Nat) (x1 : Int32) (μ : jj_M) : Option (Int32) := wof_roadsFrom_L4 N p0 x1 μ N 0 0
set_option maxRecDepth 100000 in
theorem c_wof_roadsFrom {g : jj_G} (d : Nat) {N : Nat} {p0 : Nat} {x1 : Int32} {μ : jj_M} {r : Int32}  (hp0 : jj_kd p0 = 6) (h : wof_roadsFrom N p0 x1 μ = some r) : jj_N g yX6_roadsFrom cX6_roadsFrom 4 (some .int) (d + 0) [.ref (jj_ad g p0), .int x1] μ (some (.int r)) μ := by
  refine jj_N_of jn_6 (Nat.le_of_ble_eq_true rfl) (fun X hF => ?_)
  unfold wof_roadsFrom at h
  refine jj_sub (own := RX6) (lv2 := [(0, .ref (jj_ad g p0)), (1, .int x1)]) [0, 1] rfl ?_
  refine jj_iconst (0) dX6_roadsFrom_0 rfl ?_
  refine jj_istore_n [(2, .int 0), (0, .ref (jj_ad g p0)), (1, .int x1)] dX6_roadsFrom_1 (by decide) rfl ?_
  refine jj_iconst (0) dX6_roadsFrom_2 rfl ?_
  refine jj_istore_n [(3, .int 0), (2, .int 0), (0, .ref (jj_ad g p0)), (1, .int x1)] dX6_roadsFrom_3 (by decide) rfl ?_
  refine jj_sub [2, 3, 1, 0] rfl ?_
  exact t_wof_roadsFrom_L4 d  hp0 hF  _ _ _ h
def wof_namedBy_L4 (N : Nat)  (p0 : Nat) (x1 : Int32) (μ : jj_M) : Nat → Int32 → Int32 → Option (Int32)
  | 0, _, _ => none
  | n + 1, x2, x3 => if (μ p0 7) ≤ x3 then some x2 else if jj_i x3 6 then if (μ ((p0 + 4) + 4 + x3.toNatClampNeg) 5) = 0 then if jj_i x3 6 then if (μ ((p0 + 4) + 4 + x3.toNatClampNeg) 3) = x1 then wof_namedBy_L4 N p0 x1 μ n (x2 ||| (1 <<< (x3 &&& 31))) (x3 + 1) else wof_namedBy_L4 N p0 x1 μ n x2 (x3 + 1) else none else wof_namedBy_L4 N p0 x1 μ n x2 (x3 + 1) else none
set_option maxRecDepth 100000 in
theorem t_wof_namedBy_L4 {g : jj_G} (d : Nat) {N : Nat}  {p0 : Nat} {x1 : Int32} {μ : jj_M}  {r : Int32} {X : jj_X}  (hp0 : jj_kd p0 = 6) (hF : jj_F g (some .int) (some (.int r)) μ X)  : ∀ (n : Nat) (x2 : Int32) (x3 : Int32), wof_namedBy_L4 N p0 x1 μ n x2 x3 = some r → jj_V g X RX6 cX6_namedBy 4 (d + 0) 4 [(0, .ref (jj_ad g p0)), (1, .int x1), (2, .int x2), (3, .int x3)] [] μ := by
  intro n
  induction n with
  | zero =>
    intro x2 x3 h
    exact (jj_no h).elim
  | succ n ih =>
    intro x2 x3 h
    rw [wof_namedBy_L4] at h
    refine jj_iload_n dX6_namedBy_4 3 rfl ?_
    refine jj_aload_n dX6_namedBy_5 0 rfl ?_
    refine jg_6_7 (k := p0) hp0 lk_6_75 dX6_namedBy_6 ?_
    refine jj_icmp_ge 49 dX6_namedBy_9 (by decide) (fun c1 => ?_) (fun c1 => ?_)
    · replace h := (if_pos c1).symm.trans h
      refine jj_iload_n dX6_namedBy_49 2 rfl ?_
      exact jj_iret1 hF dX6_namedBy_50 (Option.some.inj h)
    · replace h := (if_neg c1).symm.trans h
      refine jj_aload_n dX6_namedBy_12 0 rfl ?_
      refine jg_6_3 (k := p0) hp0 lk_6_23 dX6_namedBy_13 ?_
      refine jj_iload_n dX6_namedBy_16 3 rfl ?_
      obtain ⟨g2, h⟩ := jj_ge h
      refine jj_aaload10 (k := p0 + 4) (jk_6_3 hp0) g2 dX6_namedBy_17 ?_
      refine jg_1_5 (k := (p0 + 4) + 4 + x3.toNatClampNeg) (jk_10 (k := p0 + 4) (jk_6_3 hp0) g2) lk_6_100 dX6_namedBy_18 ?_
      refine jj_if_ne 43 dX6_namedBy_21 (by decide) (fun c3 => ?_) (fun c3 => ?_)
      · replace h := (if_neg c3).symm.trans h
        refine jj_iinc (x3 + 1) [(3, .int (x3 + 1)), (0, .ref (jj_ad g p0)), (1, .int x1), (2, .int x2)] dX6_namedBy_43 3 rfl rfl (by decide) rfl ?_
        refine jj_goto 4 dX6_namedBy_46 (by decide) ?_
        refine jj_sub [1, 2, 3, 0] rfl ?_
        exact ih _ _ h
      · replace h := (if_pos c3).symm.trans h
        refine jj_aload_n dX6_namedBy_24 0 rfl ?_
        refine jg_6_3 (k := p0) hp0 lk_6_23 dX6_namedBy_25 ?_
        refine jj_iload_n dX6_namedBy_28 3 rfl ?_
        obtain ⟨g4, h⟩ := jj_ge h
        refine jj_aaload10 (k := p0 + 4) (jk_6_3 hp0) g4 dX6_namedBy_29 ?_
        refine jg_1_3 (k := (p0 + 4) + 4 + x3.toNatClampNeg) (jk_10 (k := p0 + 4) (jk_6_3 hp0) g4) lk_6_104 dX6_namedBy_30 ?_
        refine jj_iload_n dX6_namedBy_33 1 rfl ?_
        refine jj_icmp_ne 43 dX6_namedBy_34 (by decide) (fun c5 => ?_) (fun c5 => ?_)
        · replace h := (if_neg c5).symm.trans h
          refine jj_iinc (x3 + 1) [(3, .int (x3 + 1)), (0, .ref (jj_ad g p0)), (1, .int x1), (2, .int x2)] dX6_namedBy_43 3 rfl rfl (by decide) rfl ?_
          refine jj_goto 4 dX6_namedBy_46 (by decide) ?_
          refine jj_sub [1, 2, 3, 0] rfl ?_
          exact ih _ _ h
        · replace h := (if_pos c5).symm.trans h
          refine jj_iload_n dX6_namedBy_37 2 rfl ?_
          refine jj_iconst (1) dX6_namedBy_38 rfl ?_
          refine jj_iload_n dX6_namedBy_39 3 rfl ?_
          refine jj_ishl dX6_namedBy_40 ?_
          refine jj_ior dX6_namedBy_41 ?_
          refine jj_istore_n [(2, .int (x2 ||| (1 <<< (x3 &&& 31)))), (0, .ref (jj_ad g p0)), (1, .int x1), (3, .int x3)] dX6_namedBy_42 (by decide) rfl ?_
          refine jj_iinc (x3 + 1) [(3, .int (x3 + 1)), (2, .int (x2 ||| (1 <<< (x3 &&& 31)))), (0, .ref (jj_ad g p0)), (1, .int x1)] dX6_namedBy_43 3 rfl rfl (by decide) rfl ?_
          refine jj_goto 4 dX6_namedBy_46 (by decide) ?_
          refine jj_sub [2, 3, 1, 0] rfl ?_
          exact ih _ _ h
def wof_namedBy (N : Nat) (p0 : Nat) (x1 : Int32) (μ : jj_M) : Option (Int32) := wof_namedBy_L4 N p0 x1 μ N 0 0
set_option maxRecDepth 100000 in
theorem c_wof_namedBy {g : jj_G} (d : Nat) {N : Nat} {p0 : Nat} {x1 : Int32} {μ : jj_M} {r : Int32}  (hp0 : jj_kd p0 = 6) (h : wof_namedBy N p0 x1 μ = some r) : jj_N g yX6_namedBy cX6_namedBy 4 (some .int) (d + 0) [.ref (jj_ad g p0), .int x1] μ (some (.int r)) μ := by
  refine jj_N_of jn_6 (Nat.le_of_ble_eq_true rfl) (fun X hF => ?_)
  unfold wof_namedBy at h
  refine jj_sub (own := RX6) (lv2 := [(0, .ref (jj_ad g p0)), (1, .int x1)]) [0, 1] rfl ?_
  refine jj_iconst (0) dX6_namedBy_0 rfl ?_
  refine jj_istore_n [(2, .int 0), (0, .ref (jj_ad g p0)), (1, .int x1)] dX6_namedBy_1 (by decide) rfl ?_
  refine jj_iconst (0) dX6_namedBy_2 rfl ?_
  refine jj_istore_n [(3, .int 0), (2, .int 0), (0, .ref (jj_ad g p0)), (1, .int x1)] dX6_namedBy_3 (by decide) rfl ?_
  refine jj_sub [2, 3, 1, 0] rfl ?_
  exact t_wof_namedBy_L4 d  hp0 hF  _ _ _ h
def wof_standingAt_L4 (N : Nat)  (p0 : Nat) (x1 : Int32) (μ : jj_M) : Nat → Int32 → Int32 → Option (Int32)
  | 0, _, _ => none
  | n + 1, x2, x3 => if (μ p0 7) ≤ x3 then some x2 else if jj_i x3 6 then if (μ ((p0 + 4) + 4 + x3.toNatClampNeg) 5) = 0 then if jj_i x3 6 then if (μ ((p0 + 4) + 4 + x3.toNatClampNeg) 2) = x1 then wof_standingAt_L4 N p0 x1 μ n (x2 ||| (1 <<< (x3 &&& 31))) (x3 + 1) else wof_standingAt_L4 N p0 x1 μ n x2 (x3 + 1) else none else wof_standingAt_L4 N p0 x1 μ n x2 (x3 + 1) else none
set_option maxRecDepth 100000 in
theorem t_wof_standingAt_L4 {g : jj_G} (d : Nat) {N : Nat}  {p0 : Nat} {x1 : Int32} {μ : jj_M}  {r : Int32} {X : jj_X}  (hp0 : jj_kd p0 = 6) (hF : jj_F g (some .int) (some (.int r)) μ X)  : ∀ (n : Nat) (x2 : Int32) (x3 : Int32), wof_standingAt_L4 N p0 x1 μ n x2 x3 = some r → jj_V g X RX6 cX6_standingAt 4 (d + 0) 4 [(0, .ref (jj_ad g p0)), (1, .int x1), (2, .int x2), (3, .int x3)] [] μ := by
  intro n
  induction n with
  | zero =>
    intro x2 x3 h
    exact (jj_no h).elim
  | succ n ih =>
    intro x2 x3 h
    rw [wof_standingAt_L4] at h
    refine jj_iload_n dX6_standingAt_4 3 rfl ?_
    refine jj_aload_n dX6_standingAt_5 0 rfl ?_
    refine jg_6_7 (k := p0) hp0 lk_6_75 dX6_standingAt_6 ?_
    refine jj_icmp_ge 49 dX6_standingAt_9 (by decide) (fun c1 => ?_) (fun c1 => ?_)
    · replace h := (if_pos c1).symm.trans h
      refine jj_iload_n dX6_standingAt_49 2 rfl ?_
      exact jj_iret1 hF dX6_standingAt_50 (Option.some.inj h)
    · replace h := (if_neg c1).symm.trans h
      refine jj_aload_n dX6_standingAt_12 0 rfl ?_
      refine jg_6_3 (k := p0) hp0 lk_6_23 dX6_standingAt_13 ?_
      refine jj_iload_n dX6_standingAt_16 3 rfl ?_
      obtain ⟨g2, h⟩ := jj_ge h
      refine jj_aaload10 (k := p0 + 4) (jk_6_3 hp0) g2 dX6_standingAt_17 ?_
      refine jg_1_5 (k := (p0 + 4) + 4 + x3.toNatClampNeg) (jk_10 (k := p0 + 4) (jk_6_3 hp0) g2) lk_6_100 dX6_standingAt_18 ?_
      refine jj_if_ne 43 dX6_standingAt_21 (by decide) (fun c3 => ?_) (fun c3 => ?_)
      · replace h := (if_neg c3).symm.trans h
        refine jj_iinc (x3 + 1) [(3, .int (x3 + 1)), (0, .ref (jj_ad g p0)), (1, .int x1), (2, .int x2)] dX6_standingAt_43 3 rfl rfl (by decide) rfl ?_
        refine jj_goto 4 dX6_standingAt_46 (by decide) ?_
        refine jj_sub [1, 2, 3, 0] rfl ?_
        exact ih _ _ h
      · replace h := (if_pos c3).symm.trans h
        refine jj_aload_n dX6_standingAt_24 0 rfl ?_
        refine jg_6_3 (k := p0) hp0 lk_6_23 dX6_standingAt_25 ?_
        refine jj_iload_n dX6_standingAt_28 3 rfl ?_
        obtain ⟨g4, h⟩ := jj_ge h
        refine jj_aaload10 (k := p0 + 4) (jk_6_3 hp0) g4 dX6_standingAt_29 ?_
        refine jg_1_2 (k := (p0 + 4) + 4 + x3.toNatClampNeg) (jk_10 (k := p0 + 4) (jk_6_3 hp0) g4) lk_6_107 dX6_standingAt_30 ?_
        refine jj_iload_n dX6_standingAt_33 1 rfl ?_
        refine jj_icmp_ne 43 dX6_standingAt_34 (by decide) (fun c5 => ?_) (fun c5 => ?_)
        · replace h := (if_neg c5).symm.trans h
          refine jj_iinc (x3 + 1) [(3, .int (x3 + 1)), (0, .ref (jj_ad g p0)), (1, .int x1), (2, .int x2)] dX6_standingAt_43 3 rfl rfl (by decide) rfl ?_
          refine jj_goto 4 dX6_standingAt_46 (by decide) ?_
          refine jj_sub [1, 2, 3, 0] rfl ?_
          exact ih _ _ h
        · replace h := (if_pos c5).symm.trans h
          refine jj_iload_n dX6_standingAt_37 2 rfl ?_
          refine jj_iconst (1) dX6_standingAt_38 rfl ?_
          refine jj_iload_n dX6_standingAt_39 3 rfl ?_
          refine jj_ishl dX6_standingAt_40 ?_
          refine jj_ior dX6_standingAt_41 ?_
          refine jj_istore_n [(2, .int (x2 ||| (1 <<< (x3 &&& 31)))), (0, .ref (jj_ad g p0)), (1, .int x1), (3, .int x3)] dX6_standingAt_42 (by decide) rfl ?_
          refine jj_iinc (x3 + 1) [(3, .int (x3 + 1)), (2, .int (x2 ||| (1 <<< (x3 &&& 31)))), (0, .ref (jj_ad g p0)), (1, .int x1)] dX6_standingAt_43 3 rfl rfl (by decide) rfl ?_
          refine jj_goto 4 dX6_standingAt_46 (by decide) ?_
          refine jj_sub [2, 3, 1, 0] rfl ?_
          exact ih _ _ h
def wof_standingAt (N : Nat) (p0 : Nat) (x1 : Int32) (μ : jj_M) : Option (Int32) := wof_standingAt_L4 N p0 x1 μ N 0 0
set_option maxRecDepth 100000 in
theorem c_wof_standingAt {g : jj_G} (d : Nat) {N : Nat} {p0 : Nat} {x1 : Int32} {μ : jj_M} {r : Int32}  (hp0 : jj_kd p0 = 6) (h : wof_standingAt N p0 x1 μ = some r) : jj_N g yX6_standingAt cX6_standingAt 4 (some .int) (d + 0) [.ref (jj_ad g p0), .int x1] μ (some (.int r)) μ := by
  refine jj_N_of jn_6 (Nat.le_of_ble_eq_true rfl) (fun X hF => ?_)
  unfold wof_standingAt at h
  refine jj_sub (own := RX6) (lv2 := [(0, .ref (jj_ad g p0)), (1, .int x1)]) [0, 1] rfl ?_
  refine jj_iconst (0) dX6_standingAt_0 rfl ?_
  refine jj_istore_n [(2, .int 0), (0, .ref (jj_ad g p0)), (1, .int x1)] dX6_standingAt_1 (by decide) rfl ?_
  refine jj_iconst (0) dX6_standingAt_2 rfl ?_
  refine jj_istore_n [(3, .int 0), (2, .int 0), (0, .ref (jj_ad g p0)), (1, .int x1)] dX6_standingAt_3 (by decide) rfl ?_
  refine jj_sub [2, 3, 1, 0] rfl ?_
  exact t_wof_standingAt_L4 d  hp0 hF  _ _ _ h
def wof_debtBehind_L37 (N : Nat) (k6 : Int32 → Int32 → Option (Int32)) (p0 : Nat) (x1 : Int32) (x2 : Int32) (x3 : Int32) (x4 : Int32) (x5 : Int32) (μ : jj_M) : Nat → Int32 → Int32 → Option (Int32)
  | 0, _, _ => none
  | n + 1, x6, x7 => if x2 ≤ x7 then k6 (x4 + x6) (x5 + 1) else wof_debtBehind_L37 N k6 p0 x1 x2 x3 x4 x5 μ n (jdf_min 9999 (x6 + ((x6 * x3) / 100))) (x7 + 1)
set_option maxRecDepth 100000 in
theorem t_wof_debtBehind_L37 {g : jj_G} (d : Nat) {N : Nat} {k6 : Int32 → Int32 → Option (Int32)} {p0 : Nat} {x1 : Int32} {x2 : Int32} {x3 : Int32} {x4 : Int32} {x5 : Int32} {μ : jj_M}  {r : Int32} {X : jj_X}  (hp0 : jj_kd p0 = 6) (hF : jj_F g (some .int) (some (.int r)) μ X) (hk6 : ∀ (x4 : Int32) (x5 : Int32), k6 x4 x5 = some r → jj_V g X RX6 cX6_debtBehind 8 (d + 2) 6 [(0, .ref (jj_ad g p0)), (1, .int x1), (2, .int x2), (3, .int x3), (4, .int x4), (5, .int x5)] [] μ) : ∀ (n : Nat) (x6 : Int32) (x7 : Int32), wof_debtBehind_L37 N k6 p0 x1 x2 x3 x4 x5 μ n x6 x7 = some r → jj_V g X RX6 cX6_debtBehind 8 (d + 2) 37 [(0, .ref (jj_ad g p0)), (1, .int x1), (2, .int x2), (3, .int x3), (4, .int x4), (5, .int x5), (6, .int x6), (7, .int x7)] [] μ := by
  intro n
  induction n with
  | zero =>
    intro x6 x7 h
    exact (jj_no h).elim
  | succ n ih =>
    intro x6 x7 h
    rw [wof_debtBehind_L37] at h
    refine jj_iload dX6_debtBehind_37 7 rfl ?_
    refine jj_iload_n dX6_debtBehind_39 2 rfl ?_
    refine jj_icmp_ge 67 dX6_debtBehind_40 (by decide) (fun c1 => ?_) (fun c1 => ?_)
    · replace h := (if_pos c1).symm.trans h
      refine jj_iload dX6_debtBehind_67 4 rfl ?_
      refine jj_iload dX6_debtBehind_69 6 rfl ?_
      refine jj_iadd dX6_debtBehind_71 ?_
      refine jj_istore [(4, .int (x4 + x6)), (0, .ref (jj_ad g p0)), (1, .int x1), (2, .int x2), (3, .int x3), (5, .int x5), (6, .int x6), (7, .int x7)] dX6_debtBehind_72 (by decide) rfl ?_
      refine jj_iinc (x5 + 1) [(5, .int (x5 + 1)), (4, .int (x4 + x6)), (0, .ref (jj_ad g p0)), (1, .int x1), (2, .int x2), (3, .int x3), (6, .int x6), (7, .int x7)] dX6_debtBehind_74 5 rfl rfl (by decide) rfl ?_
      refine jj_goto 6 dX6_debtBehind_77 (by decide) ?_
      refine jj_sub [2, 3, 4, 5, 1, 0] rfl ?_
      exact hk6 _ _ h
    · replace h := (if_neg c1).symm.trans h
      refine jj_sipush (9999) dX6_debtBehind_43 rfl ?_
      refine jj_iload dX6_debtBehind_46 6 rfl ?_
      refine jj_iload dX6_debtBehind_48 6 rfl ?_
      refine jj_iload_n dX6_debtBehind_50 3 rfl ?_
      refine jj_imul dX6_debtBehind_51 ?_
      refine jj_bipush (100) dX6_debtBehind_52 rfl ?_
      refine jj_idiv dX6_debtBehind_54 (by decide) ?_
      refine jj_iadd dX6_debtBehind_55 ?_
      refine jj_mmin lk_6_126 (by omega) (Nat.le_of_ble_eq_true rfl) dX6_debtBehind_56 ?_
      refine jj_istore [(6, .int (jdf_min 9999 (x6 + ((x6 * x3) / 100)))), (0, .ref (jj_ad g p0)), (1, .int x1), (2, .int x2), (3, .int x3), (4, .int x4), (5, .int x5), (7, .int x7)] dX6_debtBehind_59 (by decide) rfl ?_
      refine jj_iinc (x7 + 1) [(7, .int (x7 + 1)), (6, .int (jdf_min 9999 (x6 + ((x6 * x3) / 100)))), (0, .ref (jj_ad g p0)), (1, .int x1), (2, .int x2), (3, .int x3), (4, .int x4), (5, .int x5)] dX6_debtBehind_61 7 rfl rfl (by decide) rfl ?_
      refine jj_goto 37 dX6_debtBehind_64 (by decide) ?_
      refine jj_sub [2, 3, 4, 5, 6, 7, 1, 0] rfl ?_
      exact ih _ _ h
def wof_debtBehind_L6 (N : Nat)  (p0 : Nat) (x1 : Int32) (x2 : Int32) (x3 : Int32) (μ : jj_M) : Nat → Int32 → Int32 → Option (Int32)
  | 0, _, _ => none
  | n + 1, x4, x5 => if 8 ≤ x5 then some x4 else if (wnf_isWell x1) = 0 then some x4 else if jj_i ((x1 * 8) + x5) 64 then wof_debtBehind_L37 N (wof_debtBehind_L6 N p0 x1 x2 x3 μ n) p0 x1 x2 x3 x4 x5 μ N (μ (p0 + 3) ((x1 * 8) + x5).toNatClampNeg) 0 else none
set_option maxRecDepth 100000 in
theorem t_wof_debtBehind_L6 {g : jj_G} (d : Nat) {N : Nat}  {p0 : Nat} {x1 : Int32} {x2 : Int32} {x3 : Int32} {μ : jj_M}  {r : Int32} {X : jj_X}  (hp0 : jj_kd p0 = 6) (hF : jj_F g (some .int) (some (.int r)) μ X)  : ∀ (n : Nat) (x4 : Int32) (x5 : Int32), wof_debtBehind_L6 N p0 x1 x2 x3 μ n x4 x5 = some r → jj_V g X RX6 cX6_debtBehind 8 (d + 2) 6 [(0, .ref (jj_ad g p0)), (1, .int x1), (2, .int x2), (3, .int x3), (4, .int x4), (5, .int x5)] [] μ := by
  intro n
  induction n with
  | zero =>
    intro x4 x5 h
    exact (jj_no h).elim
  | succ n ih =>
    intro x4 x5 h
    rw [wof_debtBehind_L6] at h
    refine jj_iload dX6_debtBehind_6 5 rfl ?_
    refine jj_bipush (8) dX6_debtBehind_8 rfl ?_
    refine jj_icmp_ge 80 dX6_debtBehind_10 (by decide) (fun c1 => ?_) (fun c1 => ?_)
    · replace h := (if_pos c1).symm.trans h
      refine jj_iload dX6_debtBehind_80 4 rfl ?_
      exact jj_iret1 hF dX6_debtBehind_82 (Option.some.inj h)
    · replace h := (if_neg c1).symm.trans h
      refine jj_iload_n dX6_debtBehind_13 1 rfl ?_
      refine jj_callNi [.int x1] [] (c_wnf_isWell (d + 0)  rfl) jm_wnf_isWell (host := RX7) (fun w => w.1) rfl (by omega) rfl (Nat.le_of_ble_eq_true rfl) dX6_debtBehind_14 ?_
      refine jj_if_eq 80 dX6_debtBehind_17 (by decide) (fun c2 => ?_) (fun c2 => ?_)
      · replace h := (if_pos c2).symm.trans h
        refine jj_iload dX6_debtBehind_80 4 rfl ?_
        exact jj_iret1 hF dX6_debtBehind_82 (Option.some.inj h)
      · replace h := (if_neg c2).symm.trans h
        refine jj_aload_n dX6_debtBehind_20 0 rfl ?_
        refine jg_6_2 (k := p0) hp0 lk_6_18 dX6_debtBehind_21 ?_
        refine jj_iload_n dX6_debtBehind_24 1 rfl ?_
        refine jj_bipush (8) dX6_debtBehind_25 rfl ?_
        refine jj_imul dX6_debtBehind_27 ?_
        refine jj_iload dX6_debtBehind_28 5 rfl ?_
        refine jj_iadd dX6_debtBehind_30 ?_
        obtain ⟨g3, h⟩ := jj_ge h
        refine jj_iaload (k := p0 + 3) (n := 64) (jk_6_2 hp0) g3 dX6_debtBehind_31 ?_
        refine jj_istore [(6, .int (μ (p0 + 3) ((x1 * 8) + x5).toNatClampNeg)), (0, .ref (jj_ad g p0)), (1, .int x1), (2, .int x2), (3, .int x3), (4, .int x4), (5, .int x5)] dX6_debtBehind_32 (by decide) rfl ?_
        refine jj_iconst (0) dX6_debtBehind_34 rfl ?_
        refine jj_istore [(7, .int 0), (6, .int (μ (p0 + 3) ((x1 * 8) + x5).toNatClampNeg)), (0, .ref (jj_ad g p0)), (1, .int x1), (2, .int x2), (3, .int x3), (4, .int x4), (5, .int x5)] dX6_debtBehind_35 (by decide) rfl ?_
        refine jj_sub [2, 3, 4, 5, 6, 7, 1, 0] rfl ?_
        exact t_wof_debtBehind_L37 d  hp0 hF ih _ _ _ h
def wof_debtBehind (N : Nat) (p0 : Nat) (x1 : Int32) (x2 : Int32) (x3 : Int32) (μ : jj_M) : Option (Int32) := wof_debtBehind_L6 N p0 x1 x2 x3 μ N 0 0
set_option maxRecDepth 100000 in
theorem c_wof_debtBehind {g : jj_G} (d : Nat) {N : Nat} {p0 : Nat} {x1 : Int32} {x2 : Int32} {x3 : Int32} {μ : jj_M} {r : Int32}  (hp0 : jj_kd p0 = 6) (h : wof_debtBehind N p0 x1 x2 x3 μ = some r) : jj_N g yX6_debtBehind cX6_debtBehind 8 (some .int) (d + 2) [.ref (jj_ad g p0), .int x1, .int x2, .int x3] μ (some (.int r)) μ := by
  refine jj_N_of jn_6 (Nat.le_of_ble_eq_true rfl) (fun X hF => ?_)
  unfold wof_debtBehind at h
  refine jj_sub (own := RX6) (lv2 := [(0, .ref (jj_ad g p0)), (1, .int x1), (2, .int x2), (3, .int x3)]) [0, 1, 2, 3] rfl ?_
  refine jj_iconst (0) dX6_debtBehind_0 rfl ?_
  refine jj_istore [(4, .int 0), (0, .ref (jj_ad g p0)), (1, .int x1), (2, .int x2), (3, .int x3)] dX6_debtBehind_1 (by decide) rfl ?_
  refine jj_iconst (0) dX6_debtBehind_3 rfl ?_
  refine jj_istore [(5, .int 0), (4, .int 0), (0, .ref (jj_ad g p0)), (1, .int x1), (2, .int x2), (3, .int x3)] dX6_debtBehind_4 (by decide) rfl ?_
  refine jj_sub [2, 3, 4, 5, 1, 0] rfl ?_
  exact t_wof_debtBehind_L6 d  hp0 hF  _ _ _ h
def wof_debtOf (N : Nat) (p0 : Nat) (x1 : Int32) (μ : jj_M) : Option (Int32) := (wof_debtBehind N p0 x1 0 0 μ).bind fun q1 => some q1
set_option maxRecDepth 100000 in
theorem c_wof_debtOf {g : jj_G} (d : Nat) {N : Nat} {p0 : Nat} {x1 : Int32} {μ : jj_M} {r : Int32}  (hp0 : jj_kd p0 = 6) (h : wof_debtOf N p0 x1 μ = some r) : jj_N g yX6_debtOf cX6_debtOf 2 (some .int) (d + 3) [.ref (jj_ad g p0), .int x1] μ (some (.int r)) μ := by
  refine jj_N_of jn_6 (Nat.le_of_ble_eq_true rfl) (fun X hF => ?_)
  unfold wof_debtOf at h
  refine jj_sub (own := RX6) (lv2 := [(0, .ref (jj_ad g p0)), (1, .int x1)]) [0, 1] rfl ?_
  refine jj_aload_n dX6_debtOf_0 0 rfl ?_
  refine jj_iload_n dX6_debtOf_1 1 rfl ?_
  refine jj_iconst (0) dX6_debtOf_2 rfl ?_
  refine jj_iconst (0) dX6_debtOf_3 rfl ?_
  obtain ⟨q1, e1, h⟩ := jj_be h
  refine jj_callVi [.int x1, .int 0, .int 0] [] (c_wof_debtBehind (d + 0) hp0 e1) jm_wof_debtBehind lk_6_119 (b := p0) hp0 (by decide) (jj_E6 hp0) rfl rfl rfl (by omega) rfl (Nat.le_of_ble_eq_true rfl) dX6_debtOf_4 ?_
  exact jj_iret1 hF dX6_debtOf_7 (Option.some.inj h)
def wnf_ofWell (N : Nat) (x1 : Int32) (x2 : Int32) (μ : jj_M) : Option (Int32 × jj_M) := if (wnf_isWell x1) = 0 then (wnf_refuse 1 μ).bind fun q13 => some ((q13.1, q13.2)) else if x2 = 0 then if jj_i x1 8 then some ((μ 2 x1.toNatClampNeg, μ)) else none else if x2 = 1 then (wof_roadsFrom N 1 x1 μ).bind fun q5 => some ((q5, μ)) else if x2 = 2 then (wof_namedBy N 1 x1 μ).bind fun q7 => some ((q7, μ)) else if x2 = 3 then (wof_standingAt N 1 x1 μ).bind fun q9 => some ((q9, μ)) else if x2 = 4 then (wof_debtOf N 1 x1 μ).bind fun q11 => some ((q11, μ)) else (wnf_refuse 1 μ).bind fun q12 => some ((q12.1, q12.2))
set_option maxRecDepth 100000 in
theorem c_wnf_ofWell {g : jj_G} (d : Nat) {N : Nat} {x1 : Int32} {x2 : Int32} {μ : jj_M} {r : Int32} {μ' : jj_M}   (h : wnf_ofWell N x1 x2 μ = some (r, μ')) : jj_N g yX7_ofWell cX7_ofWell 3 (some .int) (d + 4) [.ref (jj_ad g 0), .int x1, .int x2] μ (some (.int r)) μ' := by
  refine jj_N_of jn_7 (Nat.le_of_ble_eq_true rfl) (fun X hF => ?_)
  unfold wnf_ofWell at h
  refine jj_sub (own := RX7) (lv2 := [(0, .ref (jj_ad g 0)), (1, .int x1), (2, .int x2)]) [0, 1, 2] rfl ?_
  refine jj_iload_n dX7_ofWell_0 1 rfl ?_
  refine jj_callSi [.int x1] [] (c_wnf_isWell (d + 2)  rfl) jm_wnf_isWell lk_7_51 rfl (by omega) rfl (Nat.le_of_ble_eq_true rfl) dX7_ofWell_1 ?_
  refine jj_if_ne 13 dX7_ofWell_4 (by decide) (fun c1 => ?_) (fun c1 => ?_)
  · replace h := (if_neg c1).symm.trans h
    refine jj_iload_n dX7_ofWell_13 2 rfl ?_
    by_cases c2 : x2 = 0
    · replace h := (if_pos c2).symm.trans h
      refine jj_tableIn 48 dX7_ofWell_14 (by rw [c2]; decide) (by rw [c2]; decide) (by rw [c2]; rfl) (show (14 : Int) + 34 = (48 : Nat) by decide) ?_
      refine jj_aload_n dX7_ofWell_48 0 rfl ?_
      refine jg_7_0 (k := 0) rfl lk_7_10 dX7_ofWell_49 ?_
      show jj_V g X _ _ _ _ _ _ (.ref (jj_ad g 1) :: _) _
      refine jg_6_0 (k := 1) rfl lk_7_63 dX7_ofWell_52 ?_
      show jj_V g X _ _ _ _ _ _ (.ref (jj_ad g 2) :: _) _
      refine jj_iload_n dX7_ofWell_55 1 rfl ?_
      obtain ⟨g3, h⟩ := jj_ge h
      refine jj_iaload (k := 2) (n := 8) rfl g3 dX7_ofWell_56 ?_
      exact jj_iret2 hF dX7_ofWell_57 (Option.some.inj h)
    replace h := (if_neg c2).symm.trans h
    by_cases c4 : x2 = 1
    · replace h := (if_pos c4).symm.trans h
      refine jj_tableIn 58 dX7_ofWell_14 (by rw [c4]; decide) (by rw [c4]; decide) (by rw [c4]; rfl) (show (14 : Int) + 44 = (58 : Nat) by decide) ?_
      refine jj_aload_n dX7_ofWell_58 0 rfl ?_
      refine jg_7_0 (k := 0) rfl lk_7_10 dX7_ofWell_59 ?_
      show jj_V g X _ _ _ _ _ _ (.ref (jj_ad g 1) :: _) _
      refine jj_iload_n dX7_ofWell_62 1 rfl ?_
      obtain ⟨q5, e5, h⟩ := jj_be h
      refine jj_callVi [.int x1] [] (c_wof_roadsFrom (d + 3) rfl e5) jm_wof_roadsFrom lk_7_76 (b := 1) rfl (by decide) (jj_E6 rfl) rfl rfl rfl (by omega) rfl (Nat.le_of_ble_eq_true rfl) dX7_ofWell_63 ?_
      exact jj_iret2 hF dX7_ofWell_66 (Option.some.inj h)
    replace h := (if_neg c4).symm.trans h
    by_cases c6 : x2 = 2
    · replace h := (if_pos c6).symm.trans h
      refine jj_tableIn 67 dX7_ofWell_14 (by rw [c6]; decide) (by rw [c6]; decide) (by rw [c6]; rfl) (show (14 : Int) + 53 = (67 : Nat) by decide) ?_
      refine jj_aload_n dX7_ofWell_67 0 rfl ?_
      refine jg_7_0 (k := 0) rfl lk_7_10 dX7_ofWell_68 ?_
      show jj_V g X _ _ _ _ _ _ (.ref (jj_ad g 1) :: _) _
      refine jj_iload_n dX7_ofWell_71 1 rfl ?_
      obtain ⟨q7, e7, h⟩ := jj_be h
      refine jj_callVi [.int x1] [] (c_wof_namedBy (d + 3) rfl e7) jm_wof_namedBy lk_7_79 (b := 1) rfl (by decide) (jj_E6 rfl) rfl rfl rfl (by omega) rfl (Nat.le_of_ble_eq_true rfl) dX7_ofWell_72 ?_
      exact jj_iret2 hF dX7_ofWell_75 (Option.some.inj h)
    replace h := (if_neg c6).symm.trans h
    by_cases c8 : x2 = 3
    · replace h := (if_pos c8).symm.trans h
      refine jj_tableIn 76 dX7_ofWell_14 (by rw [c8]; decide) (by rw [c8]; decide) (by rw [c8]; rfl) (show (14 : Int) + 62 = (76 : Nat) by decide) ?_
      refine jj_aload_n dX7_ofWell_76 0 rfl ?_
      refine jg_7_0 (k := 0) rfl lk_7_10 dX7_ofWell_77 ?_
      show jj_V g X _ _ _ _ _ _ (.ref (jj_ad g 1) :: _) _
      refine jj_iload_n dX7_ofWell_80 1 rfl ?_
      obtain ⟨q9, e9, h⟩ := jj_be h
      refine jj_callVi [.int x1] [] (c_wof_standingAt (d + 3) rfl e9) jm_wof_standingAt lk_7_82 (b := 1) rfl (by decide) (jj_E6 rfl) rfl rfl rfl (by omega) rfl (Nat.le_of_ble_eq_true rfl) dX7_ofWell_81 ?_
      exact jj_iret2 hF dX7_ofWell_84 (Option.some.inj h)
    replace h := (if_neg c8).symm.trans h
    by_cases c10 : x2 = 4
    · replace h := (if_pos c10).symm.trans h
      refine jj_tableIn 85 dX7_ofWell_14 (by rw [c10]; decide) (by rw [c10]; decide) (by rw [c10]; rfl) (show (14 : Int) + 71 = (85 : Nat) by decide) ?_
      refine jj_aload_n dX7_ofWell_85 0 rfl ?_
      refine jg_7_0 (k := 0) rfl lk_7_10 dX7_ofWell_86 ?_
      show jj_V g X _ _ _ _ _ _ (.ref (jj_ad g 1) :: _) _
      refine jj_iload_n dX7_ofWell_89 1 rfl ?_
      obtain ⟨q11, e11, h⟩ := jj_be h
      refine jj_callVi [.int x1] [] (c_wof_debtOf (d + 0) rfl e11) jm_wof_debtOf lk_7_85 (b := 1) rfl (by decide) (jj_E6 rfl) rfl rfl rfl (by omega) rfl (Nat.le_of_ble_eq_true rfl) dX7_ofWell_90 ?_
      exact jj_iret2 hF dX7_ofWell_93 (Option.some.inj h)
    replace h := (if_neg c10).symm.trans h
    have c2 : ¬ Int32.toInt x2 = 0 := fun w => c2 (Int32.toInt_inj.mp (w.trans (by decide)))
    have c4 : ¬ Int32.toInt x2 = 1 := fun w => c4 (Int32.toInt_inj.mp (w.trans (by decide)))
    have c6 : ¬ Int32.toInt x2 = 2 := fun w => c6 (Int32.toInt_inj.mp (w.trans (by decide)))
    have c8 : ¬ Int32.toInt x2 = 3 := fun w => c8 (Int32.toInt_inj.mp (w.trans (by decide)))
    have c10 : ¬ Int32.toInt x2 = 4 := fun w => c10 (Int32.toInt_inj.mp (w.trans (by decide)))
    refine jj_tableOut 94 dX7_ofWell_14 (by omega) (by decide) ?_
    refine jj_aload_n dX7_ofWell_94 0 rfl ?_
    refine jj_iconst (1) dX7_ofWell_95 rfl ?_
    obtain ⟨q12, e12, h⟩ := jj_be h
    refine jj_callVi [.int 1] [] (c_wnf_refuse (d + 3)  e12) jm_wnf_refuse lk_7_59 (b := 0) rfl (by decide) (jj_E7 rfl) rfl rfl rfl (by omega) rfl (Nat.le_of_ble_eq_true rfl) dX7_ofWell_96 ?_
    exact jj_iret2 hF dX7_ofWell_99 (Option.some.inj h)
  · replace h := (if_pos c1).symm.trans h
    refine jj_aload_n dX7_ofWell_7 0 rfl ?_
    refine jj_iconst (1) dX7_ofWell_8 rfl ?_
    obtain ⟨q13, e13, h⟩ := jj_be h
    refine jj_callVi [.int 1] [] (c_wnf_refuse (d + 3)  e13) jm_wnf_refuse lk_7_59 (b := 0) rfl (by decide) (jj_E7 rfl) rfl rfl rfl (by omega) rfl (Nat.le_of_ble_eq_true rfl) dX7_ofWell_9 ?_
    exact jj_iret2 hF dX7_ofWell_12 (Option.some.inj h)
def wnf_rain  (x1 : Int32) (μ : jj_M) : Option (Int32 × jj_M) := if (wnf_within x1 0 9) = 0 then (wnf_refuse 1 μ).bind fun q2 => some ((q2.1, q2.2)) else some ((μ 1 8, jj_u μ 1 8 x1))
set_option maxRecDepth 100000 in
theorem c_wnf_rain {g : jj_G} (d : Nat)  {x1 : Int32} {μ : jj_M} {r : Int32} {μ' : jj_M}   (h : wnf_rain x1 μ = some (r, μ')) : jj_N g yX7_rain cX7_rain 3 (some .int) (d + 1) [.ref (jj_ad g 0), .int x1] μ (some (.int r)) μ' := by
  refine jj_N_of jn_7 (Nat.le_of_ble_eq_true rfl) (fun X hF => ?_)
  unfold wnf_rain at h
  refine jj_sub (own := RX7) (lv2 := [(0, .ref (jj_ad g 0)), (1, .int x1)]) [0, 1] rfl ?_
  refine jj_iload_n dX7_rain_0 1 rfl ?_
  refine jj_iconst (0) dX7_rain_1 rfl ?_
  refine jj_bipush (9) dX7_rain_2 rfl ?_
  refine jj_callSi [.int x1, .int 0, .int 9] [] (c_wnf_within (d + 0)  rfl) jm_wnf_within lk_7_55 rfl (by omega) rfl (Nat.le_of_ble_eq_true rfl) dX7_rain_4 ?_
  refine jj_if_ne 16 dX7_rain_7 (by decide) (fun c1 => ?_) (fun c1 => ?_)
  · replace h := (if_neg c1).symm.trans h
    refine jj_aload_n dX7_rain_16 0 rfl ?_
    refine jg_7_0 (k := 0) rfl lk_7_10 dX7_rain_17 ?_
    show jj_V g X _ _ _ _ _ _ (.ref (jj_ad g 1) :: _) _
    refine jg_6_8 (k := 1) rfl lk_7_88 dX7_rain_20 ?_
    refine jj_istore_n [(2, .int (μ 1 8)), (0, .ref (jj_ad g 0)), (1, .int x1)] dX7_rain_23 (by decide) rfl ?_
    refine jj_aload_n dX7_rain_24 1 rfl ?_
    refine jg_7_0 (k := 0) rfl lk_7_10 dX7_rain_25 ?_
    show jj_V g X _ _ _ _ _ _ (.ref (jj_ad g 1) :: _) _
    refine jj_iload_n dX7_rain_28 2 rfl ?_
    refine jp_6_8 (k := 1) rfl lk_7_88 dX7_rain_29 ?_
    refine jj_iload_n dX7_rain_32 0 rfl ?_
    exact jj_iret2 hF dX7_rain_33 (Option.some.inj h)
  · replace h := (if_pos c1).symm.trans h
    refine jj_aload_n dX7_rain_10 0 rfl ?_
    refine jj_iconst (1) dX7_rain_11 rfl ?_
    obtain ⟨q2, e2, h⟩ := jj_be h
    refine jj_callVi [.int 1] [] (c_wnf_refuse (d + 0)  e2) jm_wnf_refuse lk_7_59 (b := 0) rfl (by decide) (jj_E7 rfl) rfl rfl rfl (by omega) rfl (Nat.le_of_ble_eq_true rfl) dX7_rain_12 ?_
    exact jj_iret2 hF dX7_rain_15 (Option.some.inj h)
def wnf_isKindWithNumber  (x0 : Int32)  : Int32 := wnf_within x0 0 69
theorem z_wnf_isKindWithNumber (x0 : Int32)  : wnf_isKindWithNumber x0 = 0 ∨ wnf_isKindWithNumber x0 = 1 := by
  unfold wnf_isKindWithNumber
  first | (first | exact Or.inl rfl | exact Or.inr rfl | apply z_wnf_within) | ((repeat' split) <;> first | exact Or.inl rfl | exact Or.inr rfl | apply z_wnf_within)
set_option maxRecDepth 100000 in
theorem c_wnf_isKindWithNumber {g : jj_G} (d : Nat)  {x0 : Int32} {μ : jj_M} {r : Int32}   (h : wnf_isKindWithNumber x0 = r) : jj_N g yX7_isKindWithNumber cX7_isKindWithNumber 1 (some .boolean) (d + 1) [.int x0] μ (some (.int r)) μ := by
  refine jj_N_of jn_7 (Nat.le_of_ble_eq_true rfl) (fun X hF => ?_)
  unfold wnf_isKindWithNumber at h
  refine jj_sub (own := RX7) (lv2 := [(0, .int x0)]) [0] rfl ?_
  refine jj_iload_n dX7_isKindWithNumber_0 0 rfl ?_
  refine jj_iconst (0) dX7_isKindWithNumber_1 rfl ?_
  refine jj_bipush (69) dX7_isKindWithNumber_2 rfl ?_
  refine jj_callSi [.int x0, .int 0, .int 69] [] (c_wnf_within (d + 0)  rfl) jm_wnf_within lk_7_55 rfl (by omega) rfl (Nat.le_of_ble_eq_true rfl) dX7_isKindWithNumber_4 ?_
  exact jj_zret1 hF dX7_isKindWithNumber_7 (z_wnf_within _ _ _) h
def pef_begin  (p0 : Nat) (x1 : Int32) (x2 : Int32) (x3 : Int32) (μ : jj_M) : jj_M := jj_u (jj_u (jj_u (jj_u (jj_u (jj_u μ p0 0 x1) p0 1 x2) p0 2 x3) p0 3 (-1)) p0 4 0) p0 5 0
set_option maxRecDepth 100000 in
theorem c_pef_begin {g : jj_G} (d : Nat)  {p0 : Nat} {x1 : Int32} {x2 : Int32} {x3 : Int32} {μ : jj_M} {μ' : jj_M}  (hp0 : jj_kd p0 = 1) (h : pef_begin p0 x1 x2 x3 μ = μ') : jj_N g yX1_begin cX1_begin 4 none (d + 0) [.ref (jj_ad g p0), .int x1, .int x2, .int x3] μ none μ' := by
  refine jj_N_of jn_1 (Nat.le_of_ble_eq_true rfl) (fun X hF => ?_)
  unfold pef_begin at h
  refine jj_sub (own := RX1) (lv2 := [(0, .ref (jj_ad g p0)), (1, .int x1), (2, .int x2), (3, .int x3)]) [0, 1, 2, 3] rfl ?_
  refine jj_aload_n dX1_begin_0 0 rfl ?_
  refine jj_iload_n dX1_begin_1 1 rfl ?_
  refine jp_1_0 (k := p0) hp0 lk_1_15 dX1_begin_2 ?_
  refine jj_aload_n dX1_begin_5 0 rfl ?_
  refine jj_iload_n dX1_begin_6 2 rfl ?_
  refine jp_1_1 (k := p0) hp0 lk_1_18 dX1_begin_7 ?_
  refine jj_aload_n dX1_begin_10 0 rfl ?_
  refine jj_iload_n dX1_begin_11 3 rfl ?_
  refine jp_1_2 (k := p0) hp0 lk_1_21 dX1_begin_12 ?_
  refine jj_aload_n dX1_begin_15 0 rfl ?_
  refine jj_iconst (-1) dX1_begin_16 rfl ?_
  refine jp_1_3 (k := p0) hp0 lk_1_9 dX1_begin_17 ?_
  refine jj_aload_n dX1_begin_20 0 rfl ?_
  refine jj_iconst (0) dX1_begin_21 rfl ?_
  refine jp_1_4 (k := p0) hp0 lk_1_24 dX1_begin_22 ?_
  refine jj_aload_n dX1_begin_25 0 rfl ?_
  refine jj_iconst (0) dX1_begin_26 rfl ?_
  refine jp_1_5 (k := p0) hp0 (Or.inl rfl) lk_1_27 dX1_begin_27 ?_
  exact jj_vret1 hF dX1_begin_30 h
def wnf_person  (x1 : Int32) (x2 : Int32) (μ : jj_M) : Option (Int32 × jj_M) := if (wnf_isKindWithNumber x1) = 0 then (wnf_refuse 1 μ).bind fun q2 => some ((q2.1, q2.2)) else if (wnf_isWell x2) = 0 then (wnf_refuse 1 μ).bind fun q8 => some ((q8.1, q8.2)) else if (μ 1 7) < 6 then if jj_i (μ 1 7) 6 then (some (jj_u (pef_begin (5 + 4 + (μ 1 7).toNatClampNeg) (x1 / 10) (x1 - x1 / 10 * 10) x2 μ) 1 7 (((pef_begin (5 + 4 + (μ 1 7).toNatClampNeg) (x1 / 10) (x1 - x1 / 10 * 10) x2 μ) 1 7) + 1))).bind fun m6 => some (((m6 1 7) - 1, m6)) else none else (wnf_refuse 4 μ).bind fun q7 => some ((q7.1, q7.2))
set_option maxRecDepth 100000 in
theorem c_wnf_person {g : jj_G} (d : Nat)  {x1 : Int32} {x2 : Int32} {μ : jj_M} {r : Int32} {μ' : jj_M}   (h : wnf_person x1 x2 μ = some (r, μ')) : jj_N g yX7_person cX7_person 3 (some .int) (d + 2) [.ref (jj_ad g 0), .int x1, .int x2] μ (some (.int r)) μ' := by
  refine jj_N_of jn_7 (Nat.le_of_ble_eq_true rfl) (fun X hF => ?_)
  unfold wnf_person at h
  refine jj_sub (own := RX7) (lv2 := [(0, .ref (jj_ad g 0)), (1, .int x1), (2, .int x2)]) [0, 1, 2] rfl ?_
  refine jj_iload_n dX7_person_0 1 rfl ?_
  refine jj_callSi [.int x1] [] (c_wnf_isKindWithNumber (d + 0)  rfl) jm_wnf_isKindWithNumber lk_7_92 rfl (by omega) rfl (Nat.le_of_ble_eq_true rfl) dX7_person_1 ?_
  refine jj_if_eq 14 dX7_person_4 (by decide) (fun c1 => ?_) (fun c1 => ?_)
  · replace h := (if_pos c1).symm.trans h
    refine jj_aload_n dX7_person_14 0 rfl ?_
    refine jj_iconst (1) dX7_person_15 rfl ?_
    obtain ⟨q2, e2, h⟩ := jj_be h
    refine jj_callVi [.int 1] [] (c_wnf_refuse (d + 1)  e2) jm_wnf_refuse lk_7_59 (b := 0) rfl (by decide) (jj_E7 rfl) rfl rfl rfl (by omega) rfl (Nat.le_of_ble_eq_true rfl) dX7_person_16 ?_
    exact jj_iret2 hF dX7_person_19 (Option.some.inj h)
  · replace h := (if_neg c1).symm.trans h
    refine jj_iload_n dX7_person_7 2 rfl ?_
    refine jj_callSi [.int x2] [] (c_wnf_isWell (d + 0)  rfl) jm_wnf_isWell lk_7_51 rfl (by omega) rfl (Nat.le_of_ble_eq_true rfl) dX7_person_8 ?_
    refine jj_if_ne 20 dX7_person_11 (by decide) (fun c3 => ?_) (fun c3 => ?_)
    · replace h := (if_neg c3).symm.trans h
      refine jj_aload_n dX7_person_20 0 rfl ?_
      refine jg_7_0 (k := 0) rfl lk_7_10 dX7_person_21 ?_
      show jj_V g X _ _ _ _ _ _ (.ref (jj_ad g 1) :: _) _
      refine jg_6_7 (k := 1) rfl lk_7_95 dX7_person_24 ?_
      refine jj_bipush (6) dX7_person_27 rfl ?_
      refine jj_icmp_lt 38 dX7_person_29 (by decide) (fun c4 => ?_) (fun c4 => ?_)
      · replace h := (if_pos c4).symm.trans h
        refine jj_aload_n dX7_person_38 0 rfl ?_
        refine jg_7_0 (k := 0) rfl lk_7_10 dX7_person_39 ?_
        show jj_V g X _ _ _ _ _ _ (.ref (jj_ad g 1) :: _) _
        refine jg_6_3 (k := 1) rfl lk_7_98 dX7_person_42 ?_
        show jj_V g X _ _ _ _ _ _ (.ref (jj_ad g 5) :: _) _
        refine jj_aload_n dX7_person_45 0 rfl ?_
        refine jg_7_0 (k := 0) rfl lk_7_10 dX7_person_46 ?_
        show jj_V g X _ _ _ _ _ _ (.ref (jj_ad g 1) :: _) _
        refine jg_6_7 (k := 1) rfl lk_7_95 dX7_person_49 ?_
        obtain ⟨g5, h⟩ := jj_ge h
        refine jj_aaload10 (k := 5) rfl g5 dX7_person_52 ?_
        refine jj_iload_n dX7_person_53 1 rfl ?_
        refine jj_bipush (10) dX7_person_54 rfl ?_
        refine jj_idiv dX7_person_56 (by decide) ?_
        refine jj_iload_n dX7_person_57 1 rfl ?_
        refine jj_bipush (10) dX7_person_58 rfl ?_
        refine jj_irem dX7_person_60 (by decide) ?_
        refine jj_iload_n dX7_person_61 2 rfl ?_
        refine jj_callVv [.int (x1 / 10), .int (x1 - x1 / 10 * 10), .int x2] [] (c_pef_begin (d + 1) (jk_10 (k := 5) rfl g5) rfl) jm_pef_begin lk_7_102 (b := 5 + 4 + (μ 1 7).toNatClampNeg) (jk_10 (k := 5) rfl g5) (by decide) (jj_E1 (jk_10 (k := 5) rfl g5)) rfl rfl rfl (by omega) rfl (Nat.le_of_ble_eq_true rfl) dX7_person_62 ?_
        refine jj_aload_n dX7_person_65 0 rfl ?_
        refine jg_7_0 (k := 0) rfl lk_7_10 dX7_person_66 ?_
        show jj_V g X _ _ _ _ _ _ (.ref (jj_ad g 1) :: _) _
        refine jj_dup dX7_person_69 rfl ?_
        refine jg_6_7 (k := 1) rfl lk_7_95 dX7_person_70 ?_
        refine jj_iconst (1) dX7_person_73 rfl ?_
        refine jj_iadd dX7_person_74 ?_
        refine jp_6_7 (k := 1) rfl lk_7_95 dX7_person_75 ?_
        obtain ⟨m6, em6, h⟩ := jj_be h
        refine jj_mu em6 ?_
        refine jj_aload_n dX7_person_78 0 rfl ?_
        refine jg_7_0 (k := 0) rfl lk_7_10 dX7_person_79 ?_
        show jj_V g X _ _ _ _ _ _ (.ref (jj_ad g 1) :: _) _
        refine jg_6_7 (k := 1) rfl lk_7_95 dX7_person_82 ?_
        refine jj_iconst (1) dX7_person_85 rfl ?_
        refine jj_isub dX7_person_86 ?_
        exact jj_iret2 hF dX7_person_87 (Option.some.inj h)
      · replace h := (if_neg c4).symm.trans h
        refine jj_aload_n dX7_person_32 0 rfl ?_
        refine jj_iconst (4) dX7_person_33 rfl ?_
        obtain ⟨q7, e7, h⟩ := jj_be h
        refine jj_callVi [.int 4] [] (c_wnf_refuse (d + 1)  e7) jm_wnf_refuse lk_7_59 (b := 0) rfl (by decide) (jj_E7 rfl) rfl rfl rfl (by omega) rfl (Nat.le_of_ble_eq_true rfl) dX7_person_34 ?_
        exact jj_iret2 hF dX7_person_37 (Option.some.inj h)
    · replace h := (if_pos c3).symm.trans h
      refine jj_aload_n dX7_person_14 0 rfl ?_
      refine jj_iconst (1) dX7_person_15 rfl ?_
      obtain ⟨q8, e8, h⟩ := jj_be h
      refine jj_callVi [.int 1] [] (c_wnf_refuse (d + 1)  e8) jm_wnf_refuse lk_7_59 (b := 0) rfl (by decide) (jj_E7 rfl) rfl rfl rfl (by omega) rfl (Nat.le_of_ble_eq_true rfl) dX7_person_16 ?_
      exact jj_iret2 hF dX7_person_19 (Option.some.inj h)
def wnf_isPerson  (x1 : Int32) (μ : jj_M) : Int32 := wnf_within x1 0 ((μ 1 7) - 1)
theorem z_wnf_isPerson (x1 : Int32) (μ : jj_M) : wnf_isPerson x1 μ = 0 ∨ wnf_isPerson x1 μ = 1 := by
  unfold wnf_isPerson
  first | (first | exact Or.inl rfl | exact Or.inr rfl | apply z_wnf_within) | ((repeat' split) <;> first | exact Or.inl rfl | exact Or.inr rfl | apply z_wnf_within)
set_option maxRecDepth 100000 in
theorem c_wnf_isPerson {g : jj_G} (d : Nat)  {x1 : Int32} {μ : jj_M} {r : Int32}   (h : wnf_isPerson x1 μ = r) : jj_N g yX7_isPerson cX7_isPerson 2 (some .boolean) (d + 1) [.ref (jj_ad g 0), .int x1] μ (some (.int r)) μ := by
  refine jj_N_of jn_7 (Nat.le_of_ble_eq_true rfl) (fun X hF => ?_)
  unfold wnf_isPerson at h
  refine jj_sub (own := RX7) (lv2 := [(0, .ref (jj_ad g 0)), (1, .int x1)]) [0, 1] rfl ?_
  refine jj_iload_n dX7_isPerson_0 1 rfl ?_
  refine jj_iconst (0) dX7_isPerson_1 rfl ?_
  refine jj_aload_n dX7_isPerson_2 0 rfl ?_
  refine jg_7_0 (k := 0) rfl lk_7_10 dX7_isPerson_3 ?_
  show jj_V g X _ _ _ _ _ _ (.ref (jj_ad g 1) :: _) _
  refine jg_6_7 (k := 1) rfl lk_7_95 dX7_isPerson_6 ?_
  refine jj_iconst (1) dX7_isPerson_9 rfl ?_
  refine jj_isub dX7_isPerson_10 ?_
  refine jj_callSi [.int x1, .int 0, .int ((μ 1 7) - 1)] [] (c_wnf_within (d + 0)  rfl) jm_wnf_within lk_7_55 rfl (by omega) rfl (Nat.le_of_ble_eq_true rfl) dX7_isPerson_11 ?_
  exact jj_zret1 hF dX7_isPerson_14 (z_wnf_within _ _ _) h
def pef_limit  (p0 : Nat) (μ : jj_M) : Int32 := if (μ p0 0) = 1 then 12 + (μ p0 1) else if (μ p0 0) = 2 then 8 else if (μ p0 0) = 3 then 36 else if (μ p0 0) = 4 then 12 + (μ p0 1) else if (μ p0 0) = 5 then 8 + ((μ p0 1) / 2) else if (μ p0 0) = 6 then 36 else 12
set_option maxRecDepth 100000 in
theorem c_pef_limit {g : jj_G} (d : Nat)  {p0 : Nat} {μ : jj_M} {r : Int32}  (hp0 : jj_kd p0 = 1) (h : pef_limit p0 μ = r) : jj_N g yX1_limit cX1_limit 1 (some .int) (d + 0) [.ref (jj_ad g p0)] μ (some (.int r)) μ := by
  refine jj_N_of jn_1 (Nat.le_of_ble_eq_true rfl) (fun X hF => ?_)
  unfold pef_limit at h
  refine jj_sub (own := RX1) (lv2 := [(0, .ref (jj_ad g p0))]) [0] rfl ?_
  refine jj_aload_n dX1_limit_0 0 rfl ?_
  refine jg_1_0 (k := p0) hp0 lk_1_15 dX1_limit_1 ?_
  by_cases c1 : (μ p0 0) = 1
  · replace h := (if_pos c1).symm.trans h
    refine jj_tableIn 44 dX1_limit_4 (by rw [c1]; decide) (by rw [c1]; decide) (by rw [c1]; rfl) (show (4 : Int) + 40 = (44 : Nat) by decide) ?_
    refine jj_bipush (12) dX1_limit_44 rfl ?_
    refine jj_aload_n dX1_limit_46 0 rfl ?_
    refine jg_1_1 (k := p0) hp0 lk_1_18 dX1_limit_47 ?_
    refine jj_iadd dX1_limit_50 ?_
    exact jj_iret1 hF dX1_limit_51 h
  replace h := (if_neg c1).symm.trans h
  by_cases c2 : (μ p0 0) = 2
  · replace h := (if_pos c2).symm.trans h
    refine jj_tableIn 52 dX1_limit_4 (by rw [c2]; decide) (by rw [c2]; decide) (by rw [c2]; rfl) (show (4 : Int) + 48 = (52 : Nat) by decide) ?_
    refine jj_bipush (8) dX1_limit_52 rfl ?_
    exact jj_iret1 hF dX1_limit_54 h
  replace h := (if_neg c2).symm.trans h
  by_cases c3 : (μ p0 0) = 3
  · replace h := (if_pos c3).symm.trans h
    refine jj_tableIn 65 dX1_limit_4 (by rw [c3]; decide) (by rw [c3]; decide) (by rw [c3]; rfl) (show (4 : Int) + 61 = (65 : Nat) by decide) ?_
    refine jj_bipush (36) dX1_limit_65 rfl ?_
    exact jj_iret1 hF dX1_limit_67 h
  replace h := (if_neg c3).symm.trans h
  by_cases c4 : (μ p0 0) = 4
  · replace h := (if_pos c4).symm.trans h
    refine jj_tableIn 44 dX1_limit_4 (by rw [c4]; decide) (by rw [c4]; decide) (by rw [c4]; rfl) (show (4 : Int) + 40 = (44 : Nat) by decide) ?_
    refine jj_bipush (12) dX1_limit_44 rfl ?_
    refine jj_aload_n dX1_limit_46 0 rfl ?_
    refine jg_1_1 (k := p0) hp0 lk_1_18 dX1_limit_47 ?_
    refine jj_iadd dX1_limit_50 ?_
    exact jj_iret1 hF dX1_limit_51 h
  replace h := (if_neg c4).symm.trans h
  by_cases c5 : (μ p0 0) = 5
  · replace h := (if_pos c5).symm.trans h
    refine jj_tableIn 55 dX1_limit_4 (by rw [c5]; decide) (by rw [c5]; decide) (by rw [c5]; rfl) (show (4 : Int) + 51 = (55 : Nat) by decide) ?_
    refine jj_bipush (8) dX1_limit_55 rfl ?_
    refine jj_aload_n dX1_limit_57 0 rfl ?_
    refine jg_1_1 (k := p0) hp0 lk_1_18 dX1_limit_58 ?_
    refine jj_iconst (2) dX1_limit_61 rfl ?_
    refine jj_idiv dX1_limit_62 (by decide) ?_
    refine jj_iadd dX1_limit_63 ?_
    exact jj_iret1 hF dX1_limit_64 h
  replace h := (if_neg c5).symm.trans h
  by_cases c6 : (μ p0 0) = 6
  · replace h := (if_pos c6).symm.trans h
    refine jj_tableIn 65 dX1_limit_4 (by rw [c6]; decide) (by rw [c6]; decide) (by rw [c6]; rfl) (show (4 : Int) + 61 = (65 : Nat) by decide) ?_
    refine jj_bipush (36) dX1_limit_65 rfl ?_
    exact jj_iret1 hF dX1_limit_67 h
  replace h := (if_neg c6).symm.trans h
  have c1 : ¬ Int32.toInt (μ p0 0) = 1 := fun w => c1 (Int32.toInt_inj.mp (w.trans (by decide)))
  have c2 : ¬ Int32.toInt (μ p0 0) = 2 := fun w => c2 (Int32.toInt_inj.mp (w.trans (by decide)))
  have c3 : ¬ Int32.toInt (μ p0 0) = 3 := fun w => c3 (Int32.toInt_inj.mp (w.trans (by decide)))
  have c4 : ¬ Int32.toInt (μ p0 0) = 4 := fun w => c4 (Int32.toInt_inj.mp (w.trans (by decide)))
  have c5 : ¬ Int32.toInt (μ p0 0) = 5 := fun w => c5 (Int32.toInt_inj.mp (w.trans (by decide)))
  have c6 : ¬ Int32.toInt (μ p0 0) = 6 := fun w => c6 (Int32.toInt_inj.mp (w.trans (by decide)))
  refine jj_tableOut 68 dX1_limit_4 (by omega) (by decide) ?_
  refine jj_bipush (12) dX1_limit_68 rfl ?_
  exact jj_iret1 hF dX1_limit_70 h
def laf_withoutText  (p0 : Nat) (x1 : Int32) (x2 : Int32) (μ : jj_M) : Int32 := if (μ p0 2) = 0 then 1 + (x2 / 4) else x1
set_option maxRecDepth 100000 in
theorem c_laf_withoutText {g : jj_G} (d : Nat)  {p0 : Nat} {x1 : Int32} {x2 : Int32} {μ : jj_M} {r : Int32}  (hp0 : jj_kd p0 = 0) (h : laf_withoutText p0 x1 x2 μ = r) : jj_N g yX0_withoutText cX0_withoutText 3 (some .int) (d + 0) [.ref (jj_ad g p0), .int x1, .int x2] μ (some (.int r)) μ := by
  refine jj_N_of jn_0 (Nat.le_of_ble_eq_true rfl) (fun X hF => ?_)
  unfold laf_withoutText at h
  refine jj_sub (own := RX0) (lv2 := [(0, .ref (jj_ad g p0)), (1, .int x1), (2, .int x2)]) [0, 1, 2] rfl ?_
  refine jj_aload_n dX0_withoutText_0 0 rfl ?_
  refine jg_0_2 (k := p0) hp0 lk_0_18 dX0_withoutText_1 ?_
  refine jj_if_ne 15 dX0_withoutText_4 (by decide) (fun c1 => ?_) (fun c1 => ?_)
  · replace h := (if_neg c1).symm.trans h
    refine jj_iload_n dX0_withoutText_15 1 rfl ?_
    exact jj_iret1 hF dX0_withoutText_16 h
  · replace h := (if_pos c1).symm.trans h
    refine jj_iconst (1) dX0_withoutText_7 rfl ?_
    refine jj_iload_n dX0_withoutText_8 2 rfl ?_
    refine jj_iconst (4) dX0_withoutText_9 rfl ?_
    refine jj_idiv dX0_withoutText_10 (by decide) ?_
    refine jj_iadd dX0_withoutText_11 ?_
    refine jj_goto 16 dX0_withoutText_12 (by decide) ?_
    exact jj_iret1 hF dX0_withoutText_16 h
def laf_plain  (x0 : Int32) (x1 : Int32) (x2 : Int32) (x3 : Int32)  : Int32 := if (x0 - 10000) = 0 then x1 else if (x0 - 10000) = 1 then x2 else if (x0 - 10000) = 2 then x3 else x0
set_option maxRecDepth 100000 in
theorem c_laf_plain {g : jj_G} (d : Nat)  {x0 : Int32} {x1 : Int32} {x2 : Int32} {x3 : Int32} {μ : jj_M} {r : Int32}   (h : laf_plain x0 x1 x2 x3 = r) : jj_N g yX0_plain cX0_plain 4 (some .int) (d + 0) [.int x0, .int x1, .int x2, .int x3] μ (some (.int r)) μ := by
  refine jj_N_of jn_0 (Nat.le_of_ble_eq_true rfl) (fun X hF => ?_)
  unfold laf_plain at h
  refine jj_sub (own := RX0) (lv2 := [(0, .int x0), (1, .int x1), (2, .int x2), (3, .int x3)]) [0, 1, 2, 3] rfl ?_
  refine jj_iload_n dX0_plain_0 0 rfl ?_
  refine jj_sipush (10000) dX0_plain_1 rfl ?_
  refine jj_isub dX0_plain_4 ?_
  by_cases c1 : (x0 - 10000) = 0
  · replace h := (if_pos c1).symm.trans h
    refine jj_tableIn 32 dX0_plain_5 (by rw [c1]; decide) (by rw [c1]; decide) (by rw [c1]; rfl) (show (5 : Int) + 27 = (32 : Nat) by decide) ?_
    refine jj_iload_n dX0_plain_32 1 rfl ?_
    exact jj_iret1 hF dX0_plain_33 h
  replace h := (if_neg c1).symm.trans h
  by_cases c2 : (x0 - 10000) = 1
  · replace h := (if_pos c2).symm.trans h
    refine jj_tableIn 34 dX0_plain_5 (by rw [c2]; decide) (by rw [c2]; decide) (by rw [c2]; rfl) (show (5 : Int) + 29 = (34 : Nat) by decide) ?_
    refine jj_iload_n dX0_plain_34 2 rfl ?_
    exact jj_iret1 hF dX0_plain_35 h
  replace h := (if_neg c2).symm.trans h
  by_cases c3 : (x0 - 10000) = 2
  · replace h := (if_pos c3).symm.trans h
    refine jj_tableIn 36 dX0_plain_5 (by rw [c3]; decide) (by rw [c3]; decide) (by rw [c3]; rfl) (show (5 : Int) + 31 = (36 : Nat) by decide) ?_
    refine jj_iload_n dX0_plain_36 3 rfl ?_
    exact jj_iret1 hF dX0_plain_37 h
  replace h := (if_neg c3).symm.trans h
  have c1 : ¬ Int32.toInt (x0 - 10000) = 0 := fun w => c1 (Int32.toInt_inj.mp (w.trans (by decide)))
  have c2 : ¬ Int32.toInt (x0 - 10000) = 1 := fun w => c2 (Int32.toInt_inj.mp (w.trans (by decide)))
  have c3 : ¬ Int32.toInt (x0 - 10000) = 2 := fun w => c3 (Int32.toInt_inj.mp (w.trans (by decide)))
  refine jj_tableOut 38 dX0_plain_5 (by omega) (by decide) ?_
  refine jj_iload_n dX0_plain_38 0 rfl ?_
  exact jj_iret1 hF dX0_plain_39 h
def laf_joined  (x0 : Int32) (x1 : Int32) (x2 : Int32)  : Option (Int32) := if x0 = 38 then if x1 = 0 then some 0 else if x2 = 0 then some 0 else some 1 else if x0 = 42 then some (x1 * x2) else if x0 = 43 then some (x1 + x2) else if x0 = 45 then some (x1 - x2) else if x0 = 47 then if x2 = 0 then some 0 else if ¬ x2 = 0 then some (x1 / x2) else none else if x0 = 60 then if x2 ≤ x1 then some 0 else some 1 else if x0 = 61 then if x1 = x2 then some 1 else some 0 else if x0 = 62 then if x1 ≤ x2 then some 0 else some 1 else if x0 = 124 then if x1 = 0 then if x2 = 0 then some 0 else some 1 else some 1 else if x2 = 0 then some 0 else if ¬ x2 = 0 then some (x1 - x1 / x2 * x2) else none
set_option maxRecDepth 100000 in
theorem c_laf_joined {g : jj_G} (d : Nat)  {x0 : Int32} {x1 : Int32} {x2 : Int32} {μ : jj_M} {r : Int32}   (h : laf_joined x0 x1 x2 = some r) : jj_N g yX0_joined cX0_joined 3 (some .int) (d + 0) [.int x0, .int x1, .int x2] μ (some (.int r)) μ := by
  refine jj_N_of jn_0 (Nat.le_of_ble_eq_true rfl) (fun X hF => ?_)
  unfold laf_joined at h
  refine jj_sub (own := RX0) (lv2 := [(0, .int x0), (1, .int x1), (2, .int x2)]) [0, 1, 2] rfl ?_
  refine jj_iload_n dX0_joined_0 0 rfl ?_
  by_cases c1 : x0 = 38
  · replace h := (if_pos c1).symm.trans h
    refine jj_lookup 98 dX0_joined_1 (by decide +kernel) (by rw [c1]; rfl) (show (1 : Int) + 97 = (98 : Nat) by decide) ?_
    refine jj_iload_n dX0_joined_98 1 rfl ?_
    refine jj_if_eq 110 dX0_joined_99 (by decide) (fun c2 => ?_) (fun c2 => ?_)
    · replace h := (if_pos c2).symm.trans h
      refine jj_iconst (0) dX0_joined_110 rfl ?_
      exact jj_iret1 hF dX0_joined_111 (Option.some.inj h)
    · replace h := (if_neg c2).symm.trans h
      refine jj_iload_n dX0_joined_102 2 rfl ?_
      refine jj_if_eq 110 dX0_joined_103 (by decide) (fun c3 => ?_) (fun c3 => ?_)
      · replace h := (if_pos c3).symm.trans h
        refine jj_iconst (0) dX0_joined_110 rfl ?_
        exact jj_iret1 hF dX0_joined_111 (Option.some.inj h)
      · replace h := (if_neg c3).symm.trans h
        refine jj_iconst (1) dX0_joined_106 rfl ?_
        refine jj_goto 111 dX0_joined_107 (by decide) ?_
        exact jj_iret1 hF dX0_joined_111 (Option.some.inj h)
  replace h := (if_neg c1).symm.trans h
  by_cases c4 : x0 = 42
  · replace h := (if_pos c4).symm.trans h
    refine jj_lookup 153 dX0_joined_1 (by decide +kernel) (by rw [c4]; rfl) (show (1 : Int) + 152 = (153 : Nat) by decide) ?_
    refine jj_iload_n dX0_joined_153 1 rfl ?_
    refine jj_iload_n dX0_joined_154 2 rfl ?_
    refine jj_imul dX0_joined_155 ?_
    exact jj_iret1 hF dX0_joined_156 (Option.some.inj h)
  replace h := (if_neg c4).symm.trans h
  by_cases c5 : x0 = 43
  · replace h := (if_pos c5).symm.trans h
    refine jj_lookup 145 dX0_joined_1 (by decide +kernel) (by rw [c5]; rfl) (show (1 : Int) + 144 = (145 : Nat) by decide) ?_
    refine jj_iload_n dX0_joined_145 1 rfl ?_
    refine jj_iload_n dX0_joined_146 2 rfl ?_
    refine jj_iadd dX0_joined_147 ?_
    exact jj_iret1 hF dX0_joined_148 (Option.some.inj h)
  replace h := (if_neg c5).symm.trans h
  by_cases c6 : x0 = 45
  · replace h := (if_pos c6).symm.trans h
    refine jj_lookup 149 dX0_joined_1 (by decide +kernel) (by rw [c6]; rfl) (show (1 : Int) + 148 = (149 : Nat) by decide) ?_
    refine jj_iload_n dX0_joined_149 1 rfl ?_
    refine jj_iload_n dX0_joined_150 2 rfl ?_
    refine jj_isub dX0_joined_151 ?_
    exact jj_iret1 hF dX0_joined_152 (Option.some.inj h)
  replace h := (if_neg c6).symm.trans h
  by_cases c7 : x0 = 47
  · replace h := (if_pos c7).symm.trans h
    refine jj_lookup 157 dX0_joined_1 (by decide +kernel) (by rw [c7]; rfl) (show (1 : Int) + 156 = (157 : Nat) by decide) ?_
    refine jj_iload_n dX0_joined_157 2 rfl ?_
    refine jj_if_ne 165 dX0_joined_158 (by decide) (fun c8 => ?_) (fun c8 => ?_)
    · replace h := (if_neg c8).symm.trans h
      refine jj_iload_n dX0_joined_165 1 rfl ?_
      refine jj_iload_n dX0_joined_166 2 rfl ?_
      obtain ⟨g9, h⟩ := jj_ge h
      refine jj_idiv dX0_joined_167 g9 ?_
      exact jj_iret1 hF dX0_joined_168 (Option.some.inj h)
    · replace h := (if_pos c8).symm.trans h
      refine jj_iconst (0) dX0_joined_161 rfl ?_
      refine jj_goto 168 dX0_joined_162 (by decide) ?_
      exact jj_iret1 hF dX0_joined_168 (Option.some.inj h)
  replace h := (if_neg c7).symm.trans h
  by_cases c10 : x0 = 60
  · replace h := (if_pos c10).symm.trans h
    refine jj_lookup 112 dX0_joined_1 (by decide +kernel) (by rw [c10]; rfl) (show (1 : Int) + 111 = (112 : Nat) by decide) ?_
    refine jj_iload_n dX0_joined_112 1 rfl ?_
    refine jj_iload_n dX0_joined_113 2 rfl ?_
    refine jj_icmp_ge 121 dX0_joined_114 (by decide) (fun c11 => ?_) (fun c11 => ?_)
    · replace h := (if_pos c11).symm.trans h
      refine jj_iconst (0) dX0_joined_121 rfl ?_
      exact jj_iret1 hF dX0_joined_122 (Option.some.inj h)
    · replace h := (if_neg c11).symm.trans h
      refine jj_iconst (1) dX0_joined_117 rfl ?_
      refine jj_goto 122 dX0_joined_118 (by decide) ?_
      exact jj_iret1 hF dX0_joined_122 (Option.some.inj h)
  replace h := (if_neg c10).symm.trans h
  by_cases c12 : x0 = 61
  · replace h := (if_pos c12).symm.trans h
    refine jj_lookup 123 dX0_joined_1 (by decide +kernel) (by rw [c12]; rfl) (show (1 : Int) + 122 = (123 : Nat) by decide) ?_
    refine jj_iload_n dX0_joined_123 1 rfl ?_
    refine jj_iload_n dX0_joined_124 2 rfl ?_
    refine jj_icmp_ne 132 dX0_joined_125 (by decide) (fun c13 => ?_) (fun c13 => ?_)
    · replace h := (if_neg c13).symm.trans h
      refine jj_iconst (0) dX0_joined_132 rfl ?_
      exact jj_iret1 hF dX0_joined_133 (Option.some.inj h)
    · replace h := (if_pos c13).symm.trans h
      refine jj_iconst (1) dX0_joined_128 rfl ?_
      refine jj_goto 133 dX0_joined_129 (by decide) ?_
      exact jj_iret1 hF dX0_joined_133 (Option.some.inj h)
  replace h := (if_neg c12).symm.trans h
  by_cases c14 : x0 = 62
  · replace h := (if_pos c14).symm.trans h
    refine jj_lookup 134 dX0_joined_1 (by decide +kernel) (by rw [c14]; rfl) (show (1 : Int) + 133 = (134 : Nat) by decide) ?_
    refine jj_iload_n dX0_joined_134 1 rfl ?_
    refine jj_iload_n dX0_joined_135 2 rfl ?_
    refine jj_icmp_le 143 dX0_joined_136 (by decide) (fun c15 => ?_) (fun c15 => ?_)
    · replace h := (if_pos c15).symm.trans h
      refine jj_iconst (0) dX0_joined_143 rfl ?_
      exact jj_iret1 hF dX0_joined_144 (Option.some.inj h)
    · replace h := (if_neg c15).symm.trans h
      refine jj_iconst (1) dX0_joined_139 rfl ?_
      refine jj_goto 144 dX0_joined_140 (by decide) ?_
      exact jj_iret1 hF dX0_joined_144 (Option.some.inj h)
  replace h := (if_neg c14).symm.trans h
  by_cases c16 : x0 = 124
  · replace h := (if_pos c16).symm.trans h
    refine jj_lookup 84 dX0_joined_1 (by decide +kernel) (by rw [c16]; rfl) (show (1 : Int) + 83 = (84 : Nat) by decide) ?_
    refine jj_iload_n dX0_joined_84 1 rfl ?_
    refine jj_if_ne 92 dX0_joined_85 (by decide) (fun c17 => ?_) (fun c17 => ?_)
    · replace h := (if_neg c17).symm.trans h
      refine jj_iconst (1) dX0_joined_92 rfl ?_
      refine jj_goto 97 dX0_joined_93 (by decide) ?_
      exact jj_iret1 hF dX0_joined_97 (Option.some.inj h)
    · replace h := (if_pos c17).symm.trans h
      refine jj_iload_n dX0_joined_88 2 rfl ?_
      refine jj_if_eq 96 dX0_joined_89 (by decide) (fun c18 => ?_) (fun c18 => ?_)
      · replace h := (if_pos c18).symm.trans h
        refine jj_iconst (0) dX0_joined_96 rfl ?_
        exact jj_iret1 hF dX0_joined_97 (Option.some.inj h)
      · replace h := (if_neg c18).symm.trans h
        refine jj_iconst (1) dX0_joined_92 rfl ?_
        refine jj_goto 97 dX0_joined_93 (by decide) ?_
        exact jj_iret1 hF dX0_joined_97 (Option.some.inj h)
  replace h := (if_neg c16).symm.trans h
  have c1 : ¬ Int32.toInt x0 = 38 := fun w => c1 (Int32.toInt_inj.mp (w.trans (by decide)))
  have c4 : ¬ Int32.toInt x0 = 42 := fun w => c4 (Int32.toInt_inj.mp (w.trans (by decide)))
  have c5 : ¬ Int32.toInt x0 = 43 := fun w => c5 (Int32.toInt_inj.mp (w.trans (by decide)))
  have c6 : ¬ Int32.toInt x0 = 45 := fun w => c6 (Int32.toInt_inj.mp (w.trans (by decide)))
  have c7 : ¬ Int32.toInt x0 = 47 := fun w => c7 (Int32.toInt_inj.mp (w.trans (by decide)))
  have c10 : ¬ Int32.toInt x0 = 60 := fun w => c10 (Int32.toInt_inj.mp (w.trans (by decide)))
  have c12 : ¬ Int32.toInt x0 = 61 := fun w => c12 (Int32.toInt_inj.mp (w.trans (by decide)))
  have c14 : ¬ Int32.toInt x0 = 62 := fun w => c14 (Int32.toInt_inj.mp (w.trans (by decide)))
  have c16 : ¬ Int32.toInt x0 = 124 := fun w => c16 (Int32.toInt_inj.mp (w.trans (by decide)))
  refine jj_lookup 169 dX0_joined_1 (by decide +kernel) (show Op.lookupswitch.offset [(38, 97), (42, 152), (43, 144), (45, 148), (47, 156), (60, 111), (61, 122), (62, 133), (124, 83)] 168 (Int32.toInt x0) = 168 by rw [Op.lookupswitch.offset_cons, if_neg (Ne.symm c1), Op.lookupswitch.offset_cons, if_neg (Ne.symm c4), Op.lookupswitch.offset_cons, if_neg (Ne.symm c5), Op.lookupswitch.offset_cons, if_neg (Ne.symm c6), Op.lookupswitch.offset_cons, if_neg (Ne.symm c7), Op.lookupswitch.offset_cons, if_neg (Ne.symm c10), Op.lookupswitch.offset_cons, if_neg (Ne.symm c12), Op.lookupswitch.offset_cons, if_neg (Ne.symm c14), Op.lookupswitch.offset_cons, if_neg (Ne.symm c16), Op.lookupswitch.offset_nil]) (show (1 : Int) + 168 = (169 : Nat) by decide) ?_
  refine jj_iload_n dX0_joined_169 2 rfl ?_
  refine jj_if_ne 177 dX0_joined_170 (by decide) (fun c19 => ?_) (fun c19 => ?_)
  · replace h := (if_neg c19).symm.trans h
    refine jj_iload_n dX0_joined_177 1 rfl ?_
    refine jj_iload_n dX0_joined_178 2 rfl ?_
    obtain ⟨g20, h⟩ := jj_ge h
    refine jj_irem dX0_joined_179 g20 ?_
    exact jj_iret1 hF dX0_joined_180 (Option.some.inj h)
  · replace h := (if_pos c19).symm.trans h
    refine jj_iconst (0) dX0_joined_173 rfl ?_
    refine jj_goto 180 dX0_joined_174 (by decide) ?_
    exact jj_iret1 hF dX0_joined_180 (Option.some.inj h)
def laf_worked_B98 (N : Nat) (k6 : Int32 → Int32 → jj_M → Option (Int32 × jj_M)) (p0 : Nat) (x1 : Int32) (x2 : Int32) (x3 : Int32) (x4 : Int32) (x5 : Int32) (x6 : Int32) (μ : jj_M) : Option (Int32 × jj_M) := if x4 ≤ 1 then k6 x4 (x5 + 1) μ else if jj_i ((x4 + (-1)) - 1) 50 then if jj_i (x4 + (-1)) 50 then (laf_joined (-x6) (μ (p0 + 2) ((x4 + (-1)) - 1).toNatClampNeg) (μ (p0 + 2) (x4 + (-1)).toNatClampNeg)).bind fun q4 => if jj_i ((x4 + (-1)) - 1) 50 then k6 (x4 + (-1)) (x5 + 1) (jj_u μ (p0 + 2) ((x4 + (-1)) - 1).toNatClampNeg q4) else none else none else none
set_option maxRecDepth 100000 in
theorem t_laf_worked_B98 {g : jj_G} (d : Nat) {N : Nat} {k6 : Int32 → Int32 → jj_M → Option (Int32 × jj_M)} {p0 : Nat} {x1 : Int32} {x2 : Int32} {x3 : Int32} {x4 : Int32} {x5 : Int32} {x6 : Int32} {μ : jj_M}  {r : Int32} {μ' : jj_M} {X : jj_X}  (hp0 : jj_kd p0 = 0) (hF : jj_F g (some .int) (some (.int r)) μ' X) (hk6 : ∀ (x4 : Int32) (x5 : Int32) (μ : jj_M), k6 x4 x5 μ = some (r, μ') → jj_V g X RX0 cX0_worked 7 (d + 1) 6 [(0, .ref (jj_ad g p0)), (1, .int x1), (2, .int x2), (3, .int x3), (4, .int x4), (5, .int x5)] [] μ) (h : laf_worked_B98 N k6 p0 x1 x2 x3 x4 x5 x6 μ = some (r, μ')) : jj_V g X RX0 cX0_worked 7 (d + 1) 98 [(0, .ref (jj_ad g p0)), (1, .int x1), (2, .int x2), (3, .int x3), (4, .int x4), (5, .int x5), (6, .int x6)] [] μ := by
  unfold laf_worked_B98 at h
  refine jj_iload dX0_worked_98 4 rfl ?_
  refine jj_iconst (1) dX0_worked_100 rfl ?_
  refine jj_icmp_le 138 dX0_worked_101 (by decide) (fun c1 => ?_) (fun c1 => ?_)
  · replace h := (if_pos c1).symm.trans h
    refine jj_iinc (x5 + 1) [(5, .int (x5 + 1)), (0, .ref (jj_ad g p0)), (1, .int x1), (2, .int x2), (3, .int x3), (4, .int x4), (6, .int x6)] dX0_worked_138 5 rfl rfl (by decide) rfl ?_
    refine jj_goto 6 dX0_worked_141 (by decide) ?_
    refine jj_sub [1, 2, 3, 4, 5, 0] rfl ?_
    exact hk6 _ _ _ h
  · replace h := (if_neg c1).symm.trans h
    refine jj_iinc (x4 + (-1)) [(4, .int (x4 + (-1))), (0, .ref (jj_ad g p0)), (1, .int x1), (2, .int x2), (3, .int x3), (5, .int x5), (6, .int x6)] dX0_worked_104 4 rfl rfl (by decide) rfl ?_
    refine jj_aload_n dX0_worked_107 1 rfl ?_
    refine jg_0_3 (k := p0) hp0 lk_0_15 dX0_worked_108 ?_
    refine jj_iload dX0_worked_111 0 rfl ?_
    refine jj_iconst (1) dX0_worked_113 rfl ?_
    refine jj_isub dX0_worked_114 ?_
    refine jj_iload dX0_worked_115 6 rfl ?_
    refine jj_ineg dX0_worked_117 ?_
    refine jj_aload_n dX0_worked_118 1 rfl ?_
    refine jg_0_3 (k := p0) hp0 lk_0_15 dX0_worked_119 ?_
    refine jj_iload dX0_worked_122 0 rfl ?_
    refine jj_iconst (1) dX0_worked_124 rfl ?_
    refine jj_isub dX0_worked_125 ?_
    obtain ⟨g2, h⟩ := jj_ge h
    refine jj_iaload (k := p0 + 2) (n := 50) (jk_0_3 hp0) g2 dX0_worked_126 ?_
    refine jj_aload_n dX0_worked_127 1 rfl ?_
    refine jg_0_3 (k := p0) hp0 lk_0_15 dX0_worked_128 ?_
    refine jj_iload dX0_worked_131 0 rfl ?_
    obtain ⟨g3, h⟩ := jj_ge h
    refine jj_iaload (k := p0 + 2) (n := 50) (jk_0_3 hp0) g3 dX0_worked_133 ?_
    obtain ⟨q4, e4, h⟩ := jj_be h
    refine jj_callSi [.int (-x6), .int (μ (p0 + 2) ((x4 + (-1)) - 1).toNatClampNeg), .int (μ (p0 + 2) (x4 + (-1)).toNatClampNeg)] [.int ((x4 + (-1)) - 1), .ref (jj_ad g (p0 + 2))] (c_laf_joined (d + 0)  e4) jm_laf_joined lk_0_51 rfl (by omega) rfl (Nat.le_of_ble_eq_true rfl) dX0_worked_134 ?_
    obtain ⟨g5, h⟩ := jj_ge h
    refine jj_iastore (k := p0 + 2) (n := 50) (jk_0_3 hp0) g5 dX0_worked_137 ?_
    refine jj_iinc (x5 + 1) [(5, .int (x5 + 1)), (4, .int (x4 + (-1))), (0, .ref (jj_ad g p0)), (1, .int x1), (2, .int x2), (3, .int x3), (6, .int x6)] dX0_worked_138 5 rfl rfl (by decide) rfl ?_
    refine jj_goto 6 dX0_worked_141 (by decide) ?_
    refine jj_sub [2, 3, 4, 5, 1, 0] rfl ?_
    exact hk6 _ _ _ h
def laf_worked_B57 (N : Nat) (k6 : Int32 → Int32 → jj_M → Option (Int32 × jj_M)) (p0 : Nat) (x1 : Int32) (x2 : Int32) (x3 : Int32) (x4 : Int32) (x5 : Int32) (x6 : Int32) (μ : jj_M) : Option (Int32 × jj_M) := if x6 = (-33) then if x4 ≤ 0 then laf_worked_B98 N k6 p0 x1 x2 x3 x4 x5 x6 μ else if jj_i (x4 - 1) 50 then if (μ (p0 + 2) (x4 - 1).toNatClampNeg) = 0 then if jj_i (x4 - 1) 50 then k6 x4 (x5 + 1) (jj_u μ (p0 + 2) (x4 - 1).toNatClampNeg 1) else none else if jj_i (x4 - 1) 50 then k6 x4 (x5 + 1) (jj_u μ (p0 + 2) (x4 - 1).toNatClampNeg 0) else none else none else laf_worked_B98 N k6 p0 x1 x2 x3 x4 x5 x6 μ
set_option maxRecDepth 100000 in
theorem t_laf_worked_B57 {g : jj_G} (d : Nat) {N : Nat} {k6 : Int32 → Int32 → jj_M → Option (Int32 × jj_M)} {p0 : Nat} {x1 : Int32} {x2 : Int32} {x3 : Int32} {x4 : Int32} {x5 : Int32} {x6 : Int32} {μ : jj_M}  {r : Int32} {μ' : jj_M} {X : jj_X}  (hp0 : jj_kd p0 = 0) (hF : jj_F g (some .int) (some (.int r)) μ' X) (hk6 : ∀ (x4 : Int32) (x5 : Int32) (μ : jj_M), k6 x4 x5 μ = some (r, μ') → jj_V g X RX0 cX0_worked 7 (d + 1) 6 [(0, .ref (jj_ad g p0)), (1, .int x1), (2, .int x2), (3, .int x3), (4, .int x4), (5, .int x5)] [] μ) (h : laf_worked_B57 N k6 p0 x1 x2 x3 x4 x5 x6 μ = some (r, μ')) : jj_V g X RX0 cX0_worked 7 (d + 1) 57 [(0, .ref (jj_ad g p0)), (1, .int x1), (2, .int x2), (3, .int x3), (4, .int x4), (5, .int x5), (6, .int x6)] [] μ := by
  unfold laf_worked_B57 at h
  refine jj_iload dX0_worked_57 6 rfl ?_
  refine jj_bipush (-33) dX0_worked_59 rfl ?_
  refine jj_icmp_ne 98 dX0_worked_61 (by decide) (fun c1 => ?_) (fun c1 => ?_)
  · replace h := (if_neg c1).symm.trans h
    refine jj_sub [0, 1, 2, 3, 4, 5, 6] rfl ?_
    exact t_laf_worked_B98 d  hp0 hF hk6 h
  · replace h := (if_pos c1).symm.trans h
    refine jj_iload dX0_worked_64 4 rfl ?_
    refine jj_if_le 98 dX0_worked_66 (by decide) (fun c2 => ?_) (fun c2 => ?_)
    · replace h := (if_pos c2).symm.trans h
      refine jj_sub [0, 1, 2, 3, 4, 5, 6] rfl ?_
      exact t_laf_worked_B98 d  hp0 hF hk6 h
    · replace h := (if_neg c2).symm.trans h
      refine jj_aload_n dX0_worked_69 0 rfl ?_
      refine jg_0_3 (k := p0) hp0 lk_0_15 dX0_worked_70 ?_
      refine jj_iload dX0_worked_73 4 rfl ?_
      refine jj_iconst (1) dX0_worked_75 rfl ?_
      refine jj_isub dX0_worked_76 ?_
      refine jj_aload_n dX0_worked_77 0 rfl ?_
      refine jg_0_3 (k := p0) hp0 lk_0_15 dX0_worked_78 ?_
      refine jj_iload dX0_worked_81 4 rfl ?_
      refine jj_iconst (1) dX0_worked_83 rfl ?_
      refine jj_isub dX0_worked_84 ?_
      obtain ⟨g3, h⟩ := jj_ge h
      refine jj_iaload (k := p0 + 2) (n := 50) (jk_0_3 hp0) g3 dX0_worked_85 ?_
      refine jj_if_ne 93 dX0_worked_86 (by decide) (fun c4 => ?_) (fun c4 => ?_)
      · replace h := (if_neg c4).symm.trans h
        refine jj_iconst (0) dX0_worked_93 rfl ?_
        obtain ⟨g5, h⟩ := jj_ge h
        refine jj_iastore (k := p0 + 2) (n := 50) (jk_0_3 hp0) g5 dX0_worked_94 ?_
        refine jj_goto 138 dX0_worked_95 (by decide) ?_
        refine jj_iinc (x5 + 1) [(5, .int (x5 + 1)), (0, .ref (jj_ad g p0)), (1, .int x1), (2, .int x2), (3, .int x3), (4, .int x4), (6, .int x6)] dX0_worked_138 5 rfl rfl (by decide) rfl ?_
        refine jj_goto 6 dX0_worked_141 (by decide) ?_
        refine jj_sub [1, 2, 3, 4, 5, 0] rfl ?_
        exact hk6 _ _ _ h
      · replace h := (if_pos c4).symm.trans h
        refine jj_iconst (1) dX0_worked_89 rfl ?_
        refine jj_goto 94 dX0_worked_90 (by decide) ?_
        obtain ⟨g6, h⟩ := jj_ge h
        refine jj_iastore (k := p0 + 2) (n := 50) (jk_0_3 hp0) g6 dX0_worked_94 ?_
        refine jj_goto 138 dX0_worked_95 (by decide) ?_
        refine jj_iinc (x5 + 1) [(5, .int (x5 + 1)), (0, .ref (jj_ad g p0)), (1, .int x1), (2, .int x2), (3, .int x3), (4, .int x4), (6, .int x6)] dX0_worked_138 5 rfl rfl (by decide) rfl ?_
        refine jj_goto 6 dX0_worked_141 (by decide) ?_
        refine jj_sub [1, 2, 3, 4, 5, 0] rfl ?_
        exact hk6 _ _ _ h
def laf_worked_L6 (N : Nat)  (p0 : Nat) (x1 : Int32) (x2 : Int32) (x3 : Int32) : Nat → Int32 → Int32 → jj_M → Option (Int32 × jj_M)
  | 0, _, _, _ => none
  | n + 1, x4, x5, μ => if (μ p0 1) ≤ x5 then some ((μ (p0 + 2) 0, μ)) else if jj_i x5 50 then if (μ (p0 + 1) x5.toNatClampNeg) < 0 then laf_worked_B57 N (laf_worked_L6 N p0 x1 x2 x3 n) p0 x1 x2 x3 x4 x5 (μ (p0 + 1) x5.toNatClampNeg) μ else if 50 ≤ x4 then laf_worked_B57 N (laf_worked_L6 N p0 x1 x2 x3 n) p0 x1 x2 x3 x4 x5 (μ (p0 + 1) x5.toNatClampNeg) μ else if jj_i x4 50 then (some (jj_u μ (p0 + 2) x4.toNatClampNeg (laf_plain (μ (p0 + 1) x5.toNatClampNeg) x1 x2 x3))).bind fun m6 => laf_worked_L6 N p0 x1 x2 x3 n (x4 + 1) (x5 + 1) m6 else none else none
set_option maxRecDepth 100000 in
theorem t_laf_worked_L6 {g : jj_G} (d : Nat) {N : Nat}  {p0 : Nat} {x1 : Int32} {x2 : Int32} {x3 : Int32}  {r : Int32} {μ' : jj_M} {X : jj_X}  (hp0 : jj_kd p0 = 0) (hF : jj_F g (some .int) (some (.int r)) μ' X)  : ∀ (n : Nat) (x4 : Int32) (x5 : Int32) (μ : jj_M), laf_worked_L6 N p0 x1 x2 x3 n x4 x5 μ = some (r, μ') → jj_V g X RX0 cX0_worked 7 (d + 1) 6 [(0, .ref (jj_ad g p0)), (1, .int x1), (2, .int x2), (3, .int x3), (4, .int x4), (5, .int x5)] [] μ := by
  intro n
  induction n with
  | zero =>
    intro x4 x5 μ h
    exact (jj_no h).elim
  | succ n ih =>
    intro x4 x5 μ h
    rw [laf_worked_L6] at h
    refine jj_iload dX0_worked_6 5 rfl ?_
    refine jj_aload_n dX0_worked_8 0 rfl ?_
    refine jg_0_1 (k := p0) hp0 lk_0_28 dX0_worked_9 ?_
    refine jj_icmp_ge 144 dX0_worked_12 (by decide) (fun c1 => ?_) (fun c1 => ?_)
    · replace h := (if_pos c1).symm.trans h
      refine jj_aload_n dX0_worked_144 0 rfl ?_
      refine jg_0_3 (k := p0) hp0 lk_0_15 dX0_worked_145 ?_
      refine jj_iconst (0) dX0_worked_148 rfl ?_
      refine jj_iaload (k := p0 + 2) (n := 50) (jk_0_3 hp0) (show jj_i 0 50 by decide) dX0_worked_149 ?_
      show jj_V g X _ _ _ _ _ _ (.int (μ (p0 + 2) 0) :: _) _
      exact jj_iret2 hF dX0_worked_150 (Option.some.inj h)
    · replace h := (if_neg c1).symm.trans h
      refine jj_aload_n dX0_worked_15 0 rfl ?_
      refine jg_0_0 (k := p0) hp0 lk_0_9 dX0_worked_16 ?_
      refine jj_iload dX0_worked_19 5 rfl ?_
      obtain ⟨g2, h⟩ := jj_ge h
      refine jj_iaload (k := p0 + 1) (n := 50) (jk_0_0 hp0) g2 dX0_worked_21 ?_
      refine jj_istore [(6, .int (μ (p0 + 1) x5.toNatClampNeg)), (0, .ref (jj_ad g p0)), (1, .int x1), (2, .int x2), (3, .int x3), (4, .int x4), (5, .int x5)] dX0_worked_22 (by decide) rfl ?_
      refine jj_iload dX0_worked_24 0 rfl ?_
      refine jj_if_lt 57 dX0_worked_26 (by decide) (fun c3 => ?_) (fun c3 => ?_)
      · replace h := (if_pos c3).symm.trans h
        refine jj_sub [1, 2, 3, 4, 5, 6, 0] rfl ?_
        exact t_laf_worked_B57 d  hp0 hF ih h
      · replace h := (if_neg c3).symm.trans h
        refine jj_iload dX0_worked_29 5 rfl ?_
        refine jj_bipush (50) dX0_worked_31 rfl ?_
        refine jj_icmp_ge 57 dX0_worked_33 (by decide) (fun c4 => ?_) (fun c4 => ?_)
        · replace h := (if_pos c4).symm.trans h
          refine jj_sub [1, 2, 3, 4, 5, 6, 0] rfl ?_
          exact t_laf_worked_B57 d  hp0 hF ih h
        · replace h := (if_neg c4).symm.trans h
          refine jj_aload_n dX0_worked_36 1 rfl ?_
          refine jg_0_3 (k := p0) hp0 lk_0_15 dX0_worked_37 ?_
          refine jj_iload dX0_worked_40 5 rfl ?_
          refine jj_iload dX0_worked_42 0 rfl ?_
          refine jj_iload_n dX0_worked_44 2 rfl ?_
          refine jj_iload_n dX0_worked_45 3 rfl ?_
          refine jj_iload_n dX0_worked_46 4 rfl ?_
          refine jj_callSi [.int (μ (p0 + 1) x5.toNatClampNeg), .int x1, .int x2, .int x3] [.int x4, .ref (jj_ad g (p0 + 2))] (c_laf_plain (d + 0)  rfl) jm_laf_plain lk_0_47 rfl (by omega) rfl (Nat.le_of_ble_eq_true rfl) dX0_worked_47 ?_
          obtain ⟨g5, h⟩ := jj_ge h
          refine jj_iastore (k := p0 + 2) (n := 50) (jk_0_3 hp0) g5 dX0_worked_50 ?_
          obtain ⟨m6, em6, h⟩ := jj_be h
          refine jj_mu em6 ?_
          refine jj_iinc (x4 + 1) [(4, .int (x4 + 1)), (6, .int (μ (p0 + 1) x5.toNatClampNeg)), (0, .ref (jj_ad g p0)), (1, .int x1), (2, .int x2), (3, .int x3), (5, .int x5)] dX0_worked_51 5 rfl rfl (by decide) rfl ?_
          refine jj_goto 138 dX0_worked_54 (by decide) ?_
          refine jj_iinc (x5 + 1) [(5, .int (x5 + 1)), (4, .int (x4 + 1)), (6, .int (μ (p0 + 1) x5.toNatClampNeg)), (0, .ref (jj_ad g p0)), (1, .int x1), (2, .int x2), (3, .int x3)] dX0_worked_138 6 rfl rfl (by decide) rfl ?_
          refine jj_goto 6 dX0_worked_141 (by decide) ?_
          refine jj_sub [3, 4, 5, 6, 1, 0] rfl ?_
          exact ih _ _ _ h
def laf_worked (N : Nat) (p0 : Nat) (x1 : Int32) (x2 : Int32) (x3 : Int32) (μ : jj_M) : Option (Int32 × jj_M) := laf_worked_L6 N p0 x1 x2 x3 N 0 0 μ
set_option maxRecDepth 100000 in
theorem c_laf_worked {g : jj_G} (d : Nat) {N : Nat} {p0 : Nat} {x1 : Int32} {x2 : Int32} {x3 : Int32} {μ : jj_M} {r : Int32} {μ' : jj_M}  (hp0 : jj_kd p0 = 0) (h : laf_worked N p0 x1 x2 x3 μ = some (r, μ')) : jj_N g yX0_worked cX0_worked 7 (some .int) (d + 1) [.ref (jj_ad g p0), .int x1, .int x2, .int x3] μ (some (.int r)) μ' := by
  refine jj_N_of jn_0 (Nat.le_of_ble_eq_true rfl) (fun X hF => ?_)
  unfold laf_worked at h
  refine jj_sub (own := RX0) (lv2 := [(0, .ref (jj_ad g p0)), (1, .int x1), (2, .int x2), (3, .int x3)]) [0, 1, 2, 3] rfl ?_
  refine jj_iconst (0) dX0_worked_0 rfl ?_
  refine jj_istore [(4, .int 0), (0, .ref (jj_ad g p0)), (1, .int x1), (2, .int x2), (3, .int x3)] dX0_worked_1 (by decide) rfl ?_
  refine jj_iconst (0) dX0_worked_3 rfl ?_
  refine jj_istore [(5, .int 0), (4, .int 0), (0, .ref (jj_ad g p0)), (1, .int x1), (2, .int x2), (3, .int x3)] dX0_worked_4 (by decide) rfl ?_
  refine jj_sub [2, 3, 4, 5, 1, 0] rfl ?_
  exact t_laf_worked_L6 d  hp0 hF  _ _ _ _ h
def laf_gives (N : Nat) (p0 : Nat) (x1 : Int32) (x2 : Int32) (x3 : Int32) (μ : jj_M) : Option (Int32 × jj_M) := if (μ p0 1) = 0 then some ((jdf_max 0 (jdf_min 99 (laf_withoutText p0 x1 x2 μ)), μ)) else (laf_worked N p0 x1 x2 x3 μ).bind fun q2 => some ((jdf_max 0 (jdf_min 99 q2.1), q2.2))
set_option maxRecDepth 100000 in
theorem c_laf_gives {g : jj_G} (d : Nat) {N : Nat} {p0 : Nat} {x1 : Int32} {x2 : Int32} {x3 : Int32} {μ : jj_M} {r : Int32} {μ' : jj_M}  (hp0 : jj_kd p0 = 0) (h : laf_gives N p0 x1 x2 x3 μ = some (r, μ')) : jj_N g yX0_gives cX0_gives 5 (some .int) (d + 2) [.ref (jj_ad g p0), .int x1, .int x2, .int x3] μ (some (.int r)) μ' := by
  refine jj_N_of jn_0 (Nat.le_of_ble_eq_true rfl) (fun X hF => ?_)
  unfold laf_gives at h
  refine jj_sub (own := RX0) (lv2 := [(0, .ref (jj_ad g p0)), (1, .int x1), (2, .int x2), (3, .int x3)]) [0, 1, 2, 3] rfl ?_
  refine jj_aload_n dX0_gives_0 0 rfl ?_
  refine jg_0_1 (k := p0) hp0 lk_0_28 dX0_gives_1 ?_
  refine jj_if_ne 16 dX0_gives_4 (by decide) (fun c1 => ?_) (fun c1 => ?_)
  · replace h := (if_neg c1).symm.trans h
    refine jj_aload_n dX0_gives_16 0 rfl ?_
    refine jj_iload_n dX0_gives_17 1 rfl ?_
    refine jj_iload_n dX0_gives_18 2 rfl ?_
    refine jj_iload_n dX0_gives_19 3 rfl ?_
    obtain ⟨q2, e2, h⟩ := jj_be h
    refine jj_callVi [.int x1, .int x2, .int x3] [] (c_laf_worked (d + 0) hp0 e2) jm_laf_worked lk_0_40 (b := p0) hp0 (by decide) (jj_E0 hp0) rfl rfl rfl (by omega) rfl (Nat.le_of_ble_eq_true rfl) dX0_gives_20 ?_
    refine jj_istore [(4, .int q2.1), (0, .ref (jj_ad g p0)), (1, .int x1), (2, .int x2), (3, .int x3)] dX0_gives_23 (by decide) rfl ?_
    refine jj_iconst (0) dX0_gives_25 rfl ?_
    refine jj_bipush (99) dX0_gives_26 rfl ?_
    refine jj_iload dX0_gives_28 0 rfl ?_
    refine jj_mmin lk_0_22 (by omega) (Nat.le_of_ble_eq_true rfl) dX0_gives_30 ?_
    refine jj_mmax lk_0_44 (by omega) (Nat.le_of_ble_eq_true rfl) dX0_gives_33 ?_
    exact jj_iret2 hF dX0_gives_36 (Option.some.inj h)
  · replace h := (if_pos c1).symm.trans h
    refine jj_aload_n dX0_gives_7 0 rfl ?_
    refine jj_iload_n dX0_gives_8 1 rfl ?_
    refine jj_iload_n dX0_gives_9 2 rfl ?_
    refine jj_callVi [.int x1, .int x2] [] (c_laf_withoutText (d + 1) hp0 rfl) jm_laf_withoutText lk_0_37 (b := p0) hp0 (by decide) (jj_E0 hp0) rfl rfl rfl (by omega) rfl (Nat.le_of_ble_eq_true rfl) dX0_gives_10 ?_
    refine jj_goto 23 dX0_gives_13 (by decide) ?_
    refine jj_istore [(4, .int (laf_withoutText p0 x1 x2 μ)), (0, .ref (jj_ad g p0)), (1, .int x1), (2, .int x2), (3, .int x3)] dX0_gives_23 (by decide) rfl ?_
    refine jj_iconst (0) dX0_gives_25 rfl ?_
    refine jj_bipush (99) dX0_gives_26 rfl ?_
    refine jj_iload dX0_gives_28 0 rfl ?_
    refine jj_mmin lk_0_22 (by omega) (Nat.le_of_ble_eq_true rfl) dX0_gives_30 ?_
    refine jj_mmax lk_0_44 (by omega) (Nat.le_of_ble_eq_true rfl) dX0_gives_33 ?_
    exact jj_iret2 hF dX0_gives_36 (Option.some.inj h)
def wof_needs (N : Nat) (p0 : Nat) (p1 : Nat) (x2 : Int32) (μ : jj_M) : Option (Int32 × jj_M) := if (μ p1 0) = 3 then (laf_gives N ((p0 + 5) + 9) (μ p1 1) x2 (μ p0 10) μ).bind fun q2 => some ((q2.1, q2.2)) else if (μ p1 0) = 6 then (laf_gives N ((p0 + 5) + 9) (μ p1 1) x2 (μ p0 10) μ).bind fun q4 => some ((q4.1 + (q4.2 p1 1), q4.2)) else some ((1, μ))
set_option maxRecDepth 100000 in
theorem c_wof_needs {g : jj_G} (d : Nat) {N : Nat} {p0 : Nat} {p1 : Nat} {x2 : Int32} {μ : jj_M} {r : Int32} {μ' : jj_M}  (hp0 : jj_kd p0 = 6) (hp1 : jj_kd p1 = 1) (h : wof_needs N p0 p1 x2 μ = some (r, μ')) : jj_N g yX6_needs cX6_needs 3 (some .int) (d + 3) [.ref (jj_ad g p0), .ref (jj_ad g p1), .int x2] μ (some (.int r)) μ' := by
  refine jj_N_of jn_6 (Nat.le_of_ble_eq_true rfl) (fun X hF => ?_)
  unfold wof_needs at h
  refine jj_sub (own := RX6) (lv2 := [(0, .ref (jj_ad g p0)), (1, .ref (jj_ad g p1)), (2, .int x2)]) [0, 1, 2] rfl ?_
  refine jj_aload_n dX6_needs_0 1 rfl ?_
  refine jg_1_0 (k := p1) hp1 lk_6_90 dX6_needs_1 ?_
  by_cases c1 : (μ p1 0) = 3
  · replace h := (if_pos c1).symm.trans h
    refine jj_lookup 32 dX6_needs_4 (by decide +kernel) (by rw [c1]; rfl) (show (4 : Int) + 28 = (32 : Nat) by decide) ?_
    refine jj_aload_n dX6_needs_32 0 rfl ?_
    refine jg_6_4 (k := p0) hp0 lk_6_32 dX6_needs_33 ?_
    refine jj_iconst (0) dX6_needs_36 rfl ?_
    refine jj_aaload11c (k := p0 + 5) 0 ((p0 + 5) + 9) (by decide) rfl (jk_6_4 hp0) (show jj_i 0 2 by decide) dX6_needs_37 ?_
    refine jj_aload_n dX6_needs_38 1 rfl ?_
    refine jg_1_1 (k := p1) hp1 lk_6_93 dX6_needs_39 ?_
    refine jj_iload_n dX6_needs_42 2 rfl ?_
    refine jj_aload_n dX6_needs_43 0 rfl ?_
    refine jg_6_10 (k := p0) hp0 lk_6_81 dX6_needs_44 ?_
    obtain ⟨q2, e2, h⟩ := jj_be h
    refine jj_callVi [.int (μ p1 1), .int x2, .int (μ p0 10)] [] (c_laf_gives (d + 0) (jk_11_0 (k := p0 + 5) (jk_6_4 hp0)) e2) jm_laf_gives lk_6_96 (b := (p0 + 5) + 9) (jk_11_0 (k := p0 + 5) (jk_6_4 hp0)) (by decide) (jj_E0 (jk_11_0 (k := p0 + 5) (jk_6_4 hp0))) rfl rfl rfl (by omega) rfl (Nat.le_of_ble_eq_true rfl) dX6_needs_47 ?_
    exact jj_iret2 hF dX6_needs_50 (Option.some.inj h)
  replace h := (if_neg c1).symm.trans h
  by_cases c3 : (μ p1 0) = 6
  · replace h := (if_pos c3).symm.trans h
    refine jj_lookup 51 dX6_needs_4 (by decide +kernel) (by rw [c3]; rfl) (show (4 : Int) + 47 = (51 : Nat) by decide) ?_
    refine jj_aload_n dX6_needs_51 0 rfl ?_
    refine jg_6_4 (k := p0) hp0 lk_6_32 dX6_needs_52 ?_
    refine jj_iconst (0) dX6_needs_55 rfl ?_
    refine jj_aaload11c (k := p0 + 5) 0 ((p0 + 5) + 9) (by decide) rfl (jk_6_4 hp0) (show jj_i 0 2 by decide) dX6_needs_56 ?_
    refine jj_aload_n dX6_needs_57 1 rfl ?_
    refine jg_1_1 (k := p1) hp1 lk_6_93 dX6_needs_58 ?_
    refine jj_iload_n dX6_needs_61 2 rfl ?_
    refine jj_aload_n dX6_needs_62 0 rfl ?_
    refine jg_6_10 (k := p0) hp0 lk_6_81 dX6_needs_63 ?_
    obtain ⟨q4, e4, h⟩ := jj_be h
    refine jj_callVi [.int (μ p1 1), .int x2, .int (μ p0 10)] [] (c_laf_gives (d + 0) (jk_11_0 (k := p0 + 5) (jk_6_4 hp0)) e4) jm_laf_gives lk_6_96 (b := (p0 + 5) + 9) (jk_11_0 (k := p0 + 5) (jk_6_4 hp0)) (by decide) (jj_E0 (jk_11_0 (k := p0 + 5) (jk_6_4 hp0))) rfl rfl rfl (by omega) rfl (Nat.le_of_ble_eq_true rfl) dX6_needs_66 ?_
    refine jj_aload_n dX6_needs_69 1 rfl ?_
    refine jg_1_1 (k := p1) hp1 lk_6_93 dX6_needs_70 ?_
    refine jj_iadd dX6_needs_73 ?_
    exact jj_iret2 hF dX6_needs_74 (Option.some.inj h)
  replace h := (if_neg c3).symm.trans h
  have c1 : ¬ Int32.toInt (μ p1 0) = 3 := fun w => c1 (Int32.toInt_inj.mp (w.trans (by decide)))
  have c3 : ¬ Int32.toInt (μ p1 0) = 6 := fun w => c3 (Int32.toInt_inj.mp (w.trans (by decide)))
  refine jj_lookup 75 dX6_needs_4 (by decide +kernel) (show Op.lookupswitch.offset [(3, 28), (6, 47)] 71 (Int32.toInt (μ p1 0)) = 71 by rw [Op.lookupswitch.offset_cons, if_neg (Ne.symm c1), Op.lookupswitch.offset_cons, if_neg (Ne.symm c3), Op.lookupswitch.offset_nil]) (show (4 : Int) + 71 = (75 : Nat) by decide) ?_
  refine jj_iconst (1) dX6_needs_75 rfl ?_
  exact jj_iret2 hF dX6_needs_76 (Option.some.inj h)
def wnf_ofPerson (N : Nat) (x1 : Int32) (x2 : Int32) (μ : jj_M) : Option (Int32 × jj_M) := if (wnf_isPerson x1 μ) = 0 then (wnf_refuse 1 μ).bind fun q16 => some ((q16.1, q16.2)) else if jj_i x1 6 then if x2 = 0 then some ((μ (5 + 4 + x1.toNatClampNeg) 0, μ)) else if x2 = 1 then some ((μ (5 + 4 + x1.toNatClampNeg) 1, μ)) else if x2 = 2 then some ((μ (5 + 4 + x1.toNatClampNeg) 2, μ)) else if x2 = 3 then some ((μ (5 + 4 + x1.toNatClampNeg) 3, μ)) else if x2 = 4 then some ((μ (5 + 4 + x1.toNatClampNeg) 4, μ)) else if x2 = 5 then if (μ (5 + 4 + x1.toNatClampNeg) 5) = 0 then some ((0, μ)) else some ((1, μ)) else if x2 = 6 then some ((pef_limit (5 + 4 + x1.toNatClampNeg) μ, μ)) else if x2 = 7 then (wof_needs N 1 (5 + 4 + x1.toNatClampNeg) (μ (5 + 4 + x1.toNatClampNeg) 4) μ).bind fun q12 => some ((q12.1, q12.2)) else if x2 = 8 then (wof_debtOf N 1 (μ (5 + 4 + x1.toNatClampNeg) 3) μ).bind fun q14 => some ((q14, μ)) else (wnf_refuse 1 μ).bind fun q15 => some ((q15.1, q15.2)) else none
set_option maxRecDepth 100000 in
theorem c_wnf_ofPerson {g : jj_G} (d : Nat) {N : Nat} {x1 : Int32} {x2 : Int32} {μ : jj_M} {r : Int32} {μ' : jj_M}   (h : wnf_ofPerson N x1 x2 μ = some (r, μ')) : jj_N g yX7_ofPerson cX7_ofPerson 4 (some .int) (d + 4) [.ref (jj_ad g 0), .int x1, .int x2] μ (some (.int r)) μ' := by
  refine jj_N_of jn_7 (Nat.le_of_ble_eq_true rfl) (fun X hF => ?_)
  unfold wnf_ofPerson at h
  refine jj_sub (own := RX7) (lv2 := [(0, .ref (jj_ad g 0)), (1, .int x1), (2, .int x2)]) [0, 1, 2] rfl ?_
  refine jj_aload_n dX7_ofPerson_0 0 rfl ?_
  refine jj_iload_n dX7_ofPerson_1 1 rfl ?_
  refine jj_callVi [.int x1] [] (c_wnf_isPerson (d + 2)  rfl) jm_wnf_isPerson lk_7_108 (b := 0) rfl (by decide) (jj_E7 rfl) rfl rfl rfl (by omega) rfl (Nat.le_of_ble_eq_true rfl) dX7_ofPerson_2 ?_
  refine jj_if_ne 14 dX7_ofPerson_5 (by decide) (fun c1 => ?_) (fun c1 => ?_)
  · replace h := (if_neg c1).symm.trans h
    refine jj_aload_n dX7_ofPerson_14 0 rfl ?_
    refine jg_7_0 (k := 0) rfl lk_7_10 dX7_ofPerson_15 ?_
    show jj_V g X _ _ _ _ _ _ (.ref (jj_ad g 1) :: _) _
    refine jg_6_3 (k := 1) rfl lk_7_98 dX7_ofPerson_18 ?_
    show jj_V g X _ _ _ _ _ _ (.ref (jj_ad g 5) :: _) _
    refine jj_iload_n dX7_ofPerson_21 1 rfl ?_
    obtain ⟨g2, h⟩ := jj_ge h
    refine jj_aaload10 (k := 5) rfl g2 dX7_ofPerson_22 ?_
    refine jj_astore_n [(3, .ref (jj_ad g (5 + 4 + x1.toNatClampNeg))), (0, .ref (jj_ad g 0)), (1, .int x1), (2, .int x2)] dX7_ofPerson_23 (by decide) rfl ?_
    refine jj_iload_n dX7_ofPerson_24 3 rfl ?_
    by_cases c3 : x2 = 0
    · replace h := (if_pos c3).symm.trans h
      refine jj_tableIn 76 dX7_ofPerson_25 (by rw [c3]; decide) (by rw [c3]; decide) (by rw [c3]; rfl) (show (25 : Int) + 51 = (76 : Nat) by decide) ?_
      refine jj_aload_n dX7_ofPerson_76 0 rfl ?_
      refine jg_1_0 (k := 5 + 4 + x1.toNatClampNeg) (jk_10 (k := 5) rfl g2) lk_7_111 dX7_ofPerson_77 ?_
      exact jj_iret2 hF dX7_ofPerson_80 (Option.some.inj h)
    replace h := (if_neg c3).symm.trans h
    by_cases c4 : x2 = 1
    · replace h := (if_pos c4).symm.trans h
      refine jj_tableIn 81 dX7_ofPerson_25 (by rw [c4]; decide) (by rw [c4]; decide) (by rw [c4]; rfl) (show (25 : Int) + 56 = (81 : Nat) by decide) ?_
      refine jj_aload_n dX7_ofPerson_81 0 rfl ?_
      refine jg_1_1 (k := 5 + 4 + x1.toNatClampNeg) (jk_10 (k := 5) rfl g2) lk_7_114 dX7_ofPerson_82 ?_
      exact jj_iret2 hF dX7_ofPerson_85 (Option.some.inj h)
    replace h := (if_neg c4).symm.trans h
    by_cases c5 : x2 = 2
    · replace h := (if_pos c5).symm.trans h
      refine jj_tableIn 86 dX7_ofPerson_25 (by rw [c5]; decide) (by rw [c5]; decide) (by rw [c5]; rfl) (show (25 : Int) + 61 = (86 : Nat) by decide) ?_
      refine jj_aload_n dX7_ofPerson_86 0 rfl ?_
      refine jg_1_2 (k := 5 + 4 + x1.toNatClampNeg) (jk_10 (k := 5) rfl g2) lk_7_117 dX7_ofPerson_87 ?_
      exact jj_iret2 hF dX7_ofPerson_90 (Option.some.inj h)
    replace h := (if_neg c5).symm.trans h
    by_cases c6 : x2 = 3
    · replace h := (if_pos c6).symm.trans h
      refine jj_tableIn 91 dX7_ofPerson_25 (by rw [c6]; decide) (by rw [c6]; decide) (by rw [c6]; rfl) (show (25 : Int) + 66 = (91 : Nat) by decide) ?_
      refine jj_aload_n dX7_ofPerson_91 0 rfl ?_
      refine jg_1_3 (k := 5 + 4 + x1.toNatClampNeg) (jk_10 (k := 5) rfl g2) lk_7_120 dX7_ofPerson_92 ?_
      exact jj_iret2 hF dX7_ofPerson_95 (Option.some.inj h)
    replace h := (if_neg c6).symm.trans h
    by_cases c7 : x2 = 4
    · replace h := (if_pos c7).symm.trans h
      refine jj_tableIn 96 dX7_ofPerson_25 (by rw [c7]; decide) (by rw [c7]; decide) (by rw [c7]; rfl) (show (25 : Int) + 71 = (96 : Nat) by decide) ?_
      refine jj_aload_n dX7_ofPerson_96 0 rfl ?_
      refine jg_1_4 (k := 5 + 4 + x1.toNatClampNeg) (jk_10 (k := 5) rfl g2) lk_7_123 dX7_ofPerson_97 ?_
      exact jj_iret2 hF dX7_ofPerson_100 (Option.some.inj h)
    replace h := (if_neg c7).symm.trans h
    by_cases c8 : x2 = 5
    · replace h := (if_pos c8).symm.trans h
      refine jj_tableIn 101 dX7_ofPerson_25 (by rw [c8]; decide) (by rw [c8]; decide) (by rw [c8]; rfl) (show (25 : Int) + 76 = (101 : Nat) by decide) ?_
      refine jj_aload_n dX7_ofPerson_101 0 rfl ?_
      refine jg_1_5 (k := 5 + 4 + x1.toNatClampNeg) (jk_10 (k := 5) rfl g2) lk_7_126 dX7_ofPerson_102 ?_
      refine jj_if_eq 112 dX7_ofPerson_105 (by decide) (fun c9 => ?_) (fun c9 => ?_)
      · replace h := (if_pos c9).symm.trans h
        refine jj_iconst (0) dX7_ofPerson_112 rfl ?_
        exact jj_iret2 hF dX7_ofPerson_113 (Option.some.inj h)
      · replace h := (if_neg c9).symm.trans h
        refine jj_iconst (1) dX7_ofPerson_108 rfl ?_
        refine jj_goto 113 dX7_ofPerson_109 (by decide) ?_
        exact jj_iret2 hF dX7_ofPerson_113 (Option.some.inj h)
    replace h := (if_neg c8).symm.trans h
    by_cases c10 : x2 = 6
    · replace h := (if_pos c10).symm.trans h
      refine jj_tableIn 114 dX7_ofPerson_25 (by rw [c10]; decide) (by rw [c10]; decide) (by rw [c10]; rfl) (show (25 : Int) + 89 = (114 : Nat) by decide) ?_
      refine jj_aload_n dX7_ofPerson_114 0 rfl ?_
      refine jj_callVi [] [] (c_pef_limit (d + 3) (jk_10 (k := 5) rfl g2) rfl) jm_pef_limit lk_7_130 (b := 5 + 4 + x1.toNatClampNeg) (jk_10 (k := 5) rfl g2) (by decide) (jj_E1 (jk_10 (k := 5) rfl g2)) rfl rfl rfl (by omega) rfl (Nat.le_of_ble_eq_true rfl) dX7_ofPerson_115 ?_
      exact jj_iret2 hF dX7_ofPerson_118 (Option.some.inj h)
    replace h := (if_neg c10).symm.trans h
    by_cases c11 : x2 = 7
    · replace h := (if_pos c11).symm.trans h
      refine jj_tableIn 119 dX7_ofPerson_25 (by rw [c11]; decide) (by rw [c11]; decide) (by rw [c11]; rfl) (show (25 : Int) + 94 = (119 : Nat) by decide) ?_
      refine jj_aload_n dX7_ofPerson_119 1 rfl ?_
      refine jg_7_0 (k := 0) rfl lk_7_10 dX7_ofPerson_120 ?_
      show jj_V g X _ _ _ _ _ _ (.ref (jj_ad g 1) :: _) _
      refine jj_aload_n dX7_ofPerson_123 0 rfl ?_
      refine jj_aload_n dX7_ofPerson_124 0 rfl ?_
      refine jg_1_4 (k := 5 + 4 + x1.toNatClampNeg) (jk_10 (k := 5) rfl g2) lk_7_123 dX7_ofPerson_125 ?_
      obtain ⟨q12, e12, h⟩ := jj_be h
      refine jj_callVi [.ref (jj_ad g (5 + 4 + x1.toNatClampNeg)), .int (μ (5 + 4 + x1.toNatClampNeg) 4)] [] (c_wof_needs (d + 0) rfl (jk_10 (k := 5) rfl g2) e12) jm_wof_needs lk_7_134 (b := 1) rfl (by decide) (jj_E6 rfl) rfl rfl rfl (by omega) rfl (Nat.le_of_ble_eq_true rfl) dX7_ofPerson_128 ?_
      exact jj_iret2 hF dX7_ofPerson_131 (Option.some.inj h)
    replace h := (if_neg c11).symm.trans h
    by_cases c13 : x2 = 8
    · replace h := (if_pos c13).symm.trans h
      refine jj_tableIn 132 dX7_ofPerson_25 (by rw [c13]; decide) (by rw [c13]; decide) (by rw [c13]; rfl) (show (25 : Int) + 107 = (132 : Nat) by decide) ?_
      refine jj_aload_n dX7_ofPerson_132 1 rfl ?_
      refine jg_7_0 (k := 0) rfl lk_7_10 dX7_ofPerson_133 ?_
      show jj_V g X _ _ _ _ _ _ (.ref (jj_ad g 1) :: _) _
      refine jj_aload_n dX7_ofPerson_136 0 rfl ?_
      refine jg_1_3 (k := 5 + 4 + x1.toNatClampNeg) (jk_10 (k := 5) rfl g2) lk_7_120 dX7_ofPerson_137 ?_
      obtain ⟨q14, e14, h⟩ := jj_be h
      refine jj_callVi [.int (μ (5 + 4 + x1.toNatClampNeg) 3)] [] (c_wof_debtOf (d + 0) rfl e14) jm_wof_debtOf lk_7_85 (b := 1) rfl (by decide) (jj_E6 rfl) rfl rfl rfl (by omega) rfl (Nat.le_of_ble_eq_true rfl) dX7_ofPerson_140 ?_
      exact jj_iret2 hF dX7_ofPerson_143 (Option.some.inj h)
    replace h := (if_neg c13).symm.trans h
    have c3 : ¬ Int32.toInt x2 = 0 := fun w => c3 (Int32.toInt_inj.mp (w.trans (by decide)))
    have c4 : ¬ Int32.toInt x2 = 1 := fun w => c4 (Int32.toInt_inj.mp (w.trans (by decide)))
    have c5 : ¬ Int32.toInt x2 = 2 := fun w => c5 (Int32.toInt_inj.mp (w.trans (by decide)))
    have c6 : ¬ Int32.toInt x2 = 3 := fun w => c6 (Int32.toInt_inj.mp (w.trans (by decide)))
    have c7 : ¬ Int32.toInt x2 = 4 := fun w => c7 (Int32.toInt_inj.mp (w.trans (by decide)))
    have c8 : ¬ Int32.toInt x2 = 5 := fun w => c8 (Int32.toInt_inj.mp (w.trans (by decide)))
    have c10 : ¬ Int32.toInt x2 = 6 := fun w => c10 (Int32.toInt_inj.mp (w.trans (by decide)))
    have c11 : ¬ Int32.toInt x2 = 7 := fun w => c11 (Int32.toInt_inj.mp (w.trans (by decide)))
    have c13 : ¬ Int32.toInt x2 = 8 := fun w => c13 (Int32.toInt_inj.mp (w.trans (by decide)))
    refine jj_tableOut 144 dX7_ofPerson_25 (by omega) (by decide) ?_
    refine jj_aload_n dX7_ofPerson_144 1 rfl ?_
    refine jj_iconst (1) dX7_ofPerson_145 rfl ?_
    obtain ⟨q15, e15, h⟩ := jj_be h
    refine jj_callVi [.int 1] [] (c_wnf_refuse (d + 3)  e15) jm_wnf_refuse lk_7_59 (b := 0) rfl (by decide) (jj_E7 rfl) rfl rfl rfl (by omega) rfl (Nat.le_of_ble_eq_true rfl) dX7_ofPerson_146 ?_
    exact jj_iret2 hF dX7_ofPerson_149 (Option.some.inj h)
  · replace h := (if_pos c1).symm.trans h
    refine jj_aload_n dX7_ofPerson_8 0 rfl ?_
    refine jj_iconst (1) dX7_ofPerson_9 rfl ?_
    obtain ⟨q16, e16, h⟩ := jj_be h
    refine jj_callVi [.int 1] [] (c_wnf_refuse (d + 3)  e16) jm_wnf_refuse lk_7_59 (b := 0) rfl (by decide) (jj_E7 rfl) rfl rfl rfl (by omega) rfl (Nat.le_of_ble_eq_true rfl) dX7_ofPerson_10 ?_
    exact jj_iret2 hF dX7_ofPerson_13 (Option.some.inj h)
def wnf_become  (x1 : Int32) (x2 : Int32) (μ : jj_M) : Option (Int32 × jj_M) := if (wnf_isPerson x1 μ) = 0 then (wnf_refuse 1 μ).bind fun q2 => some ((q2.1, q2.2)) else if (wnf_isKindWithNumber x2) = 0 then (wnf_refuse 1 μ).bind fun q6 => some ((q6.1, q6.2)) else if jj_i x1 6 then (some (jj_u (jj_u μ (5 + 4 + x1.toNatClampNeg) 0 (x2 / 10)) (5 + 4 + x1.toNatClampNeg) 1 (x2 - x2 / 10 * 10))).bind fun m5 => some ((μ (5 + 4 + x1.toNatClampNeg) 0, m5)) else none
set_option maxRecDepth 100000 in
theorem c_wnf_become {g : jj_G} (d : Nat)  {x1 : Int32} {x2 : Int32} {μ : jj_M} {r : Int32} {μ' : jj_M}   (h : wnf_become x1 x2 μ = some (r, μ')) : jj_N g yX7_become cX7_become 5 (some .int) (d + 2) [.ref (jj_ad g 0), .int x1, .int x2] μ (some (.int r)) μ' := by
  refine jj_N_of jn_7 (Nat.le_of_ble_eq_true rfl) (fun X hF => ?_)
  unfold wnf_become at h
  refine jj_sub (own := RX7) (lv2 := [(0, .ref (jj_ad g 0)), (1, .int x1), (2, .int x2)]) [0, 1, 2] rfl ?_
  refine jj_aload_n dX7_become_0 0 rfl ?_
  refine jj_iload_n dX7_become_1 1 rfl ?_
  refine jj_callVi [.int x1] [] (c_wnf_isPerson (d + 0)  rfl) jm_wnf_isPerson lk_7_108 (b := 0) rfl (by decide) (jj_E7 rfl) rfl rfl rfl (by omega) rfl (Nat.le_of_ble_eq_true rfl) dX7_become_2 ?_
  refine jj_if_eq 15 dX7_become_5 (by decide) (fun c1 => ?_) (fun c1 => ?_)
  · replace h := (if_pos c1).symm.trans h
    refine jj_aload_n dX7_become_15 0 rfl ?_
    refine jj_iconst (1) dX7_become_16 rfl ?_
    obtain ⟨q2, e2, h⟩ := jj_be h
    refine jj_callVi [.int 1] [] (c_wnf_refuse (d + 1)  e2) jm_wnf_refuse lk_7_59 (b := 0) rfl (by decide) (jj_E7 rfl) rfl rfl rfl (by omega) rfl (Nat.le_of_ble_eq_true rfl) dX7_become_17 ?_
    exact jj_iret2 hF dX7_become_20 (Option.some.inj h)
  · replace h := (if_neg c1).symm.trans h
    refine jj_iload_n dX7_become_8 2 rfl ?_
    refine jj_callSi [.int x2] [] (c_wnf_isKindWithNumber (d + 0)  rfl) jm_wnf_isKindWithNumber lk_7_92 rfl (by omega) rfl (Nat.le_of_ble_eq_true rfl) dX7_become_9 ?_
    refine jj_if_ne 21 dX7_become_12 (by decide) (fun c3 => ?_) (fun c3 => ?_)
    · replace h := (if_neg c3).symm.trans h
      refine jj_aload_n dX7_become_21 0 rfl ?_
      refine jg_7_0 (k := 0) rfl lk_7_10 dX7_become_22 ?_
      show jj_V g X _ _ _ _ _ _ (.ref (jj_ad g 1) :: _) _
      refine jg_6_3 (k := 1) rfl lk_7_98 dX7_become_25 ?_
      show jj_V g X _ _ _ _ _ _ (.ref (jj_ad g 5) :: _) _
      refine jj_iload_n dX7_become_28 1 rfl ?_
      obtain ⟨g4, h⟩ := jj_ge h
      refine jj_aaload10 (k := 5) rfl g4 dX7_become_29 ?_
      refine jj_astore_n [(3, .ref (jj_ad g (5 + 4 + x1.toNatClampNeg))), (0, .ref (jj_ad g 0)), (1, .int x1), (2, .int x2)] dX7_become_30 (by decide) rfl ?_
      refine jj_aload_n dX7_become_31 0 rfl ?_
      refine jg_1_0 (k := 5 + 4 + x1.toNatClampNeg) (jk_10 (k := 5) rfl g4) lk_7_111 dX7_become_32 ?_
      refine jj_istore [(4, .int (μ (5 + 4 + x1.toNatClampNeg) 0)), (3, .ref (jj_ad g (5 + 4 + x1.toNatClampNeg))), (0, .ref (jj_ad g 0)), (1, .int x1), (2, .int x2)] dX7_become_35 (by decide) rfl ?_
      refine jj_aload_n dX7_become_37 1 rfl ?_
      refine jj_iload_n dX7_become_38 4 rfl ?_
      refine jj_bipush (10) dX7_become_39 rfl ?_
      refine jj_idiv dX7_become_41 (by decide) ?_
      refine jp_1_0 (k := 5 + 4 + x1.toNatClampNeg) (jk_10 (k := 5) rfl g4) lk_7_111 dX7_become_42 ?_
      refine jj_aload_n dX7_become_45 1 rfl ?_
      refine jj_iload_n dX7_become_46 4 rfl ?_
      refine jj_bipush (10) dX7_become_47 rfl ?_
      refine jj_irem dX7_become_49 (by decide) ?_
      refine jp_1_1 (k := 5 + 4 + x1.toNatClampNeg) (jk_10 (k := 5) rfl g4) lk_7_114 dX7_become_50 ?_
      obtain ⟨m5, em5, h⟩ := jj_be h
      refine jj_mu em5 ?_
      refine jj_iload dX7_become_53 0 rfl ?_
      exact jj_iret2 hF dX7_become_55 (Option.some.inj h)
    · replace h := (if_pos c3).symm.trans h
      refine jj_aload_n dX7_become_15 0 rfl ?_
      refine jj_iconst (1) dX7_become_16 rfl ?_
      obtain ⟨q6, e6, h⟩ := jj_be h
      refine jj_callVi [.int 1] [] (c_wnf_refuse (d + 1)  e6) jm_wnf_refuse lk_7_59 (b := 0) rfl (by decide) (jj_E7 rfl) rfl rfl rfl (by omega) rfl (Nat.le_of_ble_eq_true rfl) dX7_become_17 ?_
      exact jj_iret2 hF dX7_become_20 (Option.some.inj h)
def pef_isOf_L7 (N : Nat)  (x1 : Int32) (μ : jj_M) : Nat → Int32 → Int32 → Option (Int32)
  | 0, _, _ => none
  | n + 1, x2, x3 => if 7 ≤ x3 then some 0 else if (wnf_within x2 0 6) = 0 then some 0 else if x2 = x1 then some 1 else if jj_i x2 7 then pef_isOf_L7 N x1 μ n (jj_KA x2.toNatClampNeg) (x3 + 1) else none
set_option maxRecDepth 100000 in
theorem t_pef_isOf_L7 {g : jj_G} (d : Nat) {N : Nat}  {x1 : Int32} {μ : jj_M}  {r : Int32} {X : jj_X}   (hF : jj_F g (some .boolean) (some (.int r)) μ X)  : ∀ (n : Nat) (x2 : Int32) (x3 : Int32), pef_isOf_L7 N x1 μ n x2 x3 = some r → jj_V g X RX1 cX1_isOf 4 (d + 1) 7 [(1, .int x1), (2, .int x2), (3, .int x3)] [] μ := by
  intro n
  induction n with
  | zero =>
    intro x2 x3 h
    exact (jj_no h).elim
  | succ n ih =>
    intro x2 x3 h
    rw [pef_isOf_L7] at h
    refine jj_iload_n dX1_isOf_7 2 rfl ?_
    refine jj_bipush (7) dX1_isOf_8 rfl ?_
    refine jj_icmp_ge 42 dX1_isOf_10 (by decide) (fun c1 => ?_) (fun c1 => ?_)
    · replace h := (if_pos c1).symm.trans h
      refine jj_iconst (0) dX1_isOf_42 rfl ?_
      exact jj_zret1 hF dX1_isOf_43 (Or.inl rfl) (Option.some.inj h)
    · replace h := (if_neg c1).symm.trans h
      refine jj_iload_n dX1_isOf_13 1 rfl ?_
      refine jj_iconst (0) dX1_isOf_14 rfl ?_
      refine jj_bipush (6) dX1_isOf_15 rfl ?_
      refine jj_callNi [.int x2, .int 0, .int 6] [] (c_wnf_within (d + 0)  rfl) jm_wnf_within (host := RX7) (fun w => w.2.1) rfl (by omega) rfl (Nat.le_of_ble_eq_true rfl) dX1_isOf_17 ?_
      refine jj_if_eq 42 dX1_isOf_20 (by decide) (fun c2 => ?_) (fun c2 => ?_)
      · replace h := (if_pos c2).symm.trans h
        refine jj_iconst (0) dX1_isOf_42 rfl ?_
        exact jj_zret1 hF dX1_isOf_43 (Or.inl rfl) (Option.some.inj h)
      · replace h := (if_neg c2).symm.trans h
        refine jj_iload_n dX1_isOf_23 1 rfl ?_
        refine jj_iload_n dX1_isOf_24 0 rfl ?_
        refine jj_icmp_ne 30 dX1_isOf_25 (by decide) (fun c3 => ?_) (fun c3 => ?_)
        · replace h := (if_neg c3).symm.trans h
          refine jj_gsKA1 dX1_isOf_30 ?_
          refine jj_iload_n dX1_isOf_33 1 rfl ?_
          obtain ⟨g4, h⟩ := jj_ge h
          refine jj_ldKA g4 dX1_isOf_34 ?_
          refine jj_istore_n [(2, .int (jj_KA x2.toNatClampNeg)), (1, .int x1), (3, .int x3)] dX1_isOf_35 (by decide) rfl ?_
          refine jj_iinc (x3 + 1) [(3, .int (x3 + 1)), (2, .int (jj_KA x2.toNatClampNeg)), (1, .int x1)] dX1_isOf_36 2 rfl rfl (by decide) rfl ?_
          refine jj_goto 7 dX1_isOf_39 (by decide) ?_
          refine jj_sub [2, 1, 0] rfl ?_
          exact ih _ _ h
        · replace h := (if_pos c3).symm.trans h
          refine jj_iconst (1) dX1_isOf_28 rfl ?_
          exact jj_zret1 hF dX1_isOf_29 (Or.inr rfl) (Option.some.inj h)
def pef_isOf (N : Nat) (p0 : Nat) (x1 : Int32) (μ : jj_M) : Option (Int32) := pef_isOf_L7 N x1 μ N (μ p0 0) 0
set_option maxRecDepth 100000 in
theorem c_pef_isOf {g : jj_G} (d : Nat) {N : Nat} {p0 : Nat} {x1 : Int32} {μ : jj_M} {r : Int32}  (hp0 : jj_kd p0 = 1) (h : pef_isOf N p0 x1 μ = some r) : jj_N g yX1_isOf cX1_isOf 4 (some .boolean) (d + 1) [.ref (jj_ad g p0), .int x1] μ (some (.int r)) μ := by
  refine jj_N_of jn_1 (Nat.le_of_ble_eq_true rfl) (fun X hF => ?_)
  unfold pef_isOf at h
  refine jj_sub (own := RX1) (lv2 := [(0, .ref (jj_ad g p0)), (1, .int x1)]) [0, 1] rfl ?_
  refine jj_aload_n dX1_isOf_0 0 rfl ?_
  refine jg_1_0 (k := p0) hp0 lk_1_15 dX1_isOf_1 ?_
  refine jj_istore_n [(2, .int (μ p0 0)), (0, .ref (jj_ad g p0)), (1, .int x1)] dX1_isOf_4 (by decide) rfl ?_
  refine jj_iconst (0) dX1_isOf_5 rfl ?_
  refine jj_istore_n [(3, .int 0), (2, .int (μ p0 0)), (0, .ref (jj_ad g p0)), (1, .int x1)] dX1_isOf_6 (by decide) rfl ?_
  refine jj_sub [3, 1, 0] rfl ?_
  exact t_pef_isOf_L7 d   hF  _ _ _ h
def wnf_as (N : Nat) (x1 : Int32) (x2 : Int32) (μ : jj_M) : Option (Int32 × jj_M) := if (wnf_isPerson x1 μ) = 0 then (wnf_refuse 1 μ).bind fun q2 => some ((q2.1, q2.2)) else if (wnf_within x2 0 6) = 0 then (wnf_refuse 1 μ).bind fun q8 => some ((q8.1, q8.2)) else if jj_i x1 6 then (pef_isOf N (5 + 4 + x1.toNatClampNeg) x2 μ).bind fun q5 => if q5 = 0 then (wnf_refuse 5 μ).bind fun q7 => some ((q7.1, q7.2)) else some ((μ (5 + 4 + x1.toNatClampNeg) 1, μ)) else none
set_option maxRecDepth 100000 in
theorem c_wnf_as {g : jj_G} (d : Nat) {N : Nat} {x1 : Int32} {x2 : Int32} {μ : jj_M} {r : Int32} {μ' : jj_M}   (h : wnf_as N x1 x2 μ = some (r, μ')) : jj_N g yX7_as cX7_as 4 (some .int) (d + 2) [.ref (jj_ad g 0), .int x1, .int x2] μ (some (.int r)) μ' := by
  refine jj_N_of jn_7 (Nat.le_of_ble_eq_true rfl) (fun X hF => ?_)
  unfold wnf_as at h
  refine jj_sub (own := RX7) (lv2 := [(0, .ref (jj_ad g 0)), (1, .int x1), (2, .int x2)]) [0, 1, 2] rfl ?_
  refine jj_aload_n dX7_as_0 0 rfl ?_
  refine jj_iload_n dX7_as_1 1 rfl ?_
  refine jj_callVi [.int x1] [] (c_wnf_isPerson (d + 0)  rfl) jm_wnf_isPerson lk_7_108 (b := 0) rfl (by decide) (jj_E7 rfl) rfl rfl rfl (by omega) rfl (Nat.le_of_ble_eq_true rfl) dX7_as_2 ?_
  refine jj_if_eq 18 dX7_as_5 (by decide) (fun c1 => ?_) (fun c1 => ?_)
  · replace h := (if_pos c1).symm.trans h
    refine jj_aload_n dX7_as_18 0 rfl ?_
    refine jj_iconst (1) dX7_as_19 rfl ?_
    obtain ⟨q2, e2, h⟩ := jj_be h
    refine jj_callVi [.int 1] [] (c_wnf_refuse (d + 1)  e2) jm_wnf_refuse lk_7_59 (b := 0) rfl (by decide) (jj_E7 rfl) rfl rfl rfl (by omega) rfl (Nat.le_of_ble_eq_true rfl) dX7_as_20 ?_
    exact jj_iret2 hF dX7_as_23 (Option.some.inj h)
  · replace h := (if_neg c1).symm.trans h
    refine jj_iload_n dX7_as_8 2 rfl ?_
    refine jj_iconst (0) dX7_as_9 rfl ?_
    refine jj_bipush (6) dX7_as_10 rfl ?_
    refine jj_callSi [.int x2, .int 0, .int 6] [] (c_wnf_within (d + 1)  rfl) jm_wnf_within lk_7_55 rfl (by omega) rfl (Nat.le_of_ble_eq_true rfl) dX7_as_12 ?_
    refine jj_if_ne 24 dX7_as_15 (by decide) (fun c3 => ?_) (fun c3 => ?_)
    · replace h := (if_neg c3).symm.trans h
      refine jj_aload_n dX7_as_24 0 rfl ?_
      refine jg_7_0 (k := 0) rfl lk_7_10 dX7_as_25 ?_
      show jj_V g X _ _ _ _ _ _ (.ref (jj_ad g 1) :: _) _
      refine jg_6_3 (k := 1) rfl lk_7_98 dX7_as_28 ?_
      show jj_V g X _ _ _ _ _ _ (.ref (jj_ad g 5) :: _) _
      refine jj_iload_n dX7_as_31 1 rfl ?_
      obtain ⟨g4, h⟩ := jj_ge h
      refine jj_aaload10 (k := 5) rfl g4 dX7_as_32 ?_
      refine jj_astore_n [(3, .ref (jj_ad g (5 + 4 + x1.toNatClampNeg))), (0, .ref (jj_ad g 0)), (1, .int x1), (2, .int x2)] dX7_as_33 (by decide) rfl ?_
      refine jj_aload_n dX7_as_34 0 rfl ?_
      refine jj_iload_n dX7_as_35 3 rfl ?_
      obtain ⟨q5, e5, h⟩ := jj_be h
      refine jj_callVi [.int x2] [] (c_pef_isOf (d + 0) (jk_10 (k := 5) rfl g4) e5) jm_pef_isOf lk_7_138 (b := 5 + 4 + x1.toNatClampNeg) (jk_10 (k := 5) rfl g4) (by decide) (jj_E1 (jk_10 (k := 5) rfl g4)) rfl rfl rfl (by omega) rfl (Nat.le_of_ble_eq_true rfl) dX7_as_36 ?_
      refine jj_if_eq 49 dX7_as_39 (by decide) (fun c6 => ?_) (fun c6 => ?_)
      · replace h := (if_pos c6).symm.trans h
        refine jj_aload_n dX7_as_49 1 rfl ?_
        refine jj_iconst (5) dX7_as_50 rfl ?_
        obtain ⟨q7, e7, h⟩ := jj_be h
        refine jj_callVi [.int 5] [] (c_wnf_refuse (d + 1)  e7) jm_wnf_refuse lk_7_59 (b := 0) rfl (by decide) (jj_E7 rfl) rfl rfl rfl (by omega) rfl (Nat.le_of_ble_eq_true rfl) dX7_as_51 ?_
        exact jj_iret2 hF dX7_as_54 (Option.some.inj h)
      · replace h := (if_neg c6).symm.trans h
        refine jj_aload_n dX7_as_42 0 rfl ?_
        refine jg_1_1 (k := 5 + 4 + x1.toNatClampNeg) (jk_10 (k := 5) rfl g4) lk_7_114 dX7_as_43 ?_
        refine jj_goto 54 dX7_as_46 (by decide) ?_
        exact jj_iret2 hF dX7_as_54 (Option.some.inj h)
    · replace h := (if_pos c3).symm.trans h
      refine jj_aload_n dX7_as_18 0 rfl ?_
      refine jj_iconst (1) dX7_as_19 rfl ?_
      obtain ⟨q8, e8, h⟩ := jj_be h
      refine jj_callVi [.int 1] [] (c_wnf_refuse (d + 1)  e8) jm_wnf_refuse lk_7_59 (b := 0) rfl (by decide) (jj_E7 rfl) rfl rfl rfl (by omega) rfl (Nat.le_of_ble_eq_true rfl) dX7_as_20 ?_
      exact jj_iret2 hF dX7_as_23 (Option.some.inj h)
def wnf_feed_L39 (N : Nat)  (l1 : Int64) (x3 : Int32) : Nat → Int32 → jj_M → Option (Int32 × jj_M)
  | 0, _, _ => none
  | n + 1, x4, μ => if x3 ≤ x4 then some (((jj_u μ 1 11 ((μ 1 11) + x3)) 1 11, jj_u μ 1 11 ((μ 1 11) + x3))) else if jj_i ((μ 1 11) + x4) 50 then (some (jj_u μ 7 ((μ 1 11) + x4).toNatClampNeg ((Int64.toInt32 ((Int64.toUInt64 l1 >>> ((Int32.toInt64 (8 * x4)).toUInt64 &&& Int64.toUInt64 63)).toInt64)) &&& 255))).bind fun m3 => wnf_feed_L39 N l1 x3 n (x4 + 1) m3 else none
set_option maxRecDepth 100000 in
theorem t_wnf_feed_L39 {g : jj_G} (d : Nat) {N : Nat}  {l1 : Int64} {x3 : Int32}  {r : Int32} {μ' : jj_M} {X : jj_X}   (hF : jj_F g (some .int) (some (.int r)) μ' X)  : ∀ (n : Nat) (x4 : Int32) (μ : jj_M), wnf_feed_L39 N l1 x3 n x4 μ = some (r, μ') → jj_V g X RX7 cX7_feed 5 (d + 1) 39 [(0, .ref (jj_ad g 0)), (1, .long l1), (3, .int x3), (4, .int x4)] [] μ := by
  intro n
  induction n with
  | zero =>
    intro x4 μ h
    exact (jj_no h).elim
  | succ n ih =>
    intro x4 μ h
    rw [wnf_feed_L39] at h
    refine jj_iload dX7_feed_39 3 rfl ?_
    refine jj_iload_n dX7_feed_41 2 rfl ?_
    refine jj_icmp_ge 81 dX7_feed_42 (by decide) (fun c1 => ?_) (fun c1 => ?_)
    · replace h := (if_pos c1).symm.trans h
      refine jj_aload_n dX7_feed_81 0 rfl ?_
      refine jg_7_0 (k := 0) rfl lk_7_10 dX7_feed_82 ?_
      show jj_V g X _ _ _ _ _ _ (.ref (jj_ad g 1) :: _) _
      refine jj_dup dX7_feed_85 rfl ?_
      refine jg_6_11 (k := 1) rfl lk_7_141 dX7_feed_86 ?_
      refine jj_iload_n dX7_feed_89 2 rfl ?_
      refine jj_iadd dX7_feed_90 ?_
      refine jp_6_11 (k := 1) rfl lk_7_141 dX7_feed_91 ?_
      refine jj_aload_n dX7_feed_94 0 rfl ?_
      refine jg_7_0 (k := 0) rfl lk_7_10 dX7_feed_95 ?_
      show jj_V g X _ _ _ _ _ _ (.ref (jj_ad g 1) :: _) _
      refine jg_6_11 (k := 1) rfl lk_7_141 dX7_feed_98 ?_
      exact jj_iret2 hF dX7_feed_101 (Option.some.inj h)
    · replace h := (if_neg c1).symm.trans h
      refine jj_aload_n dX7_feed_45 0 rfl ?_
      refine jg_7_0 (k := 0) rfl lk_7_10 dX7_feed_46 ?_
      show jj_V g X _ _ _ _ _ _ (.ref (jj_ad g 1) :: _) _
      refine jg_6_5 (k := 1) rfl lk_7_144 dX7_feed_49 ?_
      show jj_V g X _ _ _ _ _ _ (.ref (jj_ad g 7) :: _) _
      refine jj_aload_n dX7_feed_52 0 rfl ?_
      refine jg_7_0 (k := 0) rfl lk_7_10 dX7_feed_53 ?_
      show jj_V g X _ _ _ _ _ _ (.ref (jj_ad g 1) :: _) _
      refine jg_6_11 (k := 1) rfl lk_7_141 dX7_feed_56 ?_
      refine jj_iload dX7_feed_59 3 rfl ?_
      refine jj_iadd dX7_feed_61 ?_
      refine jj_lload_n dX7_feed_62 1 rfl ?_
      refine jj_bipush (8) dX7_feed_63 rfl ?_
      refine jj_iload dX7_feed_65 3 rfl ?_
      refine jj_imul dX7_feed_67 ?_
      refine jj_lushr dX7_feed_68 ?_
      refine jj_l2i dX7_feed_69 ?_
      refine jj_sipush (255) dX7_feed_70 rfl ?_
      refine jj_iand dX7_feed_73 ?_
      obtain ⟨g2, h⟩ := jj_ge h
      refine jj_iastore (k := 7) (n := 50) rfl g2 dX7_feed_74 ?_
      obtain ⟨m3, em3, h⟩ := jj_be h
      refine jj_mu em3 ?_
      refine jj_iinc (x4 + 1) [(4, .int (x4 + 1)), (0, .ref (jj_ad g 0)), (1, .long l1), (3, .int x3)] dX7_feed_75 3 rfl rfl (by decide) rfl ?_
      refine jj_goto 39 dX7_feed_78 (by decide) ?_
      refine jj_sub [1, 2, 3, 0] rfl ?_
      exact ih _ _ h
def wnf_feed (N : Nat) (l1 : Int64) (x3 : Int32) (μ : jj_M) : Option (Int32 × jj_M) := if (wnf_within x3 1 8) = 0 then (wnf_refuse 1 μ).bind fun q4 => some ((q4.1, q4.2)) else if ((μ 1 11) + x3) ≤ 50 then wnf_feed_L39 N l1 x3 N 0 μ else (wnf_refuse 4 μ).bind fun q3 => some ((q3.1, q3.2))
set_option maxRecDepth 100000 in
theorem c_wnf_feed {g : jj_G} (d : Nat) {N : Nat} {l1 : Int64} {x3 : Int32} {μ : jj_M} {r : Int32} {μ' : jj_M}   (h : wnf_feed N l1 x3 μ = some (r, μ')) : jj_N g yX7_feed cX7_feed 5 (some .int) (d + 1) [.ref (jj_ad g 0), .long l1, .int x3] μ (some (.int r)) μ' := by
  refine jj_N_of jn_7 (Nat.le_of_ble_eq_true rfl) (fun X hF => ?_)
  unfold wnf_feed at h
  refine jj_sub (own := RX7) (lv2 := [(0, .ref (jj_ad g 0)), (1, .long l1), (3, .int x3)]) [0, 1, 2] rfl ?_
  refine jj_iload_n dX7_feed_0 2 rfl ?_
  refine jj_iconst (1) dX7_feed_1 rfl ?_
  refine jj_bipush (8) dX7_feed_2 rfl ?_
  refine jj_callSi [.int x3, .int 1, .int 8] [] (c_wnf_within (d + 0)  rfl) jm_wnf_within lk_7_55 rfl (by omega) rfl (Nat.le_of_ble_eq_true rfl) dX7_feed_4 ?_
  refine jj_if_ne 16 dX7_feed_7 (by decide) (fun c1 => ?_) (fun c1 => ?_)
  · replace h := (if_neg c1).symm.trans h
    refine jj_aload_n dX7_feed_16 0 rfl ?_
    refine jg_7_0 (k := 0) rfl lk_7_10 dX7_feed_17 ?_
    show jj_V g X _ _ _ _ _ _ (.ref (jj_ad g 1) :: _) _
    refine jg_6_11 (k := 1) rfl lk_7_141 dX7_feed_20 ?_
    refine jj_iload_n dX7_feed_23 2 rfl ?_
    refine jj_iadd dX7_feed_24 ?_
    refine jj_bipush (50) dX7_feed_25 rfl ?_
    refine jj_icmp_le 36 dX7_feed_27 (by decide) (fun c2 => ?_) (fun c2 => ?_)
    · replace h := (if_pos c2).symm.trans h
      refine jj_iconst (0) dX7_feed_36 rfl ?_
      refine jj_istore [(4, .int 0), (0, .ref (jj_ad g 0)), (1, .long l1), (3, .int x3)] dX7_feed_37 (by decide) rfl ?_
      refine jj_sub [1, 2, 3, 0] rfl ?_
      exact t_wnf_feed_L39 d   hF  _ _ _ h
    · replace h := (if_neg c2).symm.trans h
      refine jj_aload_n dX7_feed_30 0 rfl ?_
      refine jj_iconst (4) dX7_feed_31 rfl ?_
      obtain ⟨q3, e3, h⟩ := jj_be h
      refine jj_callVi [.int 4] [] (c_wnf_refuse (d + 0)  e3) jm_wnf_refuse lk_7_59 (b := 0) rfl (by decide) (jj_E7 rfl) rfl rfl rfl (by omega) rfl (Nat.le_of_ble_eq_true rfl) dX7_feed_32 ?_
      exact jj_iret2 hF dX7_feed_35 (Option.some.inj h)
  · replace h := (if_pos c1).symm.trans h
    refine jj_aload_n dX7_feed_10 0 rfl ?_
    refine jj_iconst (1) dX7_feed_11 rfl ?_
    obtain ⟨q4, e4, h⟩ := jj_be h
    refine jj_callVi [.int 1] [] (c_wnf_refuse (d + 0)  e4) jm_wnf_refuse lk_7_59 (b := 0) rfl (by decide) (jj_E7 rfl) rfl rfl rfl (by omega) rfl (Nat.le_of_ble_eq_true rfl) dX7_feed_12 ?_
    exact jj_iret2 hF dX7_feed_15 (Option.some.inj h)
def wnf_isUse  (x0 : Int32)  : Int32 := wnf_within x0 0 1
theorem z_wnf_isUse (x0 : Int32)  : wnf_isUse x0 = 0 ∨ wnf_isUse x0 = 1 := by
  unfold wnf_isUse
  first | (first | exact Or.inl rfl | exact Or.inr rfl | apply z_wnf_within) | ((repeat' split) <;> first | exact Or.inl rfl | exact Or.inr rfl | apply z_wnf_within)
set_option maxRecDepth 100000 in
theorem c_wnf_isUse {g : jj_G} (d : Nat)  {x0 : Int32} {μ : jj_M} {r : Int32}   (h : wnf_isUse x0 = r) : jj_N g yX7_isUse cX7_isUse 1 (some .boolean) (d + 1) [.int x0] μ (some (.int r)) μ := by
  refine jj_N_of jn_7 (Nat.le_of_ble_eq_true rfl) (fun X hF => ?_)
  unfold wnf_isUse at h
  refine jj_sub (own := RX7) (lv2 := [(0, .int x0)]) [0] rfl ?_
  refine jj_iload_n dX7_isUse_0 0 rfl ?_
  refine jj_iconst (0) dX7_isUse_1 rfl ?_
  refine jj_iconst (1) dX7_isUse_2 rfl ?_
  refine jj_callSi [.int x0, .int 0, .int 1] [] (c_wnf_within (d + 0)  rfl) jm_wnf_within lk_7_55 rfl (by omega) rfl (Nat.le_of_ble_eq_true rfl) dX7_isUse_3 ?_
  exact jj_zret1 hF dX7_isUse_6 (z_wnf_within _ _ _) h
def ref_next   (μ : jj_M) : Option (Int32) := if (μ 45 5) < 0 then some (-1) else if (μ 45 3) ≤ (μ 45 5) then some (-1) else if jj_i (μ 45 5) 50 then some (μ 47 (μ 45 5).toNatClampNeg) else none
set_option maxRecDepth 100000 in
theorem c_ref_next {g : jj_G} (d : Nat)   {μ : jj_M} {r : Int32}   (h : ref_next μ = some r) : jj_N g yX2_next cX2_next 1 (some .int) (d + 0) [.ref (jj_ad g 45)] μ (some (.int r)) μ := by
  refine jj_N_of jn_2 (Nat.le_of_ble_eq_true rfl) (fun X hF => ?_)
  unfold ref_next at h
  refine jj_sub (own := RX2) (lv2 := [(0, .ref (jj_ad g 45))]) [0] rfl ?_
  refine jj_aload_n dX2_next_0 0 rfl ?_
  refine jg_2_5 (k := 45) rfl lk_2_37 dX2_next_1 ?_
  refine jj_if_lt 30 dX2_next_4 (by decide) (fun c1 => ?_) (fun c1 => ?_)
  · replace h := (if_pos c1).symm.trans h
    refine jj_iconst (-1) dX2_next_30 rfl ?_
    exact jj_iret1 hF dX2_next_31 (Option.some.inj h)
  · replace h := (if_neg c1).symm.trans h
    refine jj_aload_n dX2_next_7 0 rfl ?_
    refine jg_2_5 (k := 45) rfl lk_2_37 dX2_next_8 ?_
    refine jj_aload_n dX2_next_11 0 rfl ?_
    refine jg_2_3 (k := 45) rfl lk_2_24 dX2_next_12 ?_
    refine jj_icmp_ge 30 dX2_next_15 (by decide) (fun c2 => ?_) (fun c2 => ?_)
    · replace h := (if_pos c2).symm.trans h
      refine jj_iconst (-1) dX2_next_30 rfl ?_
      exact jj_iret1 hF dX2_next_31 (Option.some.inj h)
    · replace h := (if_neg c2).symm.trans h
      refine jj_aload_n dX2_next_18 0 rfl ?_
      refine jg_2_2 (k := 45) rfl lk_2_15 dX2_next_19 ?_
      show jj_V g X _ _ _ _ _ _ (.ref (jj_ad g 47) :: _) _
      refine jj_aload_n dX2_next_22 0 rfl ?_
      refine jg_2_5 (k := 45) rfl lk_2_37 dX2_next_23 ?_
      obtain ⟨g3, h⟩ := jj_ge h
      refine jj_iaload (k := 47) (n := 50) rfl g3 dX2_next_26 ?_
      refine jj_goto 31 dX2_next_27 (by decide) ?_
      exact jj_iret1 hF dX2_next_31 (Option.some.inj h)
def ref_nameOf  (x1 : Int32) (μ : jj_M) : Int32 := if x1 = 100 then 2 else if x1 = 108 then if (μ 45 4) = 1 then 0 else -1 else if x1 = 109 then if (μ 45 4) = 0 then 0 else 1 else if x1 = 116 then if (μ 45 4) = 0 then 1 else -1 else -1
set_option maxRecDepth 100000 in
theorem c_ref_nameOf {g : jj_G} (d : Nat)  {x1 : Int32} {μ : jj_M} {r : Int32}   (h : ref_nameOf x1 μ = r) : jj_N g yX2_nameOf cX2_nameOf 2 (some .int) (d + 0) [.ref (jj_ad g 45), .int x1] μ (some (.int r)) μ := by
  refine jj_N_of jn_2 (Nat.le_of_ble_eq_true rfl) (fun X hF => ?_)
  unfold ref_nameOf at h
  refine jj_sub (own := RX2) (lv2 := [(0, .ref (jj_ad g 45)), (1, .int x1)]) [0, 1] rfl ?_
  refine jj_iload_n dX2_nameOf_0 1 rfl ?_
  by_cases c1 : x1 = 100
  · replace h := (if_pos c1).symm.trans h
    refine jj_lookup 84 dX2_nameOf_1 (by decide +kernel) (by rw [c1]; rfl) (show (1 : Int) + 83 = (84 : Nat) by decide) ?_
    refine jj_iconst (2) dX2_nameOf_84 rfl ?_
    exact jj_iret1 hF dX2_nameOf_85 h
  replace h := (if_neg c1).symm.trans h
  by_cases c2 : x1 = 108
  · replace h := (if_pos c2).symm.trans h
    refine jj_lookup 70 dX2_nameOf_1 (by decide +kernel) (by rw [c2]; rfl) (show (1 : Int) + 69 = (70 : Nat) by decide) ?_
    refine jj_aload_n dX2_nameOf_70 0 rfl ?_
    refine jg_2_4 (k := 45) rfl lk_2_34 dX2_nameOf_71 ?_
    refine jj_iconst (1) dX2_nameOf_74 rfl ?_
    refine jj_icmp_ne 82 dX2_nameOf_75 (by decide) (fun c3 => ?_) (fun c3 => ?_)
    · replace h := (if_neg c3).symm.trans h
      refine jj_iconst (-1) dX2_nameOf_82 rfl ?_
      exact jj_iret1 hF dX2_nameOf_83 h
    · replace h := (if_pos c3).symm.trans h
      refine jj_iconst (0) dX2_nameOf_78 rfl ?_
      refine jj_goto 83 dX2_nameOf_79 (by decide) ?_
      exact jj_iret1 hF dX2_nameOf_83 h
  replace h := (if_neg c2).symm.trans h
  by_cases c4 : x1 = 109
  · replace h := (if_pos c4).symm.trans h
    refine jj_lookup 44 dX2_nameOf_1 (by decide +kernel) (by rw [c4]; rfl) (show (1 : Int) + 43 = (44 : Nat) by decide) ?_
    refine jj_aload_n dX2_nameOf_44 0 rfl ?_
    refine jg_2_4 (k := 45) rfl lk_2_34 dX2_nameOf_45 ?_
    refine jj_if_ne 55 dX2_nameOf_48 (by decide) (fun c5 => ?_) (fun c5 => ?_)
    · replace h := (if_neg c5).symm.trans h
      refine jj_iconst (1) dX2_nameOf_55 rfl ?_
      exact jj_iret1 hF dX2_nameOf_56 h
    · replace h := (if_pos c5).symm.trans h
      refine jj_iconst (0) dX2_nameOf_51 rfl ?_
      refine jj_goto 56 dX2_nameOf_52 (by decide) ?_
      exact jj_iret1 hF dX2_nameOf_56 h
  replace h := (if_neg c4).symm.trans h
  by_cases c6 : x1 = 116
  · replace h := (if_pos c6).symm.trans h
    refine jj_lookup 57 dX2_nameOf_1 (by decide +kernel) (by rw [c6]; rfl) (show (1 : Int) + 56 = (57 : Nat) by decide) ?_
    refine jj_aload_n dX2_nameOf_57 0 rfl ?_
    refine jg_2_4 (k := 45) rfl lk_2_34 dX2_nameOf_58 ?_
    refine jj_if_ne 68 dX2_nameOf_61 (by decide) (fun c7 => ?_) (fun c7 => ?_)
    · replace h := (if_neg c7).symm.trans h
      refine jj_iconst (-1) dX2_nameOf_68 rfl ?_
      exact jj_iret1 hF dX2_nameOf_69 h
    · replace h := (if_pos c7).symm.trans h
      refine jj_iconst (1) dX2_nameOf_64 rfl ?_
      refine jj_goto 69 dX2_nameOf_65 (by decide) ?_
      exact jj_iret1 hF dX2_nameOf_69 h
  replace h := (if_neg c6).symm.trans h
  have c1 : ¬ Int32.toInt x1 = 100 := fun w => c1 (Int32.toInt_inj.mp (w.trans (by decide)))
  have c2 : ¬ Int32.toInt x1 = 108 := fun w => c2 (Int32.toInt_inj.mp (w.trans (by decide)))
  have c4 : ¬ Int32.toInt x1 = 109 := fun w => c4 (Int32.toInt_inj.mp (w.trans (by decide)))
  have c6 : ¬ Int32.toInt x1 = 116 := fun w => c6 (Int32.toInt_inj.mp (w.trans (by decide)))
  refine jj_lookup 86 dX2_nameOf_1 (by decide +kernel) (show Op.lookupswitch.offset [(100, 83), (108, 69), (109, 43), (116, 56)] 85 (Int32.toInt x1) = 85 by rw [Op.lookupswitch.offset_cons, if_neg (Ne.symm c1), Op.lookupswitch.offset_cons, if_neg (Ne.symm c2), Op.lookupswitch.offset_cons, if_neg (Ne.symm c4), Op.lookupswitch.offset_cons, if_neg (Ne.symm c6), Op.lookupswitch.offset_nil]) (show (1 : Int) + 85 = (86 : Nat) by decide) ?_
  refine jj_iconst (-1) dX2_nameOf_86 rfl ?_
  exact jj_iret1 hF dX2_nameOf_87 h
def ref_isDigit  (x0 : Int32)  : Int32 := if x0 < 48 then 0 else if 57 < x0 then 0 else 1
theorem z_ref_isDigit (x0 : Int32)  : ref_isDigit x0 = 0 ∨ ref_isDigit x0 = 1 := by
  unfold ref_isDigit
  first | (first | exact Or.inl rfl | exact Or.inr rfl) | ((repeat' split) <;> first | exact Or.inl rfl | exact Or.inr rfl)
set_option maxRecDepth 100000 in
theorem c_ref_isDigit {g : jj_G} (d : Nat)  {x0 : Int32} {μ : jj_M} {r : Int32}   (h : ref_isDigit x0 = r) : jj_N g yX2_isDigit cX2_isDigit 1 (some .boolean) (d + 0) [.int x0] μ (some (.int r)) μ := by
  refine jj_N_of jn_2 (Nat.le_of_ble_eq_true rfl) (fun X hF => ?_)
  unfold ref_isDigit at h
  refine jj_sub (own := RX2) (lv2 := [(0, .int x0)]) [0] rfl ?_
  refine jj_iload_n dX2_isDigit_0 0 rfl ?_
  refine jj_bipush (48) dX2_isDigit_1 rfl ?_
  refine jj_icmp_lt 16 dX2_isDigit_3 (by decide) (fun c1 => ?_) (fun c1 => ?_)
  · replace h := (if_pos c1).symm.trans h
    refine jj_iconst (0) dX2_isDigit_16 rfl ?_
    exact jj_zret1 hF dX2_isDigit_17 (Or.inl rfl) h
  · replace h := (if_neg c1).symm.trans h
    refine jj_iload_n dX2_isDigit_6 0 rfl ?_
    refine jj_bipush (57) dX2_isDigit_7 rfl ?_
    refine jj_icmp_gt 16 dX2_isDigit_9 (by decide) (fun c2 => ?_) (fun c2 => ?_)
    · replace h := (if_pos c2).symm.trans h
      refine jj_iconst (0) dX2_isDigit_16 rfl ?_
      exact jj_zret1 hF dX2_isDigit_17 (Or.inl rfl) h
    · replace h := (if_neg c2).symm.trans h
      refine jj_iconst (1) dX2_isDigit_12 rfl ?_
      refine jj_goto 17 dX2_isDigit_13 (by decide) ?_
      exact jj_zret1 hF dX2_isDigit_17 (Or.inr rfl) h
def ref_emit  (x1 : Int32) (μ : jj_M) : Option (jj_M) := if 50 ≤ (μ 45 1) then some μ else if jj_i (μ 45 1) 50 then (some (jj_u (jj_u μ 46 (μ 45 1).toNatClampNeg x1) 45 1 (((jj_u μ 46 (μ 45 1).toNatClampNeg x1) 45 1) + 1))).bind fun m3 => some m3 else none
set_option maxRecDepth 100000 in
theorem c_ref_emit {g : jj_G} (d : Nat)  {x1 : Int32} {μ : jj_M} {μ' : jj_M}   (h : ref_emit x1 μ = some μ') : jj_N g yX2_emit cX2_emit 2 none (d + 0) [.ref (jj_ad g 45), .int x1] μ none μ' := by
  refine jj_N_of jn_2 (Nat.le_of_ble_eq_true rfl) (fun X hF => ?_)
  unfold ref_emit at h
  refine jj_sub (own := RX2) (lv2 := [(0, .ref (jj_ad g 45)), (1, .int x1)]) [0, 1] rfl ?_
  refine jj_aload_n dX2_emit_0 0 rfl ?_
  refine jg_2_1 (k := 45) rfl lk_2_43 dX2_emit_1 ?_
  refine jj_bipush (50) dX2_emit_4 rfl ?_
  refine jj_icmp_ge 29 dX2_emit_6 (by decide) (fun c1 => ?_) (fun c1 => ?_)
  · replace h := (if_pos c1).symm.trans h
    exact jj_vret1 hF dX2_emit_29 (Option.some.inj h)
  · replace h := (if_neg c1).symm.trans h
    refine jj_aload_n dX2_emit_9 0 rfl ?_
    refine jg_2_0 (k := 45) rfl lk_2_9 dX2_emit_10 ?_
    show jj_V g X _ _ _ _ _ _ (.ref (jj_ad g 46) :: _) _
    refine jj_aload_n dX2_emit_13 0 rfl ?_
    refine jg_2_1 (k := 45) rfl lk_2_43 dX2_emit_14 ?_
    refine jj_iload_n dX2_emit_17 1 rfl ?_
    obtain ⟨g2, h⟩ := jj_ge h
    refine jj_iastore (k := 46) (n := 50) rfl g2 dX2_emit_18 ?_
    refine jj_aload_n dX2_emit_19 0 rfl ?_
    refine jj_dup dX2_emit_20 rfl ?_
    refine jg_2_1 (k := 45) rfl lk_2_43 dX2_emit_21 ?_
    refine jj_iconst (1) dX2_emit_24 rfl ?_
    refine jj_iadd dX2_emit_25 ?_
    refine jp_2_1 (k := 45) rfl lk_2_43 dX2_emit_26 ?_
    obtain ⟨m3, em3, h⟩ := jj_be h
    refine jj_mu em3 ?_
    exact jj_vret1 hF dX2_emit_29 (Option.some.inj h)
def ref_readNumber_L4 (N : Nat)   : Nat → Int32 → Int32 → jj_M → Option (jj_M)
  | 0, _, _, _ => none
  | n + 1, x1, x2, μ => if 4 ≤ x2 then (ref_emit x1 μ).bind fun q2 => some q2 else (ref_next μ).bind fun q3 => if (ref_isDigit q3) = 0 then (ref_emit x1 μ).bind fun q5 => some q5 else (ref_next μ).bind fun q6 => ref_readNumber_L4 N n (((x1 * 10) + q6) - 48) (x2 + 1) (jj_u μ 45 5 ((μ 45 5) + 1))
set_option maxRecDepth 100000 in
theorem t_ref_readNumber_L4 {g : jj_G} (d : Nat) {N : Nat}    {μ' : jj_M} {X : jj_X}   (hF : jj_F g none none μ' X)  : ∀ (n : Nat) (x1 : Int32) (x2 : Int32) (μ : jj_M), ref_readNumber_L4 N n x1 x2 μ = some μ' → jj_V g X RX2 cX2_readNumber 3 (d + 1) 4 [(0, .ref (jj_ad g 45)), (1, .int x1), (2, .int x2)] [] μ := by
  intro n
  induction n with
  | zero =>
    intro x1 x2 μ h
    exact (jj_no h).elim
  | succ n ih =>
    intro x1 x2 μ h
    rw [ref_readNumber_L4] at h
    refine jj_iload_n dX2_readNumber_4 2 rfl ?_
    refine jj_iconst (4) dX2_readNumber_5 rfl ?_
    refine jj_icmp_ge 48 dX2_readNumber_6 (by decide) (fun c1 => ?_) (fun c1 => ?_)
    · replace h := (if_pos c1).symm.trans h
      refine jj_aload_n dX2_readNumber_48 0 rfl ?_
      refine jj_iload_n dX2_readNumber_49 1 rfl ?_
      obtain ⟨q2, e2, h⟩ := jj_be h
      refine jj_callVv [.int x1] [] (c_ref_emit (d + 0)  e2) jm_ref_emit lk_2_65 (b := 45) rfl (by decide) (jj_E2 rfl) rfl rfl rfl (by omega) rfl (Nat.le_of_ble_eq_true rfl) dX2_readNumber_50 ?_
      exact jj_vret1 hF dX2_readNumber_53 (Option.some.inj h)
    · replace h := (if_neg c1).symm.trans h
      refine jj_aload_n dX2_readNumber_9 0 rfl ?_
      obtain ⟨q3, e3, h⟩ := jj_be h
      refine jj_callVi [] [] (c_ref_next (d + 0)  e3) jm_ref_next lk_2_57 (b := 45) rfl (by decide) (jj_E2 rfl) rfl rfl rfl (by omega) rfl (Nat.le_of_ble_eq_true rfl) dX2_readNumber_10 ?_
      refine jj_callSi [.int q3] [] (c_ref_isDigit (d + 0)  rfl) jm_ref_isDigit lk_2_71 rfl (by omega) rfl (Nat.le_of_ble_eq_true rfl) dX2_readNumber_13 ?_
      refine jj_if_eq 48 dX2_readNumber_16 (by decide) (fun c4 => ?_) (fun c4 => ?_)
      · replace h := (if_pos c4).symm.trans h
        refine jj_aload_n dX2_readNumber_48 0 rfl ?_
        refine jj_iload_n dX2_readNumber_49 1 rfl ?_
        obtain ⟨q5, e5, h⟩ := jj_be h
        refine jj_callVv [.int x1] [] (c_ref_emit (d + 0)  e5) jm_ref_emit lk_2_65 (b := 45) rfl (by decide) (jj_E2 rfl) rfl rfl rfl (by omega) rfl (Nat.le_of_ble_eq_true rfl) dX2_readNumber_50 ?_
        exact jj_vret1 hF dX2_readNumber_53 (Option.some.inj h)
      · replace h := (if_neg c4).symm.trans h
        refine jj_iload_n dX2_readNumber_19 1 rfl ?_
        refine jj_bipush (10) dX2_readNumber_20 rfl ?_
        refine jj_imul dX2_readNumber_22 ?_
        refine jj_aload_n dX2_readNumber_23 0 rfl ?_
        obtain ⟨q6, e6, h⟩ := jj_be h
        refine jj_callVi [] [.int (x1 * 10)] (c_ref_next (d + 0)  e6) jm_ref_next lk_2_57 (b := 45) rfl (by decide) (jj_E2 rfl) rfl rfl rfl (by omega) rfl (Nat.le_of_ble_eq_true rfl) dX2_readNumber_24 ?_
        refine jj_iadd dX2_readNumber_27 ?_
        refine jj_bipush (48) dX2_readNumber_28 rfl ?_
        refine jj_isub dX2_readNumber_30 ?_
        refine jj_istore_n [(1, .int (((x1 * 10) + q6) - 48)), (0, .ref (jj_ad g 45)), (2, .int x2)] dX2_readNumber_31 (by decide) rfl ?_
        refine jj_aload_n dX2_readNumber_32 1 rfl ?_
        refine jj_dup dX2_readNumber_33 rfl ?_
        refine jg_2_5 (k := 45) rfl lk_2_37 dX2_readNumber_34 ?_
        refine jj_iconst (1) dX2_readNumber_37 rfl ?_
        refine jj_iadd dX2_readNumber_38 ?_
        refine jp_2_5 (k := 45) rfl lk_2_37 dX2_readNumber_39 ?_
        refine jj_iinc (x2 + 1) [(2, .int (x2 + 1)), (1, .int (((x1 * 10) + q6) - 48)), (0, .ref (jj_ad g 45))] dX2_readNumber_42 2 rfl rfl (by decide) rfl ?_
        refine jj_goto 4 dX2_readNumber_45 (by decide) ?_
        refine jj_sub [2, 1, 0] rfl ?_
        exact ih _ _ _ h
def ref_readNumber (N : Nat)  (μ : jj_M) : Option (jj_M) := ref_readNumber_L4 N N 0 0 μ
set_option maxRecDepth 100000 in
theorem c_ref_readNumber {g : jj_G} (d : Nat) {N : Nat}  {μ : jj_M} {μ' : jj_M}   (h : ref_readNumber N μ = some μ') : jj_N g yX2_readNumber cX2_readNumber 3 none (d + 1) [.ref (jj_ad g 45)] μ none μ' := by
  refine jj_N_of jn_2 (Nat.le_of_ble_eq_true rfl) (fun X hF => ?_)
  unfold ref_readNumber at h
  refine jj_sub (own := RX2) (lv2 := [(0, .ref (jj_ad g 45))]) [0] rfl ?_
  refine jj_iconst (0) dX2_readNumber_0 rfl ?_
  refine jj_istore_n [(1, .int 0), (0, .ref (jj_ad g 45))] dX2_readNumber_1 (by decide) rfl ?_
  refine jj_iconst (0) dX2_readNumber_2 rfl ?_
  refine jj_istore_n [(2, .int 0), (1, .int 0), (0, .ref (jj_ad g 45))] dX2_readNumber_3 (by decide) rfl ?_
  refine jj_sub [2, 1, 0] rfl ?_
  exact t_ref_readNumber_L4 d   hF  _ _ _ _ h
def ref_rankOf  (x0 : Int32)  : Int32 := if x0 = 37 then 4 else if x0 = 38 then 1 else if x0 = 42 then 4 else if x0 = 43 then 3 else if x0 = 45 then 3 else if x0 = 47 then 4 else if x0 = 60 then 2 else if x0 = 61 then 2 else if x0 = 62 then 2 else if x0 = 124 then 0 else -1
set_option maxRecDepth 100000 in
theorem c_ref_rankOf {g : jj_G} (d : Nat)  {x0 : Int32} {μ : jj_M} {r : Int32}   (h : ref_rankOf x0 = r) : jj_N g yX2_rankOf cX2_rankOf 1 (some .int) (d + 0) [.int x0] μ (some (.int r)) μ := by
  refine jj_N_of jn_2 (Nat.le_of_ble_eq_true rfl) (fun X hF => ?_)
  unfold ref_rankOf at h
  refine jj_sub (own := RX2) (lv2 := [(0, .int x0)]) [0] rfl ?_
  refine jj_iload_n dX2_rankOf_0 0 rfl ?_
  by_cases c1 : x0 = 37
  · replace h := (if_pos c1).symm.trans h
    refine jj_lookup 100 dX2_rankOf_1 (by decide +kernel) (by rw [c1]; rfl) (show (1 : Int) + 99 = (100 : Nat) by decide) ?_
    refine jj_iconst (4) dX2_rankOf_100 rfl ?_
    exact jj_iret1 hF dX2_rankOf_101 h
  replace h := (if_neg c1).symm.trans h
  by_cases c2 : x0 = 38
  · replace h := (if_pos c2).symm.trans h
    refine jj_lookup 94 dX2_rankOf_1 (by decide +kernel) (by rw [c2]; rfl) (show (1 : Int) + 93 = (94 : Nat) by decide) ?_
    refine jj_iconst (1) dX2_rankOf_94 rfl ?_
    exact jj_iret1 hF dX2_rankOf_95 h
  replace h := (if_neg c2).symm.trans h
  by_cases c3 : x0 = 42
  · replace h := (if_pos c3).symm.trans h
    refine jj_lookup 100 dX2_rankOf_1 (by decide +kernel) (by rw [c3]; rfl) (show (1 : Int) + 99 = (100 : Nat) by decide) ?_
    refine jj_iconst (4) dX2_rankOf_100 rfl ?_
    exact jj_iret1 hF dX2_rankOf_101 h
  replace h := (if_neg c3).symm.trans h
  by_cases c4 : x0 = 43
  · replace h := (if_pos c4).symm.trans h
    refine jj_lookup 98 dX2_rankOf_1 (by decide +kernel) (by rw [c4]; rfl) (show (1 : Int) + 97 = (98 : Nat) by decide) ?_
    refine jj_iconst (3) dX2_rankOf_98 rfl ?_
    exact jj_iret1 hF dX2_rankOf_99 h
  replace h := (if_neg c4).symm.trans h
  by_cases c5 : x0 = 45
  · replace h := (if_pos c5).symm.trans h
    refine jj_lookup 98 dX2_rankOf_1 (by decide +kernel) (by rw [c5]; rfl) (show (1 : Int) + 97 = (98 : Nat) by decide) ?_
    refine jj_iconst (3) dX2_rankOf_98 rfl ?_
    exact jj_iret1 hF dX2_rankOf_99 h
  replace h := (if_neg c5).symm.trans h
  by_cases c6 : x0 = 47
  · replace h := (if_pos c6).symm.trans h
    refine jj_lookup 100 dX2_rankOf_1 (by decide +kernel) (by rw [c6]; rfl) (show (1 : Int) + 99 = (100 : Nat) by decide) ?_
    refine jj_iconst (4) dX2_rankOf_100 rfl ?_
    exact jj_iret1 hF dX2_rankOf_101 h
  replace h := (if_neg c6).symm.trans h
  by_cases c7 : x0 = 60
  · replace h := (if_pos c7).symm.trans h
    refine jj_lookup 96 dX2_rankOf_1 (by decide +kernel) (by rw [c7]; rfl) (show (1 : Int) + 95 = (96 : Nat) by decide) ?_
    refine jj_iconst (2) dX2_rankOf_96 rfl ?_
    exact jj_iret1 hF dX2_rankOf_97 h
  replace h := (if_neg c7).symm.trans h
  by_cases c8 : x0 = 61
  · replace h := (if_pos c8).symm.trans h
    refine jj_lookup 96 dX2_rankOf_1 (by decide +kernel) (by rw [c8]; rfl) (show (1 : Int) + 95 = (96 : Nat) by decide) ?_
    refine jj_iconst (2) dX2_rankOf_96 rfl ?_
    exact jj_iret1 hF dX2_rankOf_97 h
  replace h := (if_neg c8).symm.trans h
  by_cases c9 : x0 = 62
  · replace h := (if_pos c9).symm.trans h
    refine jj_lookup 96 dX2_rankOf_1 (by decide +kernel) (by rw [c9]; rfl) (show (1 : Int) + 95 = (96 : Nat) by decide) ?_
    refine jj_iconst (2) dX2_rankOf_96 rfl ?_
    exact jj_iret1 hF dX2_rankOf_97 h
  replace h := (if_neg c9).symm.trans h
  by_cases c10 : x0 = 124
  · replace h := (if_pos c10).symm.trans h
    refine jj_lookup 92 dX2_rankOf_1 (by decide +kernel) (by rw [c10]; rfl) (show (1 : Int) + 91 = (92 : Nat) by decide) ?_
    refine jj_iconst (0) dX2_rankOf_92 rfl ?_
    exact jj_iret1 hF dX2_rankOf_93 h
  replace h := (if_neg c10).symm.trans h
  have c1 : ¬ Int32.toInt x0 = 37 := fun w => c1 (Int32.toInt_inj.mp (w.trans (by decide)))
  have c2 : ¬ Int32.toInt x0 = 38 := fun w => c2 (Int32.toInt_inj.mp (w.trans (by decide)))
  have c3 : ¬ Int32.toInt x0 = 42 := fun w => c3 (Int32.toInt_inj.mp (w.trans (by decide)))
  have c4 : ¬ Int32.toInt x0 = 43 := fun w => c4 (Int32.toInt_inj.mp (w.trans (by decide)))
  have c5 : ¬ Int32.toInt x0 = 45 := fun w => c5 (Int32.toInt_inj.mp (w.trans (by decide)))
  have c6 : ¬ Int32.toInt x0 = 47 := fun w => c6 (Int32.toInt_inj.mp (w.trans (by decide)))
  have c7 : ¬ Int32.toInt x0 = 60 := fun w => c7 (Int32.toInt_inj.mp (w.trans (by decide)))
  have c8 : ¬ Int32.toInt x0 = 61 := fun w => c8 (Int32.toInt_inj.mp (w.trans (by decide)))
  have c9 : ¬ Int32.toInt x0 = 62 := fun w => c9 (Int32.toInt_inj.mp (w.trans (by decide)))
  have c10 : ¬ Int32.toInt x0 = 124 := fun w => c10 (Int32.toInt_inj.mp (w.trans (by decide)))
  refine jj_lookup 102 dX2_rankOf_1 (by decide +kernel) (show Op.lookupswitch.offset [(37, 99), (38, 93), (42, 99), (43, 97), (45, 97), (47, 99), (60, 95), (61, 95), (62, 95), (124, 91)] 101 (Int32.toInt x0) = 101 by rw [Op.lookupswitch.offset_cons, if_neg (Ne.symm c1), Op.lookupswitch.offset_cons, if_neg (Ne.symm c2), Op.lookupswitch.offset_cons, if_neg (Ne.symm c3), Op.lookupswitch.offset_cons, if_neg (Ne.symm c4), Op.lookupswitch.offset_cons, if_neg (Ne.symm c5), Op.lookupswitch.offset_cons, if_neg (Ne.symm c6), Op.lookupswitch.offset_cons, if_neg (Ne.symm c7), Op.lookupswitch.offset_cons, if_neg (Ne.symm c8), Op.lookupswitch.offset_cons, if_neg (Ne.symm c9), Op.lookupswitch.offset_cons, if_neg (Ne.symm c10), Op.lookupswitch.offset_nil]) (show (1 : Int) + 101 = (102 : Nat) by decide) ?_
  refine jj_iconst (-1) dX2_rankOf_102 rfl ?_
  exact jj_iret1 hF dX2_rankOf_103 h
def ref_readOpened (N : Nat) (f_ref_readSingle : jj_M → Option (jj_M)) (f_ref_readJoined : Int32 → jj_M → Option (jj_M)) (x1 : Int32) (μ : jj_M) : Option (jj_M) := (some (jj_u (jj_u μ 45 5 ((μ 45 5) + 1)) 45 6 (((jj_u μ 45 5 ((μ 45 5) + 1)) 45 6) + 1))).bind fun m1 => if x1 = 33 then (f_ref_readSingle m1).bind fun q8 => (ref_emit (-x1) q8).bind fun q9 => some (jj_u q9 45 6 ((q9 45 6) - 1)) else (f_ref_readJoined 0 m1).bind fun q3 => if (q3 45 7) = 0 then (ref_next q3).bind fun q5 => if q5 = 41 then (some (jj_u (jj_u q3 45 5 ((q3 45 5) + 1)) 45 6 (((jj_u q3 45 5 ((q3 45 5) + 1)) 45 6) - 1))).bind fun m7 => some m7 else some (jj_u (jj_u q3 45 7 1) 45 6 (((jj_u q3 45 7 1) 45 6) - 1)) else some (jj_u (jj_u q3 45 7 1) 45 6 (((jj_u q3 45 7 1) 45 6) - 1))
set_option maxRecDepth 100000 in
theorem c_ref_readOpened {g : jj_G} (d : Nat) {N : Nat} {f_ref_readSingle : jj_M → Option (jj_M)} {f_ref_readJoined : Int32 → jj_M → Option (jj_M)} {x1 : Int32} {μ : jj_M} {μ' : jj_M} (h_ref_readSingle : ∀  {μ : jj_M} {μ' : jj_M} , f_ref_readSingle μ = some μ' → jj_N g yX2_readSingle cX2_readSingle 3 none (d + 1) [.ref (jj_ad g 45)] μ none μ') (h_ref_readJoined : ∀ {x1 : Int32} {μ : jj_M} {μ' : jj_M} , f_ref_readJoined x1 μ = some μ' → jj_N g yX2_readJoined cX2_readJoined 5 none (d + 1) [.ref (jj_ad g 45), .int x1] μ none μ')  (h : ref_readOpened N f_ref_readSingle f_ref_readJoined x1 μ = some μ') : jj_N g yX2_readOpened cX2_readOpened 2 none (d + 2) [.ref (jj_ad g 45), .int x1] μ none μ' := by
  refine jj_N_of jn_2 (Nat.le_of_ble_eq_true rfl) (fun X hF => ?_)
  unfold ref_readOpened at h
  refine jj_sub (own := RX2) (lv2 := [(0, .ref (jj_ad g 45)), (1, .int x1)]) [0, 1] rfl ?_
  refine jj_aload_n dX2_readOpened_0 0 rfl ?_
  refine jj_dup dX2_readOpened_1 rfl ?_
  refine jg_2_5 (k := 45) rfl lk_2_37 dX2_readOpened_2 ?_
  refine jj_iconst (1) dX2_readOpened_5 rfl ?_
  refine jj_iadd dX2_readOpened_6 ?_
  refine jp_2_5 (k := 45) rfl lk_2_37 dX2_readOpened_7 ?_
  refine jj_aload_n dX2_readOpened_10 0 rfl ?_
  refine jj_dup dX2_readOpened_11 rfl ?_
  refine jg_2_6 (k := 45) rfl lk_2_40 dX2_readOpened_12 ?_
  refine jj_iconst (1) dX2_readOpened_15 rfl ?_
  refine jj_iadd dX2_readOpened_16 ?_
  refine jp_2_6 (k := 45) rfl lk_2_40 dX2_readOpened_17 ?_
  obtain ⟨m1, em1, h⟩ := jj_be h
  refine jj_mu em1 ?_
  refine jj_iload_n dX2_readOpened_20 1 rfl ?_
  refine jj_bipush (33) dX2_readOpened_21 rfl ?_
  refine jj_icmp_ne 39 dX2_readOpened_23 (by decide) (fun c2 => ?_) (fun c2 => ?_)
  · replace h := (if_neg c2).symm.trans h
    refine jj_aload_n dX2_readOpened_39 0 rfl ?_
    refine jj_iconst (0) dX2_readOpened_40 rfl ?_
    obtain ⟨q3, e3, h⟩ := jj_be h
    refine jj_callVv [.int 0] [] (h_ref_readJoined  e3) jm_ref_readJoined lk_2_50 (b := 45) rfl (by decide) (jj_E2 rfl) rfl rfl rfl (by omega) rfl (Nat.le_of_ble_eq_true rfl) dX2_readOpened_41 ?_
    refine jj_aload_n dX2_readOpened_44 0 rfl ?_
    refine jg_2_7 (k := 45) rfl lk_2_46 dX2_readOpened_45 ?_
    refine jj_if_ne 73 dX2_readOpened_48 (by decide) (fun c4 => ?_) (fun c4 => ?_)
    · replace h := (if_neg c4).symm.trans h
      refine jj_aload_n dX2_readOpened_73 0 rfl ?_
      refine jj_iconst (1) dX2_readOpened_74 rfl ?_
      refine jp_2_7 (k := 45) rfl (Or.inr rfl) lk_2_46 dX2_readOpened_75 ?_
      refine jj_aload_n dX2_readOpened_78 0 rfl ?_
      refine jj_dup dX2_readOpened_79 rfl ?_
      refine jg_2_6 (k := 45) rfl lk_2_40 dX2_readOpened_80 ?_
      refine jj_iconst (1) dX2_readOpened_83 rfl ?_
      refine jj_isub dX2_readOpened_84 ?_
      refine jp_2_6 (k := 45) rfl lk_2_40 dX2_readOpened_85 ?_
      exact jj_vret1 hF dX2_readOpened_88 (Option.some.inj h)
    · replace h := (if_pos c4).symm.trans h
      refine jj_aload_n dX2_readOpened_51 0 rfl ?_
      obtain ⟨q5, e5, h⟩ := jj_be h
      refine jj_callVi [] [] (c_ref_next (d + 1)  e5) jm_ref_next lk_2_57 (b := 45) rfl (by decide) (jj_E2 rfl) rfl rfl rfl (by omega) rfl (Nat.le_of_ble_eq_true rfl) dX2_readOpened_52 ?_
      refine jj_bipush (41) dX2_readOpened_55 rfl ?_
      refine jj_icmp_ne 73 dX2_readOpened_57 (by decide) (fun c6 => ?_) (fun c6 => ?_)
      · replace h := (if_neg c6).symm.trans h
        refine jj_aload_n dX2_readOpened_73 0 rfl ?_
        refine jj_iconst (1) dX2_readOpened_74 rfl ?_
        refine jp_2_7 (k := 45) rfl (Or.inr rfl) lk_2_46 dX2_readOpened_75 ?_
        refine jj_aload_n dX2_readOpened_78 0 rfl ?_
        refine jj_dup dX2_readOpened_79 rfl ?_
        refine jg_2_6 (k := 45) rfl lk_2_40 dX2_readOpened_80 ?_
        refine jj_iconst (1) dX2_readOpened_83 rfl ?_
        refine jj_isub dX2_readOpened_84 ?_
        refine jp_2_6 (k := 45) rfl lk_2_40 dX2_readOpened_85 ?_
        exact jj_vret1 hF dX2_readOpened_88 (Option.some.inj h)
      · replace h := (if_pos c6).symm.trans h
        refine jj_aload_n dX2_readOpened_60 0 rfl ?_
        refine jj_dup dX2_readOpened_61 rfl ?_
        refine jg_2_5 (k := 45) rfl lk_2_37 dX2_readOpened_62 ?_
        refine jj_iconst (1) dX2_readOpened_65 rfl ?_
        refine jj_iadd dX2_readOpened_66 ?_
        refine jp_2_5 (k := 45) rfl lk_2_37 dX2_readOpened_67 ?_
        refine jj_goto 78 dX2_readOpened_70 (by decide) ?_
        refine jj_aload_n dX2_readOpened_78 0 rfl ?_
        refine jj_dup dX2_readOpened_79 rfl ?_
        refine jg_2_6 (k := 45) rfl lk_2_40 dX2_readOpened_80 ?_
        refine jj_iconst (1) dX2_readOpened_83 rfl ?_
        refine jj_isub dX2_readOpened_84 ?_
        refine jp_2_6 (k := 45) rfl lk_2_40 dX2_readOpened_85 ?_
        obtain ⟨m7, em7, h⟩ := jj_be h
        refine jj_mu em7 ?_
        exact jj_vret1 hF dX2_readOpened_88 (Option.some.inj h)
  · replace h := (if_pos c2).symm.trans h
    refine jj_aload_n dX2_readOpened_26 0 rfl ?_
    obtain ⟨q8, e8, h⟩ := jj_be h
    refine jj_callVv [] [] (h_ref_readSingle  e8) jm_ref_readSingle lk_2_54 (b := 45) rfl (by decide) (jj_E2 rfl) rfl rfl rfl (by omega) rfl (Nat.le_of_ble_eq_true rfl) dX2_readOpened_27 ?_
    refine jj_aload_n dX2_readOpened_30 0 rfl ?_
    refine jj_iload_n dX2_readOpened_31 1 rfl ?_
    refine jj_ineg dX2_readOpened_32 ?_
    obtain ⟨q9, e9, h⟩ := jj_be h
    refine jj_callVv [.int (-x1)] [] (c_ref_emit (d + 1)  e9) jm_ref_emit lk_2_65 (b := 45) rfl (by decide) (jj_E2 rfl) rfl rfl rfl (by omega) rfl (Nat.le_of_ble_eq_true rfl) dX2_readOpened_33 ?_
    refine jj_goto 78 dX2_readOpened_36 (by decide) ?_
    refine jj_aload_n dX2_readOpened_78 0 rfl ?_
    refine jj_dup dX2_readOpened_79 rfl ?_
    refine jg_2_6 (k := 45) rfl lk_2_40 dX2_readOpened_80 ?_
    refine jj_iconst (1) dX2_readOpened_83 rfl ?_
    refine jj_isub dX2_readOpened_84 ?_
    refine jp_2_6 (k := 45) rfl lk_2_40 dX2_readOpened_85 ?_
    exact jj_vret1 hF dX2_readOpened_88 (Option.some.inj h)
def ref_readSingle_B63 (N : Nat) (f_ref_readOpened : Int32 → jj_M → Option (jj_M))  (x1 : Int32) (μ : jj_M) : Option (jj_M) := if 5 ≤ (μ 45 6) then some (jj_u μ 45 7 1) else (f_ref_readOpened x1 μ).bind fun q2 => some q2
set_option maxRecDepth 100000 in
theorem t_ref_readSingle_B63 {g : jj_G} (d : Nat) {N : Nat} {f_ref_readOpened : Int32 → jj_M → Option (jj_M)}  {x1 : Int32} {μ : jj_M}  {μ' : jj_M} {X : jj_X} (h_ref_readOpened : ∀ {x1 : Int32} {μ : jj_M} {μ' : jj_M} , f_ref_readOpened x1 μ = some μ' → jj_N g yX2_readOpened cX2_readOpened 2 none (d + 1) [.ref (jj_ad g 45), .int x1] μ none μ')  (hF : jj_F g none none μ' X)  (h : ref_readSingle_B63 N f_ref_readOpened x1 μ = some μ') : jj_V g X RX2 cX2_readSingle 3 (d + 2) 63 [(0, .ref (jj_ad g 45)), (1, .int x1)] [] μ := by
  unfold ref_readSingle_B63 at h
  refine jj_aload_n dX2_readSingle_63 0 rfl ?_
  refine jg_2_6 (k := 45) rfl lk_2_40 dX2_readSingle_64 ?_
  refine jj_iconst (5) dX2_readSingle_67 rfl ?_
  refine jj_icmp_ge 79 dX2_readSingle_68 (by decide) (fun c1 => ?_) (fun c1 => ?_)
  · replace h := (if_pos c1).symm.trans h
    refine jj_aload_n dX2_readSingle_79 0 rfl ?_
    refine jj_iconst (1) dX2_readSingle_80 rfl ?_
    refine jp_2_7 (k := 45) rfl (Or.inr rfl) lk_2_46 dX2_readSingle_81 ?_
    exact jj_vret1 hF dX2_readSingle_84 (Option.some.inj h)
  · replace h := (if_neg c1).symm.trans h
    refine jj_aload_n dX2_readSingle_71 0 rfl ?_
    refine jj_iload_n dX2_readSingle_72 1 rfl ?_
    obtain ⟨q2, e2, h⟩ := jj_be h
    refine jj_callVv [.int x1] [] (h_ref_readOpened  e2) jm_ref_readOpened lk_2_80 (b := 45) rfl (by decide) (jj_E2 rfl) rfl rfl rfl (by omega) rfl (Nat.le_of_ble_eq_true rfl) dX2_readSingle_73 ?_
    refine jj_goto 84 dX2_readSingle_76 (by decide) ?_
    exact jj_vret1 hF dX2_readSingle_84 (Option.some.inj h)
def ref_readSingle (N : Nat) (f_ref_readOpened : Int32 → jj_M → Option (jj_M))  (μ : jj_M) : Option (jj_M) := (ref_next μ).bind fun q1 => if (ref_isDigit q1) = 0 then if (ref_nameOf q1 μ) < 0 then if q1 = 33 then ref_readSingle_B63 N f_ref_readOpened q1 μ else if q1 = 40 then ref_readSingle_B63 N f_ref_readOpened q1 μ else some (jj_u μ 45 7 1) else (ref_emit (10000 + (ref_nameOf q1 μ)) (jj_u μ 45 5 ((μ 45 5) + 1))).bind fun q6 => some q6 else (ref_readNumber N μ).bind fun q7 => some q7
set_option maxRecDepth 100000 in
theorem c_ref_readSingle {g : jj_G} (d : Nat) {N : Nat} {f_ref_readOpened : Int32 → jj_M → Option (jj_M)}  {μ : jj_M} {μ' : jj_M} (h_ref_readOpened : ∀ {x1 : Int32} {μ : jj_M} {μ' : jj_M} , f_ref_readOpened x1 μ = some μ' → jj_N g yX2_readOpened cX2_readOpened 2 none (d + 1) [.ref (jj_ad g 45), .int x1] μ none μ')  (h : ref_readSingle N f_ref_readOpened μ = some μ') : jj_N g yX2_readSingle cX2_readSingle 3 none (d + 2) [.ref (jj_ad g 45)] μ none μ' := by
  refine jj_N_of jn_2 (Nat.le_of_ble_eq_true rfl) (fun X hF => ?_)
  unfold ref_readSingle at h
  refine jj_sub (own := RX2) (lv2 := [(0, .ref (jj_ad g 45))]) [0] rfl ?_
  refine jj_aload_n dX2_readSingle_0 0 rfl ?_
  obtain ⟨q1, e1, h⟩ := jj_be h
  refine jj_callVi [] [] (c_ref_next (d + 1)  e1) jm_ref_next lk_2_57 (b := 45) rfl (by decide) (jj_E2 rfl) rfl rfl rfl (by omega) rfl (Nat.le_of_ble_eq_true rfl) dX2_readSingle_1 ?_
  refine jj_istore_n [(1, .int q1), (0, .ref (jj_ad g 45))] dX2_readSingle_4 (by decide) rfl ?_
  refine jj_aload_n dX2_readSingle_5 1 rfl ?_
  refine jj_iload_n dX2_readSingle_6 0 rfl ?_
  refine jj_callVi [.int q1] [] (c_ref_nameOf (d + 1)  rfl) jm_ref_nameOf lk_2_68 (b := 45) rfl (by decide) (jj_E2 rfl) rfl rfl rfl (by omega) rfl (Nat.le_of_ble_eq_true rfl) dX2_readSingle_7 ?_
  refine jj_istore_n [(2, .int (ref_nameOf q1 μ)), (1, .int q1), (0, .ref (jj_ad g 45))] dX2_readSingle_10 (by decide) rfl ?_
  refine jj_iload_n dX2_readSingle_11 1 rfl ?_
  refine jj_callSi [.int q1] [] (c_ref_isDigit (d + 1)  rfl) jm_ref_isDigit lk_2_71 rfl (by omega) rfl (Nat.le_of_ble_eq_true rfl) dX2_readSingle_12 ?_
  refine jj_if_eq 25 dX2_readSingle_15 (by decide) (fun c2 => ?_) (fun c2 => ?_)
  · replace h := (if_pos c2).symm.trans h
    refine jj_iload_n dX2_readSingle_25 0 rfl ?_
    refine jj_if_lt 51 dX2_readSingle_26 (by decide) (fun c3 => ?_) (fun c3 => ?_)
    · replace h := (if_pos c3).symm.trans h
      refine jj_iload_n dX2_readSingle_51 1 rfl ?_
      refine jj_bipush (33) dX2_readSingle_52 rfl ?_
      refine jj_icmp_eq 63 dX2_readSingle_54 (by decide) (fun c4 => ?_) (fun c4 => ?_)
      · replace h := (if_pos c4).symm.trans h
        refine jj_sub [2, 1] rfl ?_
        exact t_ref_readSingle_B63 d h_ref_readOpened  hF  h
      · replace h := (if_neg c4).symm.trans h
        refine jj_iload_n dX2_readSingle_57 1 rfl ?_
        refine jj_bipush (40) dX2_readSingle_58 rfl ?_
        refine jj_icmp_ne 79 dX2_readSingle_60 (by decide) (fun c5 => ?_) (fun c5 => ?_)
        · replace h := (if_neg c5).symm.trans h
          refine jj_aload_n dX2_readSingle_79 2 rfl ?_
          refine jj_iconst (1) dX2_readSingle_80 rfl ?_
          refine jp_2_7 (k := 45) rfl (Or.inr rfl) lk_2_46 dX2_readSingle_81 ?_
          exact jj_vret1 hF dX2_readSingle_84 (Option.some.inj h)
        · replace h := (if_pos c5).symm.trans h
          refine jj_sub [2, 1] rfl ?_
          exact t_ref_readSingle_B63 d h_ref_readOpened  hF  h
    · replace h := (if_neg c3).symm.trans h
      refine jj_aload_n dX2_readSingle_29 2 rfl ?_
      refine jj_dup dX2_readSingle_30 rfl ?_
      refine jg_2_5 (k := 45) rfl lk_2_37 dX2_readSingle_31 ?_
      refine jj_iconst (1) dX2_readSingle_34 rfl ?_
      refine jj_iadd dX2_readSingle_35 ?_
      refine jp_2_5 (k := 45) rfl lk_2_37 dX2_readSingle_36 ?_
      refine jj_aload_n dX2_readSingle_39 2 rfl ?_
      refine jj_sipush (10000) dX2_readSingle_40 rfl ?_
      refine jj_iload_n dX2_readSingle_43 0 rfl ?_
      refine jj_iadd dX2_readSingle_44 ?_
      obtain ⟨q6, e6, h⟩ := jj_be h
      refine jj_callVv [.int (10000 + (ref_nameOf q1 μ))] [] (c_ref_emit (d + 1)  e6) jm_ref_emit lk_2_65 (b := 45) rfl (by decide) (jj_E2 rfl) rfl rfl rfl (by omega) rfl (Nat.le_of_ble_eq_true rfl) dX2_readSingle_45 ?_
      refine jj_goto 84 dX2_readSingle_48 (by decide) ?_
      exact jj_vret1 hF dX2_readSingle_84 (Option.some.inj h)
  · replace h := (if_neg c2).symm.trans h
    refine jj_aload_n dX2_readSingle_18 2 rfl ?_
    obtain ⟨q7, e7, h⟩ := jj_be h
    refine jj_callVv [] [] (c_ref_readNumber (d + 0)  e7) jm_ref_readNumber lk_2_75 (b := 45) rfl (by decide) (jj_E2 rfl) rfl rfl rfl (by omega) rfl (Nat.le_of_ble_eq_true rfl) dX2_readSingle_19 ?_
    refine jj_goto 84 dX2_readSingle_22 (by decide) ?_
    exact jj_vret1 hF dX2_readSingle_84 (Option.some.inj h)
def ref_readJoined_L31 (N : Nat) (f_ref_readSingle : jj_M → Option (jj_M)) (f_ref_readJoined : Int32 → jj_M → Option (jj_M))  (x1 : Int32) (x2 : Int32) : Nat → Int32 → jj_M → Option (jj_M)
  | 0, _, _ => none
  | n + 1, x3, μ => if x2 ≤ x3 then some μ else if (μ 45 7) = 0 then (ref_next μ).bind fun q3 => if (ref_rankOf q3) = x1 then (ref_next μ).bind fun q5 => (f_ref_readJoined (x1 + 1) (jj_u μ 45 5 ((μ 45 5) + 1))).bind fun q6 => (ref_emit (-q5) q6).bind fun q7 => ref_readJoined_L31 N f_ref_readSingle f_ref_readJoined x1 x2 n (x3 + 1) q7 else some μ else some μ
set_option maxRecDepth 100000 in
theorem t_ref_readJoined_L31 {g : jj_G} (d : Nat) {N : Nat} {f_ref_readSingle : jj_M → Option (jj_M)} {f_ref_readJoined : Int32 → jj_M → Option (jj_M)}  {x1 : Int32} {x2 : Int32}  {μ' : jj_M} {X : jj_X} (h_ref_readSingle : ∀  {μ : jj_M} {μ' : jj_M} , f_ref_readSingle μ = some μ' → jj_N g yX2_readSingle cX2_readSingle 3 none (d + 1) [.ref (jj_ad g 45)] μ none μ') (h_ref_readJoined : ∀ {x1 : Int32} {μ : jj_M} {μ' : jj_M} , f_ref_readJoined x1 μ = some μ' → jj_N g yX2_readJoined cX2_readJoined 5 none (d + 1) [.ref (jj_ad g 45), .int x1] μ none μ')  (hF : jj_F g none none μ' X)  : ∀ (n : Nat) (x3 : Int32) (μ : jj_M), ref_readJoined_L31 N f_ref_readSingle f_ref_readJoined x1 x2 n x3 μ = some μ' → jj_V g X RX2 cX2_readJoined 5 (d + 2) 31 [(0, .ref (jj_ad g 45)), (1, .int x1), (2, .int x2), (3, .int x3)] [] μ := by
  intro n
  induction n with
  | zero =>
    intro x3 μ h
    exact (jj_no h).elim
  | succ n ih =>
    intro x3 μ h
    rw [ref_readJoined_L31] at h
    refine jj_iload_n dX2_readJoined_31 3 rfl ?_
    refine jj_iload_n dX2_readJoined_32 2 rfl ?_
    refine jj_icmp_ge 90 dX2_readJoined_33 (by decide) (fun c1 => ?_) (fun c1 => ?_)
    · replace h := (if_pos c1).symm.trans h
      exact jj_vret1 hF dX2_readJoined_90 (Option.some.inj h)
    · replace h := (if_neg c1).symm.trans h
      refine jj_aload_n dX2_readJoined_36 0 rfl ?_
      refine jg_2_7 (k := 45) rfl lk_2_46 dX2_readJoined_37 ?_
      refine jj_if_ne 90 dX2_readJoined_40 (by decide) (fun c2 => ?_) (fun c2 => ?_)
      · replace h := (if_neg c2).symm.trans h
        exact jj_vret1 hF dX2_readJoined_90 (Option.some.inj h)
      · replace h := (if_pos c2).symm.trans h
        refine jj_aload_n dX2_readJoined_43 0 rfl ?_
        obtain ⟨q3, e3, h⟩ := jj_be h
        refine jj_callVi [] [] (c_ref_next (d + 1)  e3) jm_ref_next lk_2_57 (b := 45) rfl (by decide) (jj_E2 rfl) rfl rfl rfl (by omega) rfl (Nat.le_of_ble_eq_true rfl) dX2_readJoined_44 ?_
        refine jj_callSi [.int q3] [] (c_ref_rankOf (d + 1)  rfl) jm_ref_rankOf lk_2_61 rfl (by omega) rfl (Nat.le_of_ble_eq_true rfl) dX2_readJoined_47 ?_
        refine jj_iload_n dX2_readJoined_50 1 rfl ?_
        refine jj_icmp_ne 90 dX2_readJoined_51 (by decide) (fun c4 => ?_) (fun c4 => ?_)
        · replace h := (if_neg c4).symm.trans h
          exact jj_vret1 hF dX2_readJoined_90 (Option.some.inj h)
        · replace h := (if_pos c4).symm.trans h
          refine jj_aload_n dX2_readJoined_54 0 rfl ?_
          obtain ⟨q5, e5, h⟩ := jj_be h
          refine jj_callVi [] [] (c_ref_next (d + 1)  e5) jm_ref_next lk_2_57 (b := 45) rfl (by decide) (jj_E2 rfl) rfl rfl rfl (by omega) rfl (Nat.le_of_ble_eq_true rfl) dX2_readJoined_55 ?_
          refine jj_istore [(4, .int q5), (0, .ref (jj_ad g 45)), (1, .int x1), (2, .int x2), (3, .int x3)] dX2_readJoined_58 (by decide) rfl ?_
          refine jj_aload_n dX2_readJoined_60 1 rfl ?_
          refine jj_dup dX2_readJoined_61 rfl ?_
          refine jg_2_5 (k := 45) rfl lk_2_37 dX2_readJoined_62 ?_
          refine jj_iconst (1) dX2_readJoined_65 rfl ?_
          refine jj_iadd dX2_readJoined_66 ?_
          refine jp_2_5 (k := 45) rfl lk_2_37 dX2_readJoined_67 ?_
          refine jj_aload_n dX2_readJoined_70 1 rfl ?_
          refine jj_iload_n dX2_readJoined_71 2 rfl ?_
          refine jj_iconst (1) dX2_readJoined_72 rfl ?_
          refine jj_iadd dX2_readJoined_73 ?_
          obtain ⟨q6, e6, h⟩ := jj_be h
          refine jj_callVv [.int (x1 + 1)] [] (h_ref_readJoined  e6) jm_ref_readJoined lk_2_50 (b := 45) rfl (by decide) (jj_E2 rfl) rfl rfl rfl (by omega) rfl (Nat.le_of_ble_eq_true rfl) dX2_readJoined_74 ?_
          refine jj_aload_n dX2_readJoined_77 1 rfl ?_
          refine jj_iload dX2_readJoined_78 0 rfl ?_
          refine jj_ineg dX2_readJoined_80 ?_
          obtain ⟨q7, e7, h⟩ := jj_be h
          refine jj_callVv [.int (-q5)] [] (c_ref_emit (d + 1)  e7) jm_ref_emit lk_2_65 (b := 45) rfl (by decide) (jj_E2 rfl) rfl rfl rfl (by omega) rfl (Nat.le_of_ble_eq_true rfl) dX2_readJoined_81 ?_
          refine jj_iinc (x3 + 1) [(3, .int (x3 + 1)), (4, .int q5), (0, .ref (jj_ad g 45)), (1, .int x1), (2, .int x2)] dX2_readJoined_84 4 rfl rfl (by decide) rfl ?_
          refine jj_goto 31 dX2_readJoined_87 (by decide) ?_
          refine jj_sub [2, 3, 4, 0] rfl ?_
          exact ih _ _ h
def ref_readJoined (N : Nat) (f_ref_readSingle : jj_M → Option (jj_M)) (f_ref_readJoined : Int32 → jj_M → Option (jj_M)) (x1 : Int32) (μ : jj_M) : Option (jj_M) := if x1 < 5 then (f_ref_readJoined (x1 + 1) μ).bind fun q2 => if x1 = 2 then ref_readJoined_L31 N f_ref_readSingle f_ref_readJoined x1 1 N 0 q2 else ref_readJoined_L31 N f_ref_readSingle f_ref_readJoined x1 50 N 0 q2 else (f_ref_readSingle μ).bind fun q4 => some q4
set_option maxRecDepth 100000 in
theorem c_ref_readJoined {g : jj_G} (d : Nat) {N : Nat} {f_ref_readSingle : jj_M → Option (jj_M)} {f_ref_readJoined : Int32 → jj_M → Option (jj_M)} {x1 : Int32} {μ : jj_M} {μ' : jj_M} (h_ref_readSingle : ∀  {μ : jj_M} {μ' : jj_M} , f_ref_readSingle μ = some μ' → jj_N g yX2_readSingle cX2_readSingle 3 none (d + 1) [.ref (jj_ad g 45)] μ none μ') (h_ref_readJoined : ∀ {x1 : Int32} {μ : jj_M} {μ' : jj_M} , f_ref_readJoined x1 μ = some μ' → jj_N g yX2_readJoined cX2_readJoined 5 none (d + 1) [.ref (jj_ad g 45), .int x1] μ none μ')  (h : ref_readJoined N f_ref_readSingle f_ref_readJoined x1 μ = some μ') : jj_N g yX2_readJoined cX2_readJoined 5 none (d + 2) [.ref (jj_ad g 45), .int x1] μ none μ' := by
  refine jj_N_of jn_2 (Nat.le_of_ble_eq_true rfl) (fun X hF => ?_)
  unfold ref_readJoined at h
  refine jj_sub (own := RX2) (lv2 := [(0, .ref (jj_ad g 45)), (1, .int x1)]) [0, 1] rfl ?_
  refine jj_iload_n dX2_readJoined_0 1 rfl ?_
  refine jj_iconst (5) dX2_readJoined_1 rfl ?_
  refine jj_icmp_lt 10 dX2_readJoined_2 (by decide) (fun c1 => ?_) (fun c1 => ?_)
  · replace h := (if_pos c1).symm.trans h
    refine jj_aload_n dX2_readJoined_10 0 rfl ?_
    refine jj_iload_n dX2_readJoined_11 1 rfl ?_
    refine jj_iconst (1) dX2_readJoined_12 rfl ?_
    refine jj_iadd dX2_readJoined_13 ?_
    obtain ⟨q2, e2, h⟩ := jj_be h
    refine jj_callVv [.int (x1 + 1)] [] (h_ref_readJoined  e2) jm_ref_readJoined lk_2_50 (b := 45) rfl (by decide) (jj_E2 rfl) rfl rfl rfl (by omega) rfl (Nat.le_of_ble_eq_true rfl) dX2_readJoined_14 ?_
    refine jj_iload_n dX2_readJoined_17 1 rfl ?_
    refine jj_iconst (2) dX2_readJoined_18 rfl ?_
    refine jj_icmp_ne 26 dX2_readJoined_19 (by decide) (fun c3 => ?_) (fun c3 => ?_)
    · replace h := (if_neg c3).symm.trans h
      refine jj_bipush (50) dX2_readJoined_26 rfl ?_
      refine jj_istore_n [(2, .int 50), (0, .ref (jj_ad g 45)), (1, .int x1)] dX2_readJoined_28 (by decide) rfl ?_
      refine jj_iconst (0) dX2_readJoined_29 rfl ?_
      refine jj_istore_n [(3, .int 0), (2, .int 50), (0, .ref (jj_ad g 45)), (1, .int x1)] dX2_readJoined_30 (by decide) rfl ?_
      refine jj_sub [2, 3, 1, 0] rfl ?_
      exact t_ref_readJoined_L31 d h_ref_readSingle h_ref_readJoined  hF  _ _ _ h
    · replace h := (if_pos c3).symm.trans h
      refine jj_iconst (1) dX2_readJoined_22 rfl ?_
      refine jj_goto 28 dX2_readJoined_23 (by decide) ?_
      refine jj_istore_n [(2, .int 1), (0, .ref (jj_ad g 45)), (1, .int x1)] dX2_readJoined_28 (by decide) rfl ?_
      refine jj_iconst (0) dX2_readJoined_29 rfl ?_
      refine jj_istore_n [(3, .int 0), (2, .int 1), (0, .ref (jj_ad g 45)), (1, .int x1)] dX2_readJoined_30 (by decide) rfl ?_
      refine jj_sub [2, 3, 1, 0] rfl ?_
      exact t_ref_readJoined_L31 d h_ref_readSingle h_ref_readJoined  hF  _ _ _ h
  · replace h := (if_neg c1).symm.trans h
    refine jj_aload_n dX2_readJoined_5 0 rfl ?_
    obtain ⟨q4, e4, h⟩ := jj_be h
    refine jj_callVv [] [] (h_ref_readSingle  e4) jm_ref_readSingle lk_2_54 (b := 45) rfl (by decide) (jj_E2 rfl) rfl rfl rfl (by omega) rfl (Nat.le_of_ble_eq_true rfl) dX2_readJoined_6 ?_
    exact jj_vret1 hF dX2_readJoined_9 (Option.some.inj h)
/-- the group of methods that call one another, by depth -/
def ref_grp (N : Nat) : Nat → Nat → Int32 → jj_M → Option (jj_M)
  | 0, _, _, _ => none
  | k + 1, mode, a1, μ => if mode = 0 then ref_readOpened N (fun μ => ref_grp N k 1 0 μ) (fun a1 μ => ref_grp N k 2 a1 μ) a1 μ else if mode = 1 then ref_readSingle N (fun a1 μ => ref_grp N k 0 a1 μ)  μ else if mode = 2 then ref_readJoined N (fun μ => ref_grp N k 1 0 μ) (fun a1 μ => ref_grp N k 2 a1 μ) a1 μ else none
theorem t_ref_grp {g : jj_G} (d N : Nat) : ∀ k : Nat, (∀ (x1 : Int32) (μ : jj_M) (μ' : jj_M), ref_grp N k 0 x1 μ = some μ' → jj_N g yX2_readOpened cX2_readOpened 2 none (d + k + 1) [.ref (jj_ad g 45), .int x1] μ none μ') ∧ (∀  (μ : jj_M) (μ' : jj_M), ref_grp N k 1 0 μ = some μ' → jj_N g yX2_readSingle cX2_readSingle 3 none (d + k + 1) [.ref (jj_ad g 45)] μ none μ') ∧ (∀ (x1 : Int32) (μ : jj_M) (μ' : jj_M), ref_grp N k 2 x1 μ = some μ' → jj_N g yX2_readJoined cX2_readJoined 5 none (d + k + 1) [.ref (jj_ad g 45), .int x1] μ none μ') := by
  intro k
  induction k with
  | zero => exact ⟨fun _ _ _ h => (jj_no h).elim, fun _ _ h => (jj_no h).elim, fun _ _ _ h => (jj_no h).elim⟩
  | succ k ih =>
    obtain ⟨ih0, ih1, ih2⟩ := ih
    refine ⟨?_, ?_, ?_⟩
    · intro b0 μ μ' h
      rw [ref_grp, if_pos rfl] at h
      exact c_ref_readOpened (d + k) (fun h => ih1 _ _ h) (fun h => ih2 _ _ _ h) h
    · intro μ μ' h
      rw [ref_grp, if_neg (show ¬ ((1 : Nat) = 0) by decide), if_pos rfl] at h
      exact c_ref_readSingle (d + k) (fun h => ih0 _ _ _ h) h
    · intro b0 μ μ' h
      rw [ref_grp, if_neg (show ¬ ((2 : Nat) = 0) by decide), if_neg (show ¬ ((2 : Nat) = 1) by decide), if_pos rfl] at h
      exact c_ref_readJoined (d + k) (fun h => ih1 _ _ h) (fun h => ih2 _ _ _ h) h
def ref_readOpened_G (N : Nat) (x1 : Int32) (μ : jj_M) : Option (jj_M) := ref_grp N 64 0 x1 μ
theorem c_ref_readOpened_G {g : jj_G} (d : Nat) {N : Nat} {x1 : Int32} {μ : jj_M} {μ' : jj_M} (h : ref_readOpened_G N x1 μ = some μ') : jj_N g yX2_readOpened cX2_readOpened 2 none (d + 65) [.ref (jj_ad g 45), .int x1] μ none μ' :=
  (t_ref_grp d N 64).1 _ _ _ h
def ref_readSingle_G (N : Nat)  (μ : jj_M) : Option (jj_M) := ref_grp N 64 1 0 μ
theorem c_ref_readSingle_G {g : jj_G} (d : Nat) {N : Nat}  {μ : jj_M} {μ' : jj_M} (h : ref_readSingle_G N  μ = some μ') : jj_N g yX2_readSingle cX2_readSingle 3 none (d + 65) [.ref (jj_ad g 45)] μ none μ' :=
  (t_ref_grp d N 64).2.1 _ _ h
def ref_readJoined_G (N : Nat) (x1 : Int32) (μ : jj_M) : Option (jj_M) := ref_grp N 64 2 x1 μ
theorem c_ref_readJoined_G {g : jj_G} (d : Nat) {N : Nat} {x1 : Int32} {μ : jj_M} {μ' : jj_M} (h : ref_readJoined_G N x1 μ = some μ') : jj_N g yX2_readJoined cX2_readJoined 5 none (d + 65) [.ref (jj_ad g 45), .int x1] μ none μ' :=
  (t_ref_grp d N 64).2.2 _ _ _ h
def ref_read (N : Nat) (p1 : Nat) (n1 : Nat) (x2 : Int32) (x3 : Int32) (μ : jj_M) : Option (Int32 × jj_M) := if jj_cg 0 0 ((jj_u μ 45 3 (jdf_min x2 50)) 45 3) n1 50 then (some (jj_uc (jj_u μ 45 3 (jdf_min x2 50)) 47 (va_cpy ((jj_u μ 45 3 (jdf_min x2 50)) p1) ((jj_u μ 45 3 (jdf_min x2 50)) 47) (Int32.toNatClampNeg 0) (Int32.toNatClampNeg 0) (Int32.toNatClampNeg ((jj_u μ 45 3 (jdf_min x2 50)) 45 3))))).bind fun m2 => (some (jj_u (jj_u (jj_u (jj_u (jj_u m2 45 4 x3) 45 5 0) 45 6 0) 45 1 0) 45 7 0)).bind fun m3 => (ref_readJoined_G N 0 m3).bind fun q4 => if (q4 45 7) = 0 then if (q4 45 3) ≤ (q4 45 5) then some ((-1, q4)) else some ((q4 45 5, q4)) else some ((q4 45 5, q4)) else none
set_option maxRecDepth 100000 in
theorem c_ref_read {g : jj_G} (d : Nat) {N : Nat} {p1 : Nat} {n1 : Nat} {x2 : Int32} {x3 : Int32} {μ : jj_M} {r : Int32} {μ' : jj_M}  (hp1 : jj_kd p1 = n1 + 100) (h : ref_read N p1 n1 x2 x3 μ = some (r, μ')) : jj_N g yX2_read cX2_read 4 (some .int) (d + 66) [.ref (jj_ad g 45), .ref (jj_ad g p1), .int x2, .int x3] μ (some (.int r)) μ' := by
  refine jj_N_of jn_2 (Nat.le_of_ble_eq_true rfl) (fun X hF => ?_)
  unfold ref_read at h
  refine jj_sub (own := RX2) (lv2 := [(0, .ref (jj_ad g 45)), (1, .ref (jj_ad g p1)), (2, .int x2), (3, .int x3)]) [0, 1, 2, 3] rfl ?_
  refine jj_aload_n dX2_read_0 0 rfl ?_
  refine jj_iload_n dX2_read_1 2 rfl ?_
  refine jj_bipush (50) dX2_read_2 rfl ?_
  refine jj_mmin lk_2_18 (by omega) (Nat.le_of_ble_eq_true rfl) dX2_read_4 ?_
  refine jp_2_3 (k := 45) rfl lk_2_24 dX2_read_7 ?_
  refine jj_aload_n dX2_read_10 1 rfl ?_
  refine jj_iconst (0) dX2_read_11 rfl ?_
  refine jj_aload_n dX2_read_12 0 rfl ?_
  refine jg_2_2 (k := 45) rfl lk_2_15 dX2_read_13 ?_
  show jj_V g X _ _ _ _ _ _ (.ref (jj_ad g 47) :: _) _
  refine jj_iconst (0) dX2_read_16 rfl ?_
  refine jj_aload_n dX2_read_17 0 rfl ?_
  refine jg_2_3 (k := 45) rfl lk_2_24 dX2_read_18 ?_
  obtain ⟨g1, h⟩ := jj_ge h
  refine jj_copy (k0 := p1) (k1 := 47) (n0 := n1) (n1 := 50) hp1 rfl g1 (by omega) (Nat.le_of_ble_eq_true rfl) lk_2_28 dX2_read_21 ?_
  obtain ⟨m2, em2, h⟩ := jj_be h
  refine jj_mu em2 ?_
  refine jj_aload_n dX2_read_24 0 rfl ?_
  refine jj_iload_n dX2_read_25 3 rfl ?_
  refine jp_2_4 (k := 45) rfl lk_2_34 dX2_read_26 ?_
  refine jj_aload_n dX2_read_29 0 rfl ?_
  refine jj_iconst (0) dX2_read_30 rfl ?_
  refine jp_2_5 (k := 45) rfl lk_2_37 dX2_read_31 ?_
  refine jj_aload_n dX2_read_34 0 rfl ?_
  refine jj_iconst (0) dX2_read_35 rfl ?_
  refine jp_2_6 (k := 45) rfl lk_2_40 dX2_read_36 ?_
  refine jj_aload_n dX2_read_39 0 rfl ?_
  refine jj_iconst (0) dX2_read_40 rfl ?_
  refine jp_2_1 (k := 45) rfl lk_2_43 dX2_read_41 ?_
  refine jj_aload_n dX2_read_44 0 rfl ?_
  refine jj_iconst (0) dX2_read_45 rfl ?_
  refine jp_2_7 (k := 45) rfl (Or.inl rfl) lk_2_46 dX2_read_46 ?_
  obtain ⟨m3, em3, h⟩ := jj_be h
  refine jj_mu em3 ?_
  refine jj_aload_n dX2_read_49 0 rfl ?_
  refine jj_iconst (0) dX2_read_50 rfl ?_
  obtain ⟨q4, e4, h⟩ := jj_be h
  refine jj_callVv [.int 0] [] (c_ref_readJoined_G (d + 0)  e4) jm_ref_readJoined lk_2_50 (b := 45) rfl (by decide) (jj_E2 rfl) rfl rfl rfl (by omega) rfl (Nat.le_of_ble_eq_true rfl) dX2_read_51 ?_
  refine jj_aload_n dX2_read_54 0 rfl ?_
  refine jg_2_7 (k := 45) rfl lk_2_46 dX2_read_55 ?_
  refine jj_if_ne 72 dX2_read_58 (by decide) (fun c5 => ?_) (fun c5 => ?_)
  · replace h := (if_neg c5).symm.trans h
    refine jj_aload_n dX2_read_72 0 rfl ?_
    refine jg_2_5 (k := 45) rfl lk_2_37 dX2_read_73 ?_
    refine jj_goto 80 dX2_read_76 (by decide) ?_
    exact jj_iret2 hF dX2_read_80 (Option.some.inj h)
  · replace h := (if_pos c5).symm.trans h
    refine jj_aload_n dX2_read_61 0 rfl ?_
    refine jg_2_5 (k := 45) rfl lk_2_37 dX2_read_62 ?_
    refine jj_aload_n dX2_read_65 0 rfl ?_
    refine jg_2_3 (k := 45) rfl lk_2_24 dX2_read_66 ?_
    refine jj_icmp_ge 79 dX2_read_69 (by decide) (fun c6 => ?_) (fun c6 => ?_)
    · replace h := (if_pos c6).symm.trans h
      refine jj_iconst (-1) dX2_read_79 rfl ?_
      exact jj_iret2 hF dX2_read_80 (Option.some.inj h)
    · replace h := (if_neg c6).symm.trans h
      refine jj_aload_n dX2_read_72 0 rfl ?_
      refine jg_2_5 (k := 45) rfl lk_2_37 dX2_read_73 ?_
      refine jj_goto 80 dX2_read_76 (by decide) ?_
      exact jj_iret2 hF dX2_read_80 (Option.some.inj h)
def laf_take  (p0 : Nat) (p1 : Nat) (n1 : Nat) (x2 : Int32) (μ : jj_M) : Option (jj_M) := if jj_cg 0 0 ((jj_u μ p0 1 (jdf_min x2 50)) p0 1) n1 50 then (some (jj_uc (jj_u μ p0 1 (jdf_min x2 50)) (p0 + 1) (va_cpy ((jj_u μ p0 1 (jdf_min x2 50)) p1) ((jj_u μ p0 1 (jdf_min x2 50)) (p0 + 1)) (Int32.toNatClampNeg 0) (Int32.toNatClampNeg 0) (Int32.toNatClampNeg ((jj_u μ p0 1 (jdf_min x2 50)) p0 1))))).bind fun m2 => some m2 else none
set_option maxRecDepth 100000 in
theorem c_laf_take {g : jj_G} (d : Nat)  {p0 : Nat} {p1 : Nat} {n1 : Nat} {x2 : Int32} {μ : jj_M} {μ' : jj_M}  (hp0 : jj_kd p0 = 0) (hp1 : jj_kd p1 = n1 + 100) (h : laf_take p0 p1 n1 x2 μ = some μ') : jj_N g yX0_take cX0_take 3 none (d + 1) [.ref (jj_ad g p0), .ref (jj_ad g p1), .int x2] μ none μ' := by
  refine jj_N_of jn_0 (Nat.le_of_ble_eq_true rfl) (fun X hF => ?_)
  unfold laf_take at h
  refine jj_sub (own := RX0) (lv2 := [(0, .ref (jj_ad g p0)), (1, .ref (jj_ad g p1)), (2, .int x2)]) [0, 1, 2] rfl ?_
  refine jj_aload_n dX0_take_0 0 rfl ?_
  refine jj_iload_n dX0_take_1 2 rfl ?_
  refine jj_bipush (50) dX0_take_2 rfl ?_
  refine jj_mmin lk_0_22 (by omega) (Nat.le_of_ble_eq_true rfl) dX0_take_4 ?_
  refine jp_0_1 (k := p0) hp0 lk_0_28 dX0_take_7 ?_
  refine jj_aload_n dX0_take_10 1 rfl ?_
  refine jj_iconst (0) dX0_take_11 rfl ?_
  refine jj_aload_n dX0_take_12 0 rfl ?_
  refine jg_0_0 (k := p0) hp0 lk_0_9 dX0_take_13 ?_
  refine jj_iconst (0) dX0_take_16 rfl ?_
  refine jj_aload_n dX0_take_17 0 rfl ?_
  refine jg_0_1 (k := p0) hp0 lk_0_28 dX0_take_18 ?_
  obtain ⟨g1, h⟩ := jj_ge h
  refine jj_copy (k0 := p1) (k1 := p0 + 1) (n0 := n1) (n1 := 50) hp1 (jk_0_0 hp0) g1 (by omega) (Nat.le_of_ble_eq_true rfl) lk_0_31 dX0_take_21 ?_
  obtain ⟨m2, em2, h⟩ := jj_be h
  refine jj_mu em2 ?_
  exact jj_vret1 hF dX0_take_24 (Option.some.inj h)
def wnf_text (N : Nat) (x1 : Int32) (μ : jj_M) : Option (Int32 × jj_M) := if (wnf_isUse x1) = 0 then (wnf_refuse 1 μ).bind fun q6 => some ((q6.1, q6.2)) else (ref_read N 7 50 (μ 1 11) x1 μ).bind fun q2 => if q2.1 < 0 then if jj_i x1 2 then (laf_take (6 + 9 + 3 * x1.toNatClampNeg) 46 50 ((jj_u q2.2 1 11 0) 45 1) (jj_u q2.2 1 11 0)).bind fun q5 => some ((1, q5)) else none else some (((-10) - q2.1, jj_u q2.2 1 11 0))
set_option maxRecDepth 100000 in
theorem c_wnf_text {g : jj_G} (d : Nat) {N : Nat} {x1 : Int32} {μ : jj_M} {r : Int32} {μ' : jj_M}   (h : wnf_text N x1 μ = some (r, μ')) : jj_N g yX7_text cX7_text 3 (some .int) (d + 67) [.ref (jj_ad g 0), .int x1] μ (some (.int r)) μ' := by
  refine jj_N_of jn_7 (Nat.le_of_ble_eq_true rfl) (fun X hF => ?_)
  unfold wnf_text at h
  refine jj_sub (own := RX7) (lv2 := [(0, .ref (jj_ad g 0)), (1, .int x1)]) [0, 1] rfl ?_
  refine jj_iload_n dX7_text_0 1 rfl ?_
  refine jj_callSi [.int x1] [] (c_wnf_isUse (d + 65)  rfl) jm_wnf_isUse lk_7_147 rfl (by omega) rfl (Nat.le_of_ble_eq_true rfl) dX7_text_1 ?_
  refine jj_if_ne 13 dX7_text_4 (by decide) (fun c1 => ?_) (fun c1 => ?_)
  · replace h := (if_neg c1).symm.trans h
    refine jj_aload_n dX7_text_13 0 rfl ?_
    refine jg_7_3 (k := 0) rfl lk_7_29 dX7_text_14 ?_
    show jj_V g X _ _ _ _ _ _ (.ref (jj_ad g 45) :: _) _
    refine jj_aload_n dX7_text_17 0 rfl ?_
    refine jg_7_0 (k := 0) rfl lk_7_10 dX7_text_18 ?_
    show jj_V g X _ _ _ _ _ _ (.ref (jj_ad g 1) :: _) _
    refine jg_6_5 (k := 1) rfl lk_7_144 dX7_text_21 ?_
    show jj_V g X _ _ _ _ _ _ (.ref (jj_ad g 7) :: _) _
    refine jj_aload_n dX7_text_24 0 rfl ?_
    refine jg_7_0 (k := 0) rfl lk_7_10 dX7_text_25 ?_
    show jj_V g X _ _ _ _ _ _ (.ref (jj_ad g 1) :: _) _
    refine jg_6_11 (k := 1) rfl lk_7_141 dX7_text_28 ?_
    refine jj_iload_n dX7_text_31 1 rfl ?_
    obtain ⟨q2, e2, h⟩ := jj_be h
    refine jj_callVi [.ref (jj_ad g 7), .int (μ 1 11), .int x1] [] (c_ref_read (d + 0) rfl e2) jm_ref_read lk_7_150 (b := 45) rfl (by decide) (jj_E2 rfl) rfl rfl rfl (by omega) rfl (Nat.le_of_ble_eq_true rfl) dX7_text_32 ?_
    refine jj_istore_n [(2, .int q2.1), (0, .ref (jj_ad g 0)), (1, .int x1)] dX7_text_35 (by decide) rfl ?_
    refine jj_aload_n dX7_text_36 1 rfl ?_
    refine jg_7_0 (k := 0) rfl lk_7_10 dX7_text_37 ?_
    show jj_V g X _ _ _ _ _ _ (.ref (jj_ad g 1) :: _) _
    refine jj_iconst (0) dX7_text_40 rfl ?_
    refine jp_6_11 (k := 1) rfl lk_7_141 dX7_text_41 ?_
    refine jj_iload_n dX7_text_44 0 rfl ?_
    refine jj_if_lt 53 dX7_text_45 (by decide) (fun c3 => ?_) (fun c3 => ?_)
    · replace h := (if_pos c3).symm.trans h
      refine jj_aload_n dX7_text_53 1 rfl ?_
      refine jg_7_0 (k := 0) rfl lk_7_10 dX7_text_54 ?_
      show jj_V g X _ _ _ _ _ _ (.ref (jj_ad g 1) :: _) _
      refine jg_6_4 (k := 1) rfl lk_7_154 dX7_text_57 ?_
      show jj_V g X _ _ _ _ _ _ (.ref (jj_ad g 6) :: _) _
      refine jj_iload_n dX7_text_60 2 rfl ?_
      obtain ⟨g4, h⟩ := jj_ge h
      refine jj_aaload11 (k := 6) rfl g4 dX7_text_61 ?_
      refine jj_aload_n dX7_text_62 1 rfl ?_
      refine jg_7_3 (k := 0) rfl lk_7_29 dX7_text_63 ?_
      show jj_V g X _ _ _ _ _ _ (.ref (jj_ad g 45) :: _) _
      refine jg_2_0 (k := 45) rfl lk_7_158 dX7_text_66 ?_
      show jj_V g X _ _ _ _ _ _ (.ref (jj_ad g 46) :: _) _
      refine jj_aload_n dX7_text_69 1 rfl ?_
      refine jg_7_3 (k := 0) rfl lk_7_29 dX7_text_70 ?_
      show jj_V g X _ _ _ _ _ _ (.ref (jj_ad g 45) :: _) _
      refine jg_2_1 (k := 45) rfl lk_7_161 dX7_text_73 ?_
      obtain ⟨q5, e5, h⟩ := jj_be h
      refine jj_callVv [.ref (jj_ad g 46), .int ((jj_u q2.2 1 11 0) 45 1)] [] (c_laf_take (d + 65) (jk_11 (k := 6) rfl g4) rfl e5) jm_laf_take lk_7_164 (b := 6 + 9 + 3 * x1.toNatClampNeg) (jk_11 (k := 6) rfl g4) (by decide) (jj_E0 (jk_11 (k := 6) rfl g4)) rfl rfl rfl (by omega) rfl (Nat.le_of_ble_eq_true rfl) dX7_text_76 ?_
      refine jj_iconst (1) dX7_text_79 rfl ?_
      exact jj_iret2 hF dX7_text_80 (Option.some.inj h)
    · replace h := (if_neg c3).symm.trans h
      refine jj_bipush (-10) dX7_text_48 rfl ?_
      refine jj_iload_n dX7_text_50 0 rfl ?_
      refine jj_isub dX7_text_51 ?_
      exact jj_iret2 hF dX7_text_52 (Option.some.inj h)
  · replace h := (if_pos c1).symm.trans h
    refine jj_aload_n dX7_text_7 0 rfl ?_
    refine jj_iconst (1) dX7_text_8 rfl ?_
    obtain ⟨q6, e6, h⟩ := jj_be h
    refine jj_callVi [.int 1] [] (c_wnf_refuse (d + 66)  e6) jm_wnf_refuse lk_7_59 (b := 0) rfl (by decide) (jj_E7 rfl) rfl rfl rfl (by omega) rfl (Nat.le_of_ble_eq_true rfl) dX7_text_9 ?_
    exact jj_iret2 hF dX7_text_12 (Option.some.inj h)
def wnf_law (N : Nat) (x1 : Int32) (x2 : Int32) (x3 : Int32) (x4 : Int32) (μ : jj_M) : Option (Int32 × jj_M) := if (wnf_isUse x1) = 0 then (wnf_refuse 1 μ).bind fun q2 => some ((q2.1, q2.2)) else if jj_i x1 2 then (laf_gives N (6 + 9 + 3 * x1.toNatClampNeg) x2 x3 x4 μ).bind fun q4 => some ((q4.1, q4.2)) else none
set_option maxRecDepth 100000 in
theorem c_wnf_law {g : jj_G} (d : Nat) {N : Nat} {x1 : Int32} {x2 : Int32} {x3 : Int32} {x4 : Int32} {μ : jj_M} {r : Int32} {μ' : jj_M}   (h : wnf_law N x1 x2 x3 x4 μ = some (r, μ')) : jj_N g yX7_law cX7_law 5 (some .int) (d + 3) [.ref (jj_ad g 0), .int x1, .int x2, .int x3, .int x4] μ (some (.int r)) μ' := by
  refine jj_N_of jn_7 (Nat.le_of_ble_eq_true rfl) (fun X hF => ?_)
  unfold wnf_law at h
  refine jj_sub (own := RX7) (lv2 := [(0, .ref (jj_ad g 0)), (1, .int x1), (2, .int x2), (3, .int x3), (4, .int x4)]) [0, 1, 2, 3, 4] rfl ?_
  refine jj_iload_n dX7_law_0 1 rfl ?_
  refine jj_callSi [.int x1] [] (c_wnf_isUse (d + 1)  rfl) jm_wnf_isUse lk_7_147 rfl (by omega) rfl (Nat.le_of_ble_eq_true rfl) dX7_law_1 ?_
  refine jj_if_eq 26 dX7_law_4 (by decide) (fun c1 => ?_) (fun c1 => ?_)
  · replace h := (if_pos c1).symm.trans h
    refine jj_aload_n dX7_law_26 0 rfl ?_
    refine jj_iconst (1) dX7_law_27 rfl ?_
    obtain ⟨q2, e2, h⟩ := jj_be h
    refine jj_callVi [.int 1] [] (c_wnf_refuse (d + 2)  e2) jm_wnf_refuse lk_7_59 (b := 0) rfl (by decide) (jj_E7 rfl) rfl rfl rfl (by omega) rfl (Nat.le_of_ble_eq_true rfl) dX7_law_28 ?_
    exact jj_iret2 hF dX7_law_31 (Option.some.inj h)
  · replace h := (if_neg c1).symm.trans h
    refine jj_aload_n dX7_law_7 0 rfl ?_
    refine jg_7_0 (k := 0) rfl lk_7_10 dX7_law_8 ?_
    show jj_V g X _ _ _ _ _ _ (.ref (jj_ad g 1) :: _) _
    refine jg_6_4 (k := 1) rfl lk_7_154 dX7_law_11 ?_
    show jj_V g X _ _ _ _ _ _ (.ref (jj_ad g 6) :: _) _
    refine jj_iload_n dX7_law_14 1 rfl ?_
    obtain ⟨g3, h⟩ := jj_ge h
    refine jj_aaload11 (k := 6) rfl g3 dX7_law_15 ?_
    refine jj_iload_n dX7_law_16 2 rfl ?_
    refine jj_iload_n dX7_law_17 3 rfl ?_
    refine jj_iload dX7_law_18 4 rfl ?_
    obtain ⟨q4, e4, h⟩ := jj_be h
    refine jj_callVi [.int x2, .int x3, .int x4] [] (c_laf_gives (d + 0) (jk_11 (k := 6) rfl g3) e4) jm_laf_gives lk_7_170 (b := 6 + 9 + 3 * x1.toNatClampNeg) (jk_11 (k := 6) rfl g3) (by decide) (jj_E0 (jk_11 (k := 6) rfl g3)) rfl rfl rfl (by omega) rfl (Nat.le_of_ble_eq_true rfl) dX7_law_20 ?_
    refine jj_goto 31 dX7_law_23 (by decide) ?_
    exact jj_iret2 hF dX7_law_31 (Option.some.inj h)
def pef_called  (p0 : Nat) (x1 : Int32) (μ : jj_M) : Int32 := if (μ p0 0) = 3 then if (x1 - x1 / 2 * 2) = 0 then μ p0 2 else μ p0 3 else if (μ p0 0) = 4 then if (μ p0 3) = (-1) then μ p0 2 else μ p0 3 else if (μ p0 0) = 5 then if (μ p0 3) = (μ p0 2) then -1 else μ p0 2 else if (μ p0 0) = 6 then if (x1 - x1 / 2 * 2) = 0 then μ p0 2 else μ p0 3 else μ p0 2
set_option maxRecDepth 100000 in
theorem c_pef_called {g : jj_G} (d : Nat)  {p0 : Nat} {x1 : Int32} {μ : jj_M} {r : Int32}  (hp0 : jj_kd p0 = 1) (h : pef_called p0 x1 μ = r) : jj_N g yX1_called cX1_called 2 (some .int) (d + 0) [.ref (jj_ad g p0), .int x1] μ (some (.int r)) μ := by
  refine jj_N_of jn_1 (Nat.le_of_ble_eq_true rfl) (fun X hF => ?_)
  unfold pef_called at h
  refine jj_sub (own := RX1) (lv2 := [(0, .ref (jj_ad g p0)), (1, .int x1)]) [0, 1] rfl ?_
  refine jj_aload_n dX1_called_0 0 rfl ?_
  refine jg_1_0 (k := p0) hp0 lk_1_15 dX1_called_1 ?_
  by_cases c1 : (μ p0 0) = 3
  · replace h := (if_pos c1).symm.trans h
    refine jj_tableIn 56 dX1_called_4 (by rw [c1]; decide) (by rw [c1]; decide) (by rw [c1]; rfl) (show (4 : Int) + 52 = (56 : Nat) by decide) ?_
    refine jj_iload_n dX1_called_56 1 rfl ?_
    refine jj_iconst (2) dX1_called_57 rfl ?_
    refine jj_irem dX1_called_58 (by decide) ?_
    refine jj_if_ne 69 dX1_called_59 (by decide) (fun c2 => ?_) (fun c2 => ?_)
    · replace h := (if_neg c2).symm.trans h
      refine jj_aload_n dX1_called_69 0 rfl ?_
      refine jg_1_3 (k := p0) hp0 lk_1_9 dX1_called_70 ?_
      exact jj_iret1 hF dX1_called_73 h
    · replace h := (if_pos c2).symm.trans h
      refine jj_aload_n dX1_called_62 0 rfl ?_
      refine jg_1_2 (k := p0) hp0 lk_1_21 dX1_called_63 ?_
      refine jj_goto 73 dX1_called_66 (by decide) ?_
      exact jj_iret1 hF dX1_called_73 h
  replace h := (if_neg c1).symm.trans h
  by_cases c3 : (μ p0 0) = 4
  · replace h := (if_pos c3).symm.trans h
    refine jj_tableIn 36 dX1_called_4 (by rw [c3]; decide) (by rw [c3]; decide) (by rw [c3]; rfl) (show (4 : Int) + 32 = (36 : Nat) by decide) ?_
    refine jj_aload_n dX1_called_36 0 rfl ?_
    refine jg_1_3 (k := p0) hp0 lk_1_9 dX1_called_37 ?_
    refine jj_iconst (-1) dX1_called_40 rfl ?_
    refine jj_icmp_ne 51 dX1_called_41 (by decide) (fun c4 => ?_) (fun c4 => ?_)
    · replace h := (if_neg c4).symm.trans h
      refine jj_aload_n dX1_called_51 0 rfl ?_
      refine jg_1_3 (k := p0) hp0 lk_1_9 dX1_called_52 ?_
      exact jj_iret1 hF dX1_called_55 h
    · replace h := (if_pos c4).symm.trans h
      refine jj_aload_n dX1_called_44 0 rfl ?_
      refine jg_1_2 (k := p0) hp0 lk_1_21 dX1_called_45 ?_
      refine jj_goto 55 dX1_called_48 (by decide) ?_
      exact jj_iret1 hF dX1_called_55 h
  replace h := (if_neg c3).symm.trans h
  by_cases c5 : (μ p0 0) = 5
  · replace h := (if_pos c5).symm.trans h
    refine jj_tableIn 74 dX1_called_4 (by rw [c5]; decide) (by rw [c5]; decide) (by rw [c5]; rfl) (show (4 : Int) + 70 = (74 : Nat) by decide) ?_
    refine jj_aload_n dX1_called_74 0 rfl ?_
    refine jg_1_3 (k := p0) hp0 lk_1_9 dX1_called_75 ?_
    refine jj_aload_n dX1_called_78 0 rfl ?_
    refine jg_1_2 (k := p0) hp0 lk_1_21 dX1_called_79 ?_
    refine jj_icmp_ne 89 dX1_called_82 (by decide) (fun c6 => ?_) (fun c6 => ?_)
    · replace h := (if_neg c6).symm.trans h
      refine jj_aload_n dX1_called_89 0 rfl ?_
      refine jg_1_2 (k := p0) hp0 lk_1_21 dX1_called_90 ?_
      exact jj_iret1 hF dX1_called_93 h
    · replace h := (if_pos c6).symm.trans h
      refine jj_iconst (-1) dX1_called_85 rfl ?_
      refine jj_goto 93 dX1_called_86 (by decide) ?_
      exact jj_iret1 hF dX1_called_93 h
  replace h := (if_neg c5).symm.trans h
  by_cases c7 : (μ p0 0) = 6
  · replace h := (if_pos c7).symm.trans h
    refine jj_tableIn 56 dX1_called_4 (by rw [c7]; decide) (by rw [c7]; decide) (by rw [c7]; rfl) (show (4 : Int) + 52 = (56 : Nat) by decide) ?_
    refine jj_iload_n dX1_called_56 1 rfl ?_
    refine jj_iconst (2) dX1_called_57 rfl ?_
    refine jj_irem dX1_called_58 (by decide) ?_
    refine jj_if_ne 69 dX1_called_59 (by decide) (fun c8 => ?_) (fun c8 => ?_)
    · replace h := (if_neg c8).symm.trans h
      refine jj_aload_n dX1_called_69 0 rfl ?_
      refine jg_1_3 (k := p0) hp0 lk_1_9 dX1_called_70 ?_
      exact jj_iret1 hF dX1_called_73 h
    · replace h := (if_pos c8).symm.trans h
      refine jj_aload_n dX1_called_62 0 rfl ?_
      refine jg_1_2 (k := p0) hp0 lk_1_21 dX1_called_63 ?_
      refine jj_goto 73 dX1_called_66 (by decide) ?_
      exact jj_iret1 hF dX1_called_73 h
  replace h := (if_neg c7).symm.trans h
  have c1 : ¬ Int32.toInt (μ p0 0) = 3 := fun w => c1 (Int32.toInt_inj.mp (w.trans (by decide)))
  have c3 : ¬ Int32.toInt (μ p0 0) = 4 := fun w => c3 (Int32.toInt_inj.mp (w.trans (by decide)))
  have c5 : ¬ Int32.toInt (μ p0 0) = 5 := fun w => c5 (Int32.toInt_inj.mp (w.trans (by decide)))
  have c7 : ¬ Int32.toInt (μ p0 0) = 6 := fun w => c7 (Int32.toInt_inj.mp (w.trans (by decide)))
  refine jj_tableOut 94 dX1_called_4 (by omega) (by decide) ?_
  refine jj_aload_n dX1_called_94 0 rfl ?_
  refine jg_1_2 (k := p0) hp0 lk_1_21 dX1_called_95 ?_
  exact jj_iret1 hF dX1_called_98 h
def wnf_drink (N : Nat) (x1 : Int32) (μ : jj_M) : Option (Int32 × jj_M) := if (wnf_isPerson x1 μ) = 0 then (wnf_refuse 1 μ).bind fun q13 => some ((q13.1, q13.2)) else if jj_i x1 6 then (wof_needs N 1 (5 + 4 + x1.toNatClampNeg) (μ (5 + 4 + x1.toNatClampNeg) 4) μ).bind fun q3 => if (q3.2 (5 + 4 + x1.toNatClampNeg) 5) = 0 then if jj_i (q3.2 (5 + 4 + x1.toNatClampNeg) 2) 8 then if q3.1 ≤ (q3.2 2 (q3.2 (5 + 4 + x1.toNatClampNeg) 2).toNatClampNeg) then if jj_i (q3.2 (5 + 4 + x1.toNatClampNeg) 2) 8 then if jj_i (q3.2 (5 + 4 + x1.toNatClampNeg) 2) 8 then (some (jj_u q3.2 2 (q3.2 (5 + 4 + x1.toNatClampNeg) 2).toNatClampNeg ((q3.2 2 (q3.2 (5 + 4 + x1.toNatClampNeg) 2).toNatClampNeg) - q3.1))).bind fun m10 => (some (jj_u (jj_u m10 (5 + 4 + x1.toNatClampNeg) 4 0) (5 + 4 + x1.toNatClampNeg) 3 (pef_called (5 + 4 + x1.toNatClampNeg) ((jj_u m10 (5 + 4 + x1.toNatClampNeg) 4 0) 1 9) (jj_u m10 (5 + 4 + x1.toNatClampNeg) 4 0)))).bind fun m11 => some ((m11 (5 + 4 + x1.toNatClampNeg) 3, m11)) else none else none else (wnf_refuse 3 q3.2).bind fun q12 => some ((q12.1, q12.2)) else none else (wnf_refuse 3 q3.2).bind fun q5 => some ((q5.1, q5.2)) else none
set_option maxRecDepth 100000 in
theorem c_wnf_drink {g : jj_G} (d : Nat) {N : Nat} {x1 : Int32} {μ : jj_M} {r : Int32} {μ' : jj_M}   (h : wnf_drink N x1 μ = some (r, μ')) : jj_N g yX7_drink cX7_drink 4 (some .int) (d + 4) [.ref (jj_ad g 0), .int x1] μ (some (.int r)) μ' := by
  refine jj_N_of jn_7 (Nat.le_of_ble_eq_true rfl) (fun X hF => ?_)
  unfold wnf_drink at h
  refine jj_sub (own := RX7) (lv2 := [(0, .ref (jj_ad g 0)), (1, .int x1)]) [0, 1] rfl ?_
  refine jj_aload_n dX7_drink_0 0 rfl ?_
  refine jj_iload_n dX7_drink_1 1 rfl ?_
  refine jj_callVi [.int x1] [] (c_wnf_isPerson (d + 2)  rfl) jm_wnf_isPerson lk_7_108 (b := 0) rfl (by decide) (jj_E7 rfl) rfl rfl rfl (by omega) rfl (Nat.le_of_ble_eq_true rfl) dX7_drink_2 ?_
  refine jj_if_ne 14 dX7_drink_5 (by decide) (fun c1 => ?_) (fun c1 => ?_)
  · replace h := (if_neg c1).symm.trans h
    refine jj_aload_n dX7_drink_14 0 rfl ?_
    refine jg_7_0 (k := 0) rfl lk_7_10 dX7_drink_15 ?_
    show jj_V g X _ _ _ _ _ _ (.ref (jj_ad g 1) :: _) _
    refine jg_6_3 (k := 1) rfl lk_7_98 dX7_drink_18 ?_
    show jj_V g X _ _ _ _ _ _ (.ref (jj_ad g 5) :: _) _
    refine jj_iload_n dX7_drink_21 1 rfl ?_
    obtain ⟨g2, h⟩ := jj_ge h
    refine jj_aaload10 (k := 5) rfl g2 dX7_drink_22 ?_
    refine jj_astore_n [(2, .ref (jj_ad g (5 + 4 + x1.toNatClampNeg))), (0, .ref (jj_ad g 0)), (1, .int x1)] dX7_drink_23 (by decide) rfl ?_
    refine jj_aload_n dX7_drink_24 1 rfl ?_
    refine jg_7_0 (k := 0) rfl lk_7_10 dX7_drink_25 ?_
    show jj_V g X _ _ _ _ _ _ (.ref (jj_ad g 1) :: _) _
    refine jj_aload_n dX7_drink_28 0 rfl ?_
    refine jj_aload_n dX7_drink_29 0 rfl ?_
    refine jg_1_4 (k := 5 + 4 + x1.toNatClampNeg) (jk_10 (k := 5) rfl g2) lk_7_123 dX7_drink_30 ?_
    obtain ⟨q3, e3, h⟩ := jj_be h
    refine jj_callVi [.ref (jj_ad g (5 + 4 + x1.toNatClampNeg)), .int (μ (5 + 4 + x1.toNatClampNeg) 4)] [] (c_wof_needs (d + 0) rfl (jk_10 (k := 5) rfl g2) e3) jm_wof_needs lk_7_134 (b := 1) rfl (by decide) (jj_E6 rfl) rfl rfl rfl (by omega) rfl (Nat.le_of_ble_eq_true rfl) dX7_drink_33 ?_
    refine jj_istore_n [(3, .int q3.1), (2, .ref (jj_ad g (5 + 4 + x1.toNatClampNeg))), (0, .ref (jj_ad g 0)), (1, .int x1)] dX7_drink_36 (by decide) rfl ?_
    refine jj_aload_n dX7_drink_37 1 rfl ?_
    refine jg_1_5 (k := 5 + 4 + x1.toNatClampNeg) (jk_10 (k := 5) rfl g2) lk_7_126 dX7_drink_38 ?_
    refine jj_if_ne 60 dX7_drink_41 (by decide) (fun c4 => ?_) (fun c4 => ?_)
    · replace h := (if_neg c4).symm.trans h
      refine jj_aload_n dX7_drink_60 2 rfl ?_
      refine jj_iconst (3) dX7_drink_61 rfl ?_
      obtain ⟨q5, e5, h⟩ := jj_be h
      refine jj_callVi [.int 3] [] (c_wnf_refuse (d + 3)  e5) jm_wnf_refuse lk_7_59 (b := 0) rfl (by decide) (jj_E7 rfl) rfl rfl rfl (by omega) rfl (Nat.le_of_ble_eq_true rfl) dX7_drink_62 ?_
      exact jj_iret2 hF dX7_drink_65 (Option.some.inj h)
    · replace h := (if_pos c4).symm.trans h
      refine jj_aload_n dX7_drink_44 2 rfl ?_
      refine jg_7_0 (k := 0) rfl lk_7_10 dX7_drink_45 ?_
      show jj_V g X _ _ _ _ _ _ (.ref (jj_ad g 1) :: _) _
      refine jg_6_0 (k := 1) rfl lk_7_63 dX7_drink_48 ?_
      show jj_V g X _ _ _ _ _ _ (.ref (jj_ad g 2) :: _) _
      refine jj_aload_n dX7_drink_51 1 rfl ?_
      refine jg_1_2 (k := 5 + 4 + x1.toNatClampNeg) (jk_10 (k := 5) rfl g2) lk_7_117 dX7_drink_52 ?_
      obtain ⟨g6, h⟩ := jj_ge h
      refine jj_iaload (k := 2) (n := 8) rfl g6 dX7_drink_55 ?_
      refine jj_iload_n dX7_drink_56 0 rfl ?_
      refine jj_icmp_ge 66 dX7_drink_57 (by decide) (fun c7 => ?_) (fun c7 => ?_)
      · replace h := (if_pos c7).symm.trans h
        refine jj_aload_n dX7_drink_66 2 rfl ?_
        refine jg_7_0 (k := 0) rfl lk_7_10 dX7_drink_67 ?_
        show jj_V g X _ _ _ _ _ _ (.ref (jj_ad g 1) :: _) _
        refine jg_6_0 (k := 1) rfl lk_7_63 dX7_drink_70 ?_
        show jj_V g X _ _ _ _ _ _ (.ref (jj_ad g 2) :: _) _
        refine jj_aload_n dX7_drink_73 1 rfl ?_
        refine jg_1_2 (k := 5 + 4 + x1.toNatClampNeg) (jk_10 (k := 5) rfl g2) lk_7_117 dX7_drink_74 ?_
        refine jj_dup2 dX7_drink_77 rfl rfl ?_
        obtain ⟨g8, h⟩ := jj_ge h
        refine jj_iaload (k := 2) (n := 8) rfl g8 dX7_drink_78 ?_
        refine jj_iload_n dX7_drink_79 0 rfl ?_
        refine jj_isub dX7_drink_80 ?_
        obtain ⟨g9, h⟩ := jj_ge h
        refine jj_iastore (k := 2) (n := 8) rfl g9 dX7_drink_81 ?_
        obtain ⟨m10, em10, h⟩ := jj_be h
        refine jj_mu em10 ?_
        refine jj_aload_n dX7_drink_82 1 rfl ?_
        refine jj_iconst (0) dX7_drink_83 rfl ?_
        refine jp_1_4 (k := 5 + 4 + x1.toNatClampNeg) (jk_10 (k := 5) rfl g2) lk_7_123 dX7_drink_84 ?_
        refine jj_aload_n dX7_drink_87 1 rfl ?_
        refine jj_aload_n dX7_drink_88 1 rfl ?_
        refine jj_aload_n dX7_drink_89 2 rfl ?_
        refine jg_7_0 (k := 0) rfl lk_7_10 dX7_drink_90 ?_
        show jj_V g X _ _ _ _ _ _ (.ref (jj_ad g 1) :: _) _
        refine jg_6_9 (k := 1) rfl lk_7_174 dX7_drink_93 ?_
        refine jj_callVi [.int ((jj_u m10 (5 + 4 + x1.toNatClampNeg) 4 0) 1 9)] [.ref (jj_ad g (5 + 4 + x1.toNatClampNeg))] (c_pef_called (d + 3) (jk_10 (k := 5) rfl g2) rfl) jm_pef_called lk_7_177 (b := 5 + 4 + x1.toNatClampNeg) (jk_10 (k := 5) rfl g2) (by decide) (jj_E1 (jk_10 (k := 5) rfl g2)) rfl rfl rfl (by omega) rfl (Nat.le_of_ble_eq_true rfl) dX7_drink_96 ?_
        refine jp_1_3 (k := 5 + 4 + x1.toNatClampNeg) (jk_10 (k := 5) rfl g2) lk_7_120 dX7_drink_99 ?_
        obtain ⟨m11, em11, h⟩ := jj_be h
        refine jj_mu em11 ?_
        refine jj_aload_n dX7_drink_102 1 rfl ?_
        refine jg_1_3 (k := 5 + 4 + x1.toNatClampNeg) (jk_10 (k := 5) rfl g2) lk_7_120 dX7_drink_103 ?_
        exact jj_iret2 hF dX7_drink_106 (Option.some.inj h)
      · replace h := (if_neg c7).symm.trans h
        refine jj_aload_n dX7_drink_60 2 rfl ?_
        refine jj_iconst (3) dX7_drink_61 rfl ?_
        obtain ⟨q12, e12, h⟩ := jj_be h
        refine jj_callVi [.int 3] [] (c_wnf_refuse (d + 3)  e12) jm_wnf_refuse lk_7_59 (b := 0) rfl (by decide) (jj_E7 rfl) rfl rfl rfl (by omega) rfl (Nat.le_of_ble_eq_true rfl) dX7_drink_62 ?_
        exact jj_iret2 hF dX7_drink_65 (Option.some.inj h)
  · replace h := (if_pos c1).symm.trans h
    refine jj_aload_n dX7_drink_8 0 rfl ?_
    refine jj_iconst (1) dX7_drink_9 rfl ?_
    obtain ⟨q13, e13, h⟩ := jj_be h
    refine jj_callVi [.int 1] [] (c_wnf_refuse (d + 3)  e13) jm_wnf_refuse lk_7_59 (b := 0) rfl (by decide) (jj_E7 rfl) rfl rfl rfl (by omega) rfl (Nat.le_of_ble_eq_true rfl) dX7_drink_10 ?_
    exact jj_iret2 hF dX7_drink_13 (Option.some.inj h)
def wof_parched (N : Nat) (p0 : Nat) (p1 : Nat) (x2 : Int32) (μ : jj_M) : Option (Int32 × jj_M) := (laf_gives N ((p0 + 5) + 12) x2 (μ p1 1) (μ p0 10) μ).bind fun q1 => some ((q1.1, q1.2))
set_option maxRecDepth 100000 in
theorem c_wof_parched {g : jj_G} (d : Nat) {N : Nat} {p0 : Nat} {p1 : Nat} {x2 : Int32} {μ : jj_M} {r : Int32} {μ' : jj_M}  (hp0 : jj_kd p0 = 6) (hp1 : jj_kd p1 = 1) (h : wof_parched N p0 p1 x2 μ = some (r, μ')) : jj_N g yX6_parched cX6_parched 3 (some .int) (d + 3) [.ref (jj_ad g p0), .ref (jj_ad g p1), .int x2] μ (some (.int r)) μ' := by
  refine jj_N_of jn_6 (Nat.le_of_ble_eq_true rfl) (fun X hF => ?_)
  unfold wof_parched at h
  refine jj_sub (own := RX6) (lv2 := [(0, .ref (jj_ad g p0)), (1, .ref (jj_ad g p1)), (2, .int x2)]) [0, 1, 2] rfl ?_
  refine jj_aload_n dX6_parched_0 0 rfl ?_
  refine jg_6_4 (k := p0) hp0 lk_6_32 dX6_parched_1 ?_
  refine jj_iconst (1) dX6_parched_4 rfl ?_
  refine jj_aaload11c (k := p0 + 5) 1 ((p0 + 5) + 12) (by decide) rfl (jk_6_4 hp0) (show jj_i 1 2 by decide) dX6_parched_5 ?_
  refine jj_iload_n dX6_parched_6 2 rfl ?_
  refine jj_aload_n dX6_parched_7 1 rfl ?_
  refine jg_1_1 (k := p1) hp1 lk_6_93 dX6_parched_8 ?_
  refine jj_aload_n dX6_parched_11 0 rfl ?_
  refine jg_6_10 (k := p0) hp0 lk_6_81 dX6_parched_12 ?_
  obtain ⟨q1, e1, h⟩ := jj_be h
  refine jj_callVi [.int x2, .int (μ p1 1), .int (μ p0 10)] [] (c_laf_gives (d + 0) (jk_11_1 (k := p0 + 5) (jk_6_4 hp0)) e1) jm_laf_gives lk_6_96 (b := (p0 + 5) + 12) (jk_11_1 (k := p0 + 5) (jk_6_4 hp0)) (by decide) (jj_E0 (jk_11_1 (k := p0 + 5) (jk_6_4 hp0))) rfl rfl rfl (by omega) rfl (Nat.le_of_ble_eq_true rfl) dX6_parched_15 ?_
  exact jj_iret2 hF dX6_parched_18 (Option.some.inj h)
def pef_thirsts  (p0 : Nat) (x1 : Int32) (μ : jj_M) : jj_M := if ((jj_u μ p0 4 ((μ p0 4) + x1)) p0 4) ≤ (pef_limit p0 (jj_u μ p0 4 ((μ p0 4) + x1))) then jj_u μ p0 4 ((μ p0 4) + x1) else jj_u (jj_u μ p0 4 ((μ p0 4) + x1)) p0 5 1
set_option maxRecDepth 100000 in
theorem c_pef_thirsts {g : jj_G} (d : Nat)  {p0 : Nat} {x1 : Int32} {μ : jj_M} {μ' : jj_M}  (hp0 : jj_kd p0 = 1) (h : pef_thirsts p0 x1 μ = μ') : jj_N g yX1_thirsts cX1_thirsts 2 none (d + 1) [.ref (jj_ad g p0), .int x1] μ none μ' := by
  refine jj_N_of jn_1 (Nat.le_of_ble_eq_true rfl) (fun X hF => ?_)
  unfold pef_thirsts at h
  refine jj_sub (own := RX1) (lv2 := [(0, .ref (jj_ad g p0)), (1, .int x1)]) [0, 1] rfl ?_
  refine jj_aload_n dX1_thirsts_0 0 rfl ?_
  refine jj_dup dX1_thirsts_1 rfl ?_
  refine jg_1_4 (k := p0) hp0 lk_1_24 dX1_thirsts_2 ?_
  refine jj_iload_n dX1_thirsts_5 1 rfl ?_
  refine jj_iadd dX1_thirsts_6 ?_
  refine jp_1_4 (k := p0) hp0 lk_1_24 dX1_thirsts_7 ?_
  refine jj_aload_n dX1_thirsts_10 0 rfl ?_
  refine jg_1_4 (k := p0) hp0 lk_1_24 dX1_thirsts_11 ?_
  refine jj_aload_n dX1_thirsts_14 0 rfl ?_
  refine jj_callVi [] [.int ((jj_u μ p0 4 ((μ p0 4) + x1)) p0 4)] (c_pef_limit (d + 0) hp0 rfl) jm_pef_limit lk_1_39 (b := p0) hp0 (by decide) (jj_E1 hp0) rfl rfl rfl (by omega) rfl (Nat.le_of_ble_eq_true rfl) dX1_thirsts_15 ?_
  refine jj_icmp_le 26 dX1_thirsts_18 (by decide) (fun c1 => ?_) (fun c1 => ?_)
  · replace h := (if_pos c1).symm.trans h
    exact jj_vret1 hF dX1_thirsts_26 h
  · replace h := (if_neg c1).symm.trans h
    refine jj_aload_n dX1_thirsts_21 0 rfl ?_
    refine jj_iconst (1) dX1_thirsts_22 rfl ?_
    refine jp_1_5 (k := p0) hp0 (Or.inr rfl) lk_1_27 dX1_thirsts_23 ?_
    exact jj_vret1 hF dX1_thirsts_26 h
def wnf_go (N : Nat) (x1 : Int32) (x2 : Int32) (μ : jj_M) : Option (Int32 × jj_M) := if (wnf_isPerson x1 μ) = 0 then (wnf_refuse 1 μ).bind fun q2 => some ((q2.1, q2.2)) else if (wnf_isWell x2) = 0 then (wnf_refuse 1 μ).bind fun q4 => some ((q4.1, q4.2)) else if jj_i x1 6 then if (μ (5 + 4 + x1.toNatClampNeg) 2) = x2 then (wnf_refuse 1 μ).bind fun q17 => some ((q17.1, q17.2)) else if jj_i x1 6 then if jj_i (((μ (5 + 4 + x1.toNatClampNeg) 2) * 8) + x2) 64 then if (μ (5 + 4 + x1.toNatClampNeg) 5) = 0 then if (μ 3 (((μ (5 + 4 + x1.toNatClampNeg) 2) * 8) + x2).toNatClampNeg) = 0 then (wnf_refuse 3 μ).bind fun q12 => some ((q12.1, q12.2)) else if ((μ 1 9) + (μ 3 (((μ (5 + 4 + x1.toNatClampNeg) 2) * 8) + x2).toNatClampNeg)) ≤ 99999 then (wof_parched N 1 (5 + 4 + x1.toNatClampNeg) (μ 3 (((μ (5 + 4 + x1.toNatClampNeg) 2) * 8) + x2).toNatClampNeg) (jj_u μ (5 + 4 + x1.toNatClampNeg) 2 x2)).bind fun q14 => (some (jj_u (pef_thirsts (5 + 4 + x1.toNatClampNeg) q14.1 q14.2) 1 9 (((pef_thirsts (5 + 4 + x1.toNatClampNeg) q14.1 q14.2) 1 9) + (μ 3 (((μ (5 + 4 + x1.toNatClampNeg) 2) * 8) + x2).toNatClampNeg)))).bind fun m15 => some ((m15 (5 + 4 + x1.toNatClampNeg) 4, m15)) else (wnf_refuse 3 μ).bind fun q16 => some ((q16.1, q16.2)) else (wnf_refuse 3 μ).bind fun q10 => some ((q10.1, q10.2)) else none else none else none
set_option maxRecDepth 100000 in
theorem c_wnf_go {g : jj_G} (d : Nat) {N : Nat} {x1 : Int32} {x2 : Int32} {μ : jj_M} {r : Int32} {μ' : jj_M}   (h : wnf_go N x1 x2 μ = some (r, μ')) : jj_N g yX7_go cX7_go 5 (some .int) (d + 4) [.ref (jj_ad g 0), .int x1, .int x2] μ (some (.int r)) μ' := by
  refine jj_N_of jn_7 (Nat.le_of_ble_eq_true rfl) (fun X hF => ?_)
  unfold wnf_go at h
  refine jj_sub (own := RX7) (lv2 := [(0, .ref (jj_ad g 0)), (1, .int x1), (2, .int x2)]) [0, 1, 2] rfl ?_
  refine jj_aload_n dX7_go_0 0 rfl ?_
  refine jj_iload_n dX7_go_1 1 rfl ?_
  refine jj_callVi [.int x1] [] (c_wnf_isPerson (d + 2)  rfl) jm_wnf_isPerson lk_7_108 (b := 0) rfl (by decide) (jj_E7 rfl) rfl rfl rfl (by omega) rfl (Nat.le_of_ble_eq_true rfl) dX7_go_2 ?_
  refine jj_if_eq 31 dX7_go_5 (by decide) (fun c1 => ?_) (fun c1 => ?_)
  · replace h := (if_pos c1).symm.trans h
    refine jj_aload_n dX7_go_31 0 rfl ?_
    refine jj_iconst (1) dX7_go_32 rfl ?_
    obtain ⟨q2, e2, h⟩ := jj_be h
    refine jj_callVi [.int 1] [] (c_wnf_refuse (d + 3)  e2) jm_wnf_refuse lk_7_59 (b := 0) rfl (by decide) (jj_E7 rfl) rfl rfl rfl (by omega) rfl (Nat.le_of_ble_eq_true rfl) dX7_go_33 ?_
    exact jj_iret2 hF dX7_go_36 (Option.some.inj h)
  · replace h := (if_neg c1).symm.trans h
    refine jj_iload_n dX7_go_8 2 rfl ?_
    refine jj_callSi [.int x2] [] (c_wnf_isWell (d + 2)  rfl) jm_wnf_isWell lk_7_51 rfl (by omega) rfl (Nat.le_of_ble_eq_true rfl) dX7_go_9 ?_
    refine jj_if_eq 31 dX7_go_12 (by decide) (fun c3 => ?_) (fun c3 => ?_)
    · replace h := (if_pos c3).symm.trans h
      refine jj_aload_n dX7_go_31 0 rfl ?_
      refine jj_iconst (1) dX7_go_32 rfl ?_
      obtain ⟨q4, e4, h⟩ := jj_be h
      refine jj_callVi [.int 1] [] (c_wnf_refuse (d + 3)  e4) jm_wnf_refuse lk_7_59 (b := 0) rfl (by decide) (jj_E7 rfl) rfl rfl rfl (by omega) rfl (Nat.le_of_ble_eq_true rfl) dX7_go_33 ?_
      exact jj_iret2 hF dX7_go_36 (Option.some.inj h)
    · replace h := (if_neg c3).symm.trans h
      refine jj_aload_n dX7_go_15 0 rfl ?_
      refine jg_7_0 (k := 0) rfl lk_7_10 dX7_go_16 ?_
      show jj_V g X _ _ _ _ _ _ (.ref (jj_ad g 1) :: _) _
      refine jg_6_3 (k := 1) rfl lk_7_98 dX7_go_19 ?_
      show jj_V g X _ _ _ _ _ _ (.ref (jj_ad g 5) :: _) _
      refine jj_iload_n dX7_go_22 1 rfl ?_
      obtain ⟨g5, h⟩ := jj_ge h
      refine jj_aaload10 (k := 5) rfl g5 dX7_go_23 ?_
      refine jg_1_2 (k := 5 + 4 + x1.toNatClampNeg) (jk_10 (k := 5) rfl g5) lk_7_117 dX7_go_24 ?_
      refine jj_iload_n dX7_go_27 2 rfl ?_
      refine jj_icmp_ne 37 dX7_go_28 (by decide) (fun c6 => ?_) (fun c6 => ?_)
      · replace h := (if_neg c6).symm.trans h
        refine jj_aload_n dX7_go_37 0 rfl ?_
        refine jg_7_0 (k := 0) rfl lk_7_10 dX7_go_38 ?_
        show jj_V g X _ _ _ _ _ _ (.ref (jj_ad g 1) :: _) _
        refine jg_6_3 (k := 1) rfl lk_7_98 dX7_go_41 ?_
        show jj_V g X _ _ _ _ _ _ (.ref (jj_ad g 5) :: _) _
        refine jj_iload_n dX7_go_44 1 rfl ?_
        obtain ⟨g7, h⟩ := jj_ge h
        refine jj_aaload10 (k := 5) rfl g7 dX7_go_45 ?_
        refine jj_astore_n [(3, .ref (jj_ad g (5 + 4 + x1.toNatClampNeg))), (0, .ref (jj_ad g 0)), (1, .int x1), (2, .int x2)] dX7_go_46 (by decide) rfl ?_
        refine jj_aload_n dX7_go_47 1 rfl ?_
        refine jg_7_0 (k := 0) rfl lk_7_10 dX7_go_48 ?_
        show jj_V g X _ _ _ _ _ _ (.ref (jj_ad g 1) :: _) _
        refine jg_6_1 (k := 1) rfl lk_7_70 dX7_go_51 ?_
        show jj_V g X _ _ _ _ _ _ (.ref (jj_ad g 3) :: _) _
        refine jj_aload_n dX7_go_54 0 rfl ?_
        refine jg_1_2 (k := 5 + 4 + x1.toNatClampNeg) (jk_10 (k := 5) rfl g7) lk_7_117 dX7_go_55 ?_
        refine jj_bipush (8) dX7_go_58 rfl ?_
        refine jj_imul dX7_go_60 ?_
        refine jj_iload_n dX7_go_61 3 rfl ?_
        refine jj_iadd dX7_go_62 ?_
        obtain ⟨g8, h⟩ := jj_ge h
        refine jj_iaload (k := 3) (n := 64) rfl g8 dX7_go_63 ?_
        refine jj_istore [(4, .int (μ 3 (((μ (5 + 4 + x1.toNatClampNeg) 2) * 8) + x2).toNatClampNeg)), (3, .ref (jj_ad g (5 + 4 + x1.toNatClampNeg))), (0, .ref (jj_ad g 0)), (1, .int x1), (2, .int x2)] dX7_go_64 (by decide) rfl ?_
        refine jj_aload_n dX7_go_66 1 rfl ?_
        refine jg_1_5 (k := 5 + 4 + x1.toNatClampNeg) (jk_10 (k := 5) rfl g7) lk_7_126 dX7_go_67 ?_
        refine jj_if_ne 93 dX7_go_70 (by decide) (fun c9 => ?_) (fun c9 => ?_)
        · replace h := (if_neg c9).symm.trans h
          refine jj_aload_n dX7_go_93 2 rfl ?_
          refine jj_iconst (3) dX7_go_94 rfl ?_
          obtain ⟨q10, e10, h⟩ := jj_be h
          refine jj_callVi [.int 3] [] (c_wnf_refuse (d + 3)  e10) jm_wnf_refuse lk_7_59 (b := 0) rfl (by decide) (jj_E7 rfl) rfl rfl rfl (by omega) rfl (Nat.le_of_ble_eq_true rfl) dX7_go_95 ?_
          exact jj_iret2 hF dX7_go_98 (Option.some.inj h)
        · replace h := (if_pos c9).symm.trans h
          refine jj_iload dX7_go_73 0 rfl ?_
          refine jj_if_eq 93 dX7_go_75 (by decide) (fun c11 => ?_) (fun c11 => ?_)
          · replace h := (if_pos c11).symm.trans h
            refine jj_aload_n dX7_go_93 2 rfl ?_
            refine jj_iconst (3) dX7_go_94 rfl ?_
            obtain ⟨q12, e12, h⟩ := jj_be h
            refine jj_callVi [.int 3] [] (c_wnf_refuse (d + 3)  e12) jm_wnf_refuse lk_7_59 (b := 0) rfl (by decide) (jj_E7 rfl) rfl rfl rfl (by omega) rfl (Nat.le_of_ble_eq_true rfl) dX7_go_95 ?_
            exact jj_iret2 hF dX7_go_98 (Option.some.inj h)
          · replace h := (if_neg c11).symm.trans h
            refine jj_aload_n dX7_go_78 2 rfl ?_
            refine jg_7_0 (k := 0) rfl lk_7_10 dX7_go_79 ?_
            show jj_V g X _ _ _ _ _ _ (.ref (jj_ad g 1) :: _) _
            refine jg_6_9 (k := 1) rfl lk_7_174 dX7_go_82 ?_
            refine jj_iload dX7_go_85 0 rfl ?_
            refine jj_iadd dX7_go_87 ?_
            refine jj_ldc (99999) lk_7_180 dX7_go_88 ?_
            refine jj_icmp_le 99 dX7_go_90 (by decide) (fun c13 => ?_) (fun c13 => ?_)
            · replace h := (if_pos c13).symm.trans h
              refine jj_aload_n dX7_go_99 1 rfl ?_
              refine jj_iload_n dX7_go_100 4 rfl ?_
              refine jp_1_2 (k := 5 + 4 + x1.toNatClampNeg) (jk_10 (k := 5) rfl g7) lk_7_117 dX7_go_101 ?_
              refine jj_aload_n dX7_go_104 1 rfl ?_
              refine jj_aload_n dX7_go_105 2 rfl ?_
              refine jg_7_0 (k := 0) rfl lk_7_10 dX7_go_106 ?_
              show jj_V g X _ _ _ _ _ _ (.ref (jj_ad g 1) :: _) _
              refine jj_aload_n dX7_go_109 1 rfl ?_
              refine jj_iload dX7_go_110 0 rfl ?_
              obtain ⟨q14, e14, h⟩ := jj_be h
              refine jj_callVi [.ref (jj_ad g (5 + 4 + x1.toNatClampNeg)), .int (μ 3 (((μ (5 + 4 + x1.toNatClampNeg) 2) * 8) + x2).toNatClampNeg)] [.ref (jj_ad g (5 + 4 + x1.toNatClampNeg))] (c_wof_parched (d + 0) rfl (jk_10 (k := 5) rfl g7) e14) jm_wof_parched lk_7_181 (b := 1) rfl (by decide) (jj_E6 rfl) rfl rfl rfl (by omega) rfl (Nat.le_of_ble_eq_true rfl) dX7_go_112 ?_
              refine jj_callVv [.int q14.1] [] (c_pef_thirsts (d + 2) (jk_10 (k := 5) rfl g7) rfl) jm_pef_thirsts lk_7_184 (b := 5 + 4 + x1.toNatClampNeg) (jk_10 (k := 5) rfl g7) (by decide) (jj_E1 (jk_10 (k := 5) rfl g7)) rfl rfl rfl (by omega) rfl (Nat.le_of_ble_eq_true rfl) dX7_go_115 ?_
              refine jj_aload_n dX7_go_118 2 rfl ?_
              refine jg_7_0 (k := 0) rfl lk_7_10 dX7_go_119 ?_
              show jj_V g X _ _ _ _ _ _ (.ref (jj_ad g 1) :: _) _
              refine jj_dup dX7_go_122 rfl ?_
              refine jg_6_9 (k := 1) rfl lk_7_174 dX7_go_123 ?_
              refine jj_iload dX7_go_126 0 rfl ?_
              refine jj_iadd dX7_go_128 ?_
              refine jp_6_9 (k := 1) rfl lk_7_174 dX7_go_129 ?_
              obtain ⟨m15, em15, h⟩ := jj_be h
              refine jj_mu em15 ?_
              refine jj_aload_n dX7_go_132 1 rfl ?_
              refine jg_1_4 (k := 5 + 4 + x1.toNatClampNeg) (jk_10 (k := 5) rfl g7) lk_7_123 dX7_go_133 ?_
              exact jj_iret2 hF dX7_go_136 (Option.some.inj h)
            · replace h := (if_neg c13).symm.trans h
              refine jj_aload_n dX7_go_93 2 rfl ?_
              refine jj_iconst (3) dX7_go_94 rfl ?_
              obtain ⟨q16, e16, h⟩ := jj_be h
              refine jj_callVi [.int 3] [] (c_wnf_refuse (d + 3)  e16) jm_wnf_refuse lk_7_59 (b := 0) rfl (by decide) (jj_E7 rfl) rfl rfl rfl (by omega) rfl (Nat.le_of_ble_eq_true rfl) dX7_go_95 ?_
              exact jj_iret2 hF dX7_go_98 (Option.some.inj h)
      · replace h := (if_pos c6).symm.trans h
        refine jj_aload_n dX7_go_31 0 rfl ?_
        refine jj_iconst (1) dX7_go_32 rfl ?_
        obtain ⟨q17, e17, h⟩ := jj_be h
        refine jj_callVi [.int 1] [] (c_wnf_refuse (d + 3)  e17) jm_wnf_refuse lk_7_59 (b := 0) rfl (by decide) (jj_E7 rfl) rfl rfl rfl (by omega) rfl (Nat.le_of_ble_eq_true rfl) dX7_go_33 ?_
        exact jj_iret2 hF dX7_go_36 (Option.some.inj h)
def wnf_pay  (x1 : Int32) (x2 : Int32) (x3 : Int32) (μ : jj_M) : Option (Int32 × jj_M) := if (wnf_isPerson x1 μ) = 0 then (wnf_refuse 1 μ).bind fun q2 => some ((q2.1, q2.2)) else if (wnf_isWell x2) = 0 then (wnf_refuse 1 μ).bind fun q4 => some ((q4.1, q4.2)) else if (wnf_within x3 1 9999) = 0 then (wnf_refuse 1 μ).bind fun q6 => some ((q6.1, q6.2)) else if jj_i x1 6 then if (μ (5 + 4 + x1.toNatClampNeg) 3) = x2 then (wnf_refuse 1 μ).bind fun q21 => some ((q21.1, q21.2)) else if jj_i x1 6 then if (μ (5 + 4 + x1.toNatClampNeg) 5) = 0 then if (μ (5 + 4 + x1.toNatClampNeg) 3) = (-1) then (wnf_refuse 3 μ).bind fun q13 => some ((q13.1, q13.2)) else if jj_i (((μ (5 + 4 + x1.toNatClampNeg) 3) * 8) + x2) 64 then if x3 ≤ (μ 4 (((μ (5 + 4 + x1.toNatClampNeg) 3) * 8) + x2).toNatClampNeg) then if jj_i (((μ (5 + 4 + x1.toNatClampNeg) 3) * 8) + x2) 64 then if jj_i (((μ (5 + 4 + x1.toNatClampNeg) 3) * 8) + x2) 64 then (some (jj_u μ 4 (((μ (5 + 4 + x1.toNatClampNeg) 3) * 8) + x2).toNatClampNeg ((μ 4 (((μ (5 + 4 + x1.toNatClampNeg) 3) * 8) + x2).toNatClampNeg) - x3))).bind fun m18 => if jj_i (((m18 (5 + 4 + x1.toNatClampNeg) 3) * 8) + x2) 64 then some ((m18 4 (((m18 (5 + 4 + x1.toNatClampNeg) 3) * 8) + x2).toNatClampNeg, m18)) else none else none else none else (wnf_refuse 3 μ).bind fun q20 => some ((q20.1, q20.2)) else none else (wnf_refuse 3 μ).bind fun q11 => some ((q11.1, q11.2)) else none else none
set_option maxRecDepth 100000 in
theorem c_wnf_pay {g : jj_G} (d : Nat)  {x1 : Int32} {x2 : Int32} {x3 : Int32} {μ : jj_M} {r : Int32} {μ' : jj_M}   (h : wnf_pay x1 x2 x3 μ = some (r, μ')) : jj_N g yX7_pay cX7_pay 5 (some .int) (d + 2) [.ref (jj_ad g 0), .int x1, .int x2, .int x3] μ (some (.int r)) μ' := by
  refine jj_N_of jn_7 (Nat.le_of_ble_eq_true rfl) (fun X hF => ?_)
  unfold wnf_pay at h
  refine jj_sub (own := RX7) (lv2 := [(0, .ref (jj_ad g 0)), (1, .int x1), (2, .int x2), (3, .int x3)]) [0, 1, 2, 3] rfl ?_
  refine jj_aload_n dX7_pay_0 0 rfl ?_
  refine jj_iload_n dX7_pay_1 1 rfl ?_
  refine jj_callVi [.int x1] [] (c_wnf_isPerson (d + 0)  rfl) jm_wnf_isPerson lk_7_108 (b := 0) rfl (by decide) (jj_E7 rfl) rfl rfl rfl (by omega) rfl (Nat.le_of_ble_eq_true rfl) dX7_pay_2 ?_
  refine jj_if_eq 42 dX7_pay_5 (by decide) (fun c1 => ?_) (fun c1 => ?_)
  · replace h := (if_pos c1).symm.trans h
    refine jj_aload_n dX7_pay_42 0 rfl ?_
    refine jj_iconst (1) dX7_pay_43 rfl ?_
    obtain ⟨q2, e2, h⟩ := jj_be h
    refine jj_callVi [.int 1] [] (c_wnf_refuse (d + 1)  e2) jm_wnf_refuse lk_7_59 (b := 0) rfl (by decide) (jj_E7 rfl) rfl rfl rfl (by omega) rfl (Nat.le_of_ble_eq_true rfl) dX7_pay_44 ?_
    exact jj_iret2 hF dX7_pay_47 (Option.some.inj h)
  · replace h := (if_neg c1).symm.trans h
    refine jj_iload_n dX7_pay_8 2 rfl ?_
    refine jj_callSi [.int x2] [] (c_wnf_isWell (d + 0)  rfl) jm_wnf_isWell lk_7_51 rfl (by omega) rfl (Nat.le_of_ble_eq_true rfl) dX7_pay_9 ?_
    refine jj_if_eq 42 dX7_pay_12 (by decide) (fun c3 => ?_) (fun c3 => ?_)
    · replace h := (if_pos c3).symm.trans h
      refine jj_aload_n dX7_pay_42 0 rfl ?_
      refine jj_iconst (1) dX7_pay_43 rfl ?_
      obtain ⟨q4, e4, h⟩ := jj_be h
      refine jj_callVi [.int 1] [] (c_wnf_refuse (d + 1)  e4) jm_wnf_refuse lk_7_59 (b := 0) rfl (by decide) (jj_E7 rfl) rfl rfl rfl (by omega) rfl (Nat.le_of_ble_eq_true rfl) dX7_pay_44 ?_
      exact jj_iret2 hF dX7_pay_47 (Option.some.inj h)
    · replace h := (if_neg c3).symm.trans h
      refine jj_iload_n dX7_pay_15 3 rfl ?_
      refine jj_iconst (1) dX7_pay_16 rfl ?_
      refine jj_sipush (9999) dX7_pay_17 rfl ?_
      refine jj_callSi [.int x3, .int 1, .int 9999] [] (c_wnf_within (d + 1)  rfl) jm_wnf_within lk_7_55 rfl (by omega) rfl (Nat.le_of_ble_eq_true rfl) dX7_pay_20 ?_
      refine jj_if_eq 42 dX7_pay_23 (by decide) (fun c5 => ?_) (fun c5 => ?_)
      · replace h := (if_pos c5).symm.trans h
        refine jj_aload_n dX7_pay_42 0 rfl ?_
        refine jj_iconst (1) dX7_pay_43 rfl ?_
        obtain ⟨q6, e6, h⟩ := jj_be h
        refine jj_callVi [.int 1] [] (c_wnf_refuse (d + 1)  e6) jm_wnf_refuse lk_7_59 (b := 0) rfl (by decide) (jj_E7 rfl) rfl rfl rfl (by omega) rfl (Nat.le_of_ble_eq_true rfl) dX7_pay_44 ?_
        exact jj_iret2 hF dX7_pay_47 (Option.some.inj h)
      · replace h := (if_neg c5).symm.trans h
        refine jj_aload_n dX7_pay_26 0 rfl ?_
        refine jg_7_0 (k := 0) rfl lk_7_10 dX7_pay_27 ?_
        show jj_V g X _ _ _ _ _ _ (.ref (jj_ad g 1) :: _) _
        refine jg_6_3 (k := 1) rfl lk_7_98 dX7_pay_30 ?_
        show jj_V g X _ _ _ _ _ _ (.ref (jj_ad g 5) :: _) _
        refine jj_iload_n dX7_pay_33 1 rfl ?_
        obtain ⟨g7, h⟩ := jj_ge h
        refine jj_aaload10 (k := 5) rfl g7 dX7_pay_34 ?_
        refine jg_1_3 (k := 5 + 4 + x1.toNatClampNeg) (jk_10 (k := 5) rfl g7) lk_7_120 dX7_pay_35 ?_
        refine jj_iload_n dX7_pay_38 2 rfl ?_
        refine jj_icmp_ne 48 dX7_pay_39 (by decide) (fun c8 => ?_) (fun c8 => ?_)
        · replace h := (if_neg c8).symm.trans h
          refine jj_aload_n dX7_pay_48 0 rfl ?_
          refine jg_7_0 (k := 0) rfl lk_7_10 dX7_pay_49 ?_
          show jj_V g X _ _ _ _ _ _ (.ref (jj_ad g 1) :: _) _
          refine jg_6_3 (k := 1) rfl lk_7_98 dX7_pay_52 ?_
          show jj_V g X _ _ _ _ _ _ (.ref (jj_ad g 5) :: _) _
          refine jj_iload_n dX7_pay_55 1 rfl ?_
          obtain ⟨g9, h⟩ := jj_ge h
          refine jj_aaload10 (k := 5) rfl g9 dX7_pay_56 ?_
          refine jj_astore [(4, .ref (jj_ad g (5 + 4 + x1.toNatClampNeg))), (0, .ref (jj_ad g 0)), (1, .int x1), (2, .int x2), (3, .int x3)] dX7_pay_57 (by decide) rfl ?_
          refine jj_aload dX7_pay_59 0 rfl ?_
          refine jg_1_5 (k := 5 + 4 + x1.toNatClampNeg) (jk_10 (k := 5) rfl g9) lk_7_126 dX7_pay_61 ?_
          refine jj_if_ne 98 dX7_pay_64 (by decide) (fun c10 => ?_) (fun c10 => ?_)
          · replace h := (if_neg c10).symm.trans h
            refine jj_aload_n dX7_pay_98 1 rfl ?_
            refine jj_iconst (3) dX7_pay_99 rfl ?_
            obtain ⟨q11, e11, h⟩ := jj_be h
            refine jj_callVi [.int 3] [] (c_wnf_refuse (d + 1)  e11) jm_wnf_refuse lk_7_59 (b := 0) rfl (by decide) (jj_E7 rfl) rfl rfl rfl (by omega) rfl (Nat.le_of_ble_eq_true rfl) dX7_pay_100 ?_
            exact jj_iret2 hF dX7_pay_103 (Option.some.inj h)
          · replace h := (if_pos c10).symm.trans h
            refine jj_aload dX7_pay_67 0 rfl ?_
            refine jg_1_3 (k := 5 + 4 + x1.toNatClampNeg) (jk_10 (k := 5) rfl g9) lk_7_120 dX7_pay_69 ?_
            refine jj_iconst (-1) dX7_pay_72 rfl ?_
            refine jj_icmp_eq 98 dX7_pay_73 (by decide) (fun c12 => ?_) (fun c12 => ?_)
            · replace h := (if_pos c12).symm.trans h
              refine jj_aload_n dX7_pay_98 1 rfl ?_
              refine jj_iconst (3) dX7_pay_99 rfl ?_
              obtain ⟨q13, e13, h⟩ := jj_be h
              refine jj_callVi [.int 3] [] (c_wnf_refuse (d + 1)  e13) jm_wnf_refuse lk_7_59 (b := 0) rfl (by decide) (jj_E7 rfl) rfl rfl rfl (by omega) rfl (Nat.le_of_ble_eq_true rfl) dX7_pay_100 ?_
              exact jj_iret2 hF dX7_pay_103 (Option.some.inj h)
            · replace h := (if_neg c12).symm.trans h
              refine jj_aload_n dX7_pay_76 1 rfl ?_
              refine jg_7_0 (k := 0) rfl lk_7_10 dX7_pay_77 ?_
              show jj_V g X _ _ _ _ _ _ (.ref (jj_ad g 1) :: _) _
              refine jg_6_2 (k := 1) rfl lk_7_73 dX7_pay_80 ?_
              show jj_V g X _ _ _ _ _ _ (.ref (jj_ad g 4) :: _) _
              refine jj_aload dX7_pay_83 0 rfl ?_
              refine jg_1_3 (k := 5 + 4 + x1.toNatClampNeg) (jk_10 (k := 5) rfl g9) lk_7_120 dX7_pay_85 ?_
              refine jj_bipush (8) dX7_pay_88 rfl ?_
              refine jj_imul dX7_pay_90 ?_
              refine jj_iload_n dX7_pay_91 3 rfl ?_
              refine jj_iadd dX7_pay_92 ?_
              obtain ⟨g14, h⟩ := jj_ge h
              refine jj_iaload (k := 4) (n := 64) rfl g14 dX7_pay_93 ?_
              refine jj_iload_n dX7_pay_94 4 rfl ?_
              refine jj_icmp_ge 104 dX7_pay_95 (by decide) (fun c15 => ?_) (fun c15 => ?_)
              · replace h := (if_pos c15).symm.trans h
                refine jj_aload_n dX7_pay_104 1 rfl ?_
                refine jg_7_0 (k := 0) rfl lk_7_10 dX7_pay_105 ?_
                show jj_V g X _ _ _ _ _ _ (.ref (jj_ad g 1) :: _) _
                refine jg_6_2 (k := 1) rfl lk_7_73 dX7_pay_108 ?_
                show jj_V g X _ _ _ _ _ _ (.ref (jj_ad g 4) :: _) _
                refine jj_aload dX7_pay_111 0 rfl ?_
                refine jg_1_3 (k := 5 + 4 + x1.toNatClampNeg) (jk_10 (k := 5) rfl g9) lk_7_120 dX7_pay_113 ?_
                refine jj_bipush (8) dX7_pay_116 rfl ?_
                refine jj_imul dX7_pay_118 ?_
                refine jj_iload_n dX7_pay_119 3 rfl ?_
                refine jj_iadd dX7_pay_120 ?_
                refine jj_dup2 dX7_pay_121 rfl rfl ?_
                obtain ⟨g16, h⟩ := jj_ge h
                refine jj_iaload (k := 4) (n := 64) rfl g16 dX7_pay_122 ?_
                refine jj_iload_n dX7_pay_123 4 rfl ?_
                refine jj_isub dX7_pay_124 ?_
                obtain ⟨g17, h⟩ := jj_ge h
                refine jj_iastore (k := 4) (n := 64) rfl g17 dX7_pay_125 ?_
                obtain ⟨m18, em18, h⟩ := jj_be h
                refine jj_mu em18 ?_
                refine jj_aload_n dX7_pay_126 1 rfl ?_
                refine jg_7_0 (k := 0) rfl lk_7_10 dX7_pay_127 ?_
                show jj_V g X _ _ _ _ _ _ (.ref (jj_ad g 1) :: _) _
                refine jg_6_2 (k := 1) rfl lk_7_73 dX7_pay_130 ?_
                show jj_V g X _ _ _ _ _ _ (.ref (jj_ad g 4) :: _) _
                refine jj_aload dX7_pay_133 0 rfl ?_
                refine jg_1_3 (k := 5 + 4 + x1.toNatClampNeg) (jk_10 (k := 5) rfl g9) lk_7_120 dX7_pay_135 ?_
                refine jj_bipush (8) dX7_pay_138 rfl ?_
                refine jj_imul dX7_pay_140 ?_
                refine jj_iload_n dX7_pay_141 3 rfl ?_
                refine jj_iadd dX7_pay_142 ?_
                obtain ⟨g19, h⟩ := jj_ge h
                refine jj_iaload (k := 4) (n := 64) rfl g19 dX7_pay_143 ?_
                exact jj_iret2 hF dX7_pay_144 (Option.some.inj h)
              · replace h := (if_neg c15).symm.trans h
                refine jj_aload_n dX7_pay_98 1 rfl ?_
                refine jj_iconst (3) dX7_pay_99 rfl ?_
                obtain ⟨q20, e20, h⟩ := jj_be h
                refine jj_callVi [.int 3] [] (c_wnf_refuse (d + 1)  e20) jm_wnf_refuse lk_7_59 (b := 0) rfl (by decide) (jj_E7 rfl) rfl rfl rfl (by omega) rfl (Nat.le_of_ble_eq_true rfl) dX7_pay_100 ?_
                exact jj_iret2 hF dX7_pay_103 (Option.some.inj h)
        · replace h := (if_pos c8).symm.trans h
          refine jj_aload_n dX7_pay_42 0 rfl ?_
          refine jj_iconst (1) dX7_pay_43 rfl ?_
          obtain ⟨q21, e21, h⟩ := jj_be h
          refine jj_callVi [.int 1] [] (c_wnf_refuse (d + 1)  e21) jm_wnf_refuse lk_7_59 (b := 0) rfl (by decide) (jj_E7 rfl) rfl rfl rfl (by omega) rfl (Nat.le_of_ble_eq_true rfl) dX7_pay_44 ?_
          exact jj_iret2 hF dX7_pay_47 (Option.some.inj h)
def wof_hasDays  (p0 : Nat) (x1 : Int32) (μ : jj_M) : Int32 := if 9999 < ((μ p0 10) + x1) then 0 else if 99999 < ((μ p0 9) + x1) then 0 else 1
theorem z_wof_hasDays (p0 : Nat) (x1 : Int32) (μ : jj_M) : wof_hasDays p0 x1 μ = 0 ∨ wof_hasDays p0 x1 μ = 1 := by
  unfold wof_hasDays
  first | (first | exact Or.inl rfl | exact Or.inr rfl) | ((repeat' split) <;> first | exact Or.inl rfl | exact Or.inr rfl)
set_option maxRecDepth 100000 in
theorem c_wof_hasDays {g : jj_G} (d : Nat)  {p0 : Nat} {x1 : Int32} {μ : jj_M} {r : Int32}  (hp0 : jj_kd p0 = 6) (h : wof_hasDays p0 x1 μ = r) : jj_N g yX6_hasDays cX6_hasDays 2 (some .boolean) (d + 0) [.ref (jj_ad g p0), .int x1] μ (some (.int r)) μ := by
  refine jj_N_of jn_6 (Nat.le_of_ble_eq_true rfl) (fun X hF => ?_)
  unfold wof_hasDays at h
  refine jj_sub (own := RX6) (lv2 := [(0, .ref (jj_ad g p0)), (1, .int x1)]) [0, 1] rfl ?_
  refine jj_aload_n dX6_hasDays_0 0 rfl ?_
  refine jg_6_10 (k := p0) hp0 lk_6_81 dX6_hasDays_1 ?_
  refine jj_iload_n dX6_hasDays_4 1 rfl ?_
  refine jj_iadd dX6_hasDays_5 ?_
  refine jj_sipush (9999) dX6_hasDays_6 rfl ?_
  refine jj_icmp_gt 27 dX6_hasDays_9 (by decide) (fun c1 => ?_) (fun c1 => ?_)
  · replace h := (if_pos c1).symm.trans h
    refine jj_iconst (0) dX6_hasDays_27 rfl ?_
    exact jj_zret1 hF dX6_hasDays_28 (Or.inl rfl) h
  · replace h := (if_neg c1).symm.trans h
    refine jj_aload_n dX6_hasDays_12 0 rfl ?_
    refine jg_6_9 (k := p0) hp0 lk_6_78 dX6_hasDays_13 ?_
    refine jj_iload_n dX6_hasDays_16 1 rfl ?_
    refine jj_iadd dX6_hasDays_17 ?_
    refine jj_ldc (99999) lk_6_135 dX6_hasDays_18 ?_
    refine jj_icmp_gt 27 dX6_hasDays_20 (by decide) (fun c2 => ?_) (fun c2 => ?_)
    · replace h := (if_pos c2).symm.trans h
      refine jj_iconst (0) dX6_hasDays_27 rfl ?_
      exact jj_zret1 hF dX6_hasDays_28 (Or.inl rfl) h
    · replace h := (if_neg c2).symm.trans h
      refine jj_iconst (1) dX6_hasDays_23 rfl ?_
      refine jj_goto 28 dX6_hasDays_24 (by decide) ?_
      exact jj_zret1 hF dX6_hasDays_28 (Or.inr rfl) h
def wof_draw  (p0 : Nat) (μ : jj_M) : Int32 × jj_M := ((Int32.toUInt32 ((jj_u μ p0 13 (((μ p0 13) * 1103515245) + 12345)) p0 13) >>> (Int32.toUInt32 8 &&& Int32.toUInt32 31)).toInt32, jj_u μ p0 13 (((μ p0 13) * 1103515245) + 12345))
set_option maxRecDepth 100000 in
theorem c_wof_draw {g : jj_G} (d : Nat)  {p0 : Nat} {μ : jj_M} {r : Int32} {μ' : jj_M}  (hp0 : jj_kd p0 = 6) (h : wof_draw p0 μ = (r, μ')) : jj_N g yX6_draw cX6_draw 1 (some .int) (d + 0) [.ref (jj_ad g p0)] μ (some (.int r)) μ' := by
  refine jj_N_of jn_6 (Nat.le_of_ble_eq_true rfl) (fun X hF => ?_)
  unfold wof_draw at h
  refine jj_sub (own := RX6) (lv2 := [(0, .ref (jj_ad g p0))]) [0] rfl ?_
  refine jj_aload_n dX6_draw_0 0 rfl ?_
  refine jj_aload_n dX6_draw_1 0 rfl ?_
  refine jg_6_13 (k := p0) hp0 lk_6_46 dX6_draw_2 ?_
  refine jj_ldc (1103515245) lk_6_143 dX6_draw_5 ?_
  refine jj_imul dX6_draw_7 ?_
  refine jj_sipush (12345) dX6_draw_8 rfl ?_
  refine jj_iadd dX6_draw_11 ?_
  refine jp_6_13 (k := p0) hp0 lk_6_46 dX6_draw_12 ?_
  refine jj_aload_n dX6_draw_15 0 rfl ?_
  refine jg_6_13 (k := p0) hp0 lk_6_46 dX6_draw_16 ?_
  refine jj_bipush (8) dX6_draw_19 rfl ?_
  refine jj_iushr dX6_draw_21 ?_
  exact jj_iret2 hF dX6_draw_22 h
def wof_drawWater  (p0 : Nat) (μ : jj_M) : Option (jj_M) := if (wnf_isWell (((wof_draw p0 μ).1) - ((wof_draw p0 μ).1) / 8 * 8)) = 0 then some ((wof_draw p0 ((wof_draw p0 μ).2)).2) else if jj_i (((wof_draw p0 μ).1) - ((wof_draw p0 μ).1) / 8 * 8) 8 then (some (jj_u ((wof_draw p0 ((wof_draw p0 μ).2)).2) (p0 + 1) (((wof_draw p0 μ).1) - ((wof_draw p0 μ).1) / 8 * 8).toNatClampNeg (((wof_draw p0 ((wof_draw p0 μ).2)).1) - ((wof_draw p0 ((wof_draw p0 μ).2)).1) / 20 * 20))).bind fun m3 => some m3 else none
set_option maxRecDepth 100000 in
theorem c_wof_drawWater {g : jj_G} (d : Nat)  {p0 : Nat} {μ : jj_M} {μ' : jj_M}  (hp0 : jj_kd p0 = 6) (h : wof_drawWater p0 μ = some μ') : jj_N g yX6_drawWater cX6_drawWater 3 none (d + 2) [.ref (jj_ad g p0)] μ none μ' := by
  refine jj_N_of jn_6 (Nat.le_of_ble_eq_true rfl) (fun X hF => ?_)
  unfold wof_drawWater at h
  refine jj_sub (own := RX6) (lv2 := [(0, .ref (jj_ad g p0))]) [0] rfl ?_
  refine jj_aload_n dX6_drawWater_0 0 rfl ?_
  refine jj_callVi [] [] (c_wof_draw (d + 1) hp0 rfl) jm_wof_draw lk_6_139 (b := p0) hp0 (by decide) (jj_E6 hp0) rfl rfl rfl (by omega) rfl (Nat.le_of_ble_eq_true rfl) dX6_drawWater_1 ?_
  refine jj_bipush (8) dX6_drawWater_4 rfl ?_
  refine jj_irem dX6_drawWater_6 (by decide) ?_
  refine jj_istore_n [(1, .int (((wof_draw p0 μ).1) - ((wof_draw p0 μ).1) / 8 * 8)), (0, .ref (jj_ad g p0))] dX6_drawWater_7 (by decide) rfl ?_
  refine jj_aload_n dX6_drawWater_8 1 rfl ?_
  refine jj_callVi [] [] (c_wof_draw (d + 1) hp0 rfl) jm_wof_draw lk_6_139 (b := p0) hp0 (by decide) (jj_E6 hp0) rfl rfl rfl (by omega) rfl (Nat.le_of_ble_eq_true rfl) dX6_drawWater_9 ?_
  refine jj_bipush (20) dX6_drawWater_12 rfl ?_
  refine jj_irem dX6_drawWater_14 (by decide) ?_
  refine jj_istore_n [(2, .int (((wof_draw p0 ((wof_draw p0 μ).2)).1) - ((wof_draw p0 ((wof_draw p0 μ).2)).1) / 20 * 20)), (1, .int (((wof_draw p0 μ).1) - ((wof_draw p0 μ).1) / 8 * 8)), (0, .ref (jj_ad g p0))] dX6_drawWater_15 (by decide) rfl ?_
  refine jj_iload_n dX6_drawWater_16 1 rfl ?_
  refine jj_callNi [.int (((wof_draw p0 μ).1) - ((wof_draw p0 μ).1) / 8 * 8)] [] (c_wnf_isWell (d + 0)  rfl) jm_wnf_isWell (host := RX7) (fun w => w.1) rfl (by omega) rfl (Nat.le_of_ble_eq_true rfl) dX6_drawWater_17 ?_
  refine jj_if_eq 30 dX6_drawWater_20 (by decide) (fun c1 => ?_) (fun c1 => ?_)
  · replace h := (if_pos c1).symm.trans h
    exact jj_vret1 hF dX6_drawWater_30 (Option.some.inj h)
  · replace h := (if_neg c1).symm.trans h
    refine jj_aload_n dX6_drawWater_23 2 rfl ?_
    refine jg_6_0 (k := p0) hp0 lk_6_9 dX6_drawWater_24 ?_
    refine jj_iload_n dX6_drawWater_27 1 rfl ?_
    refine jj_iload_n dX6_drawWater_28 0 rfl ?_
    obtain ⟨g2, h⟩ := jj_ge h
    refine jj_iastore (k := p0 + 1) (n := 8) (jk_6_0 hp0) g2 dX6_drawWater_29 ?_
    obtain ⟨m3, em3, h⟩ := jj_be h
    refine jj_mu em3 ?_
    exact jj_vret1 hF dX6_drawWater_30 (Option.some.inj h)
def wof_passDay_L38 (N : Nat)  (p0 : Nat) : Nat → Int32 → jj_M → Option (jj_M)
  | 0, _, _ => none
  | n + 1, x1, μ => if (μ p0 7) ≤ x1 then (some (jj_u (jj_u μ p0 10 ((μ p0 10) + 1)) p0 9 (((jj_u μ p0 10 ((μ p0 10) + 1)) p0 9) + 1))).bind fun m2 => some m2 else if jj_i x1 6 then if (μ ((p0 + 4) + 4 + x1.toNatClampNeg) 5) = 0 then if jj_i x1 6 then wof_passDay_L38 N p0 n (x1 + 1) (pef_thirsts ((p0 + 4) + 4 + x1.toNatClampNeg) 1 μ) else none else wof_passDay_L38 N p0 n (x1 + 1) μ else none
set_option maxRecDepth 100000 in
theorem t_wof_passDay_L38 {g : jj_G} (d : Nat) {N : Nat}  {p0 : Nat}  {μ' : jj_M} {X : jj_X}  (hp0 : jj_kd p0 = 6) (hF : jj_F g none none μ' X)  : ∀ (n : Nat) (x1 : Int32) (μ : jj_M), wof_passDay_L38 N p0 n x1 μ = some μ' → jj_V g X RX6 cX6_passDay 2 (d + 2) 38 [(0, .ref (jj_ad g p0)), (1, .int x1)] [] μ := by
  intro n
  induction n with
  | zero =>
    intro x1 μ h
    exact (jj_no h).elim
  | succ n ih =>
    intro x1 μ h
    rw [wof_passDay_L38] at h
    refine jj_iload_n dX6_passDay_38 1 rfl ?_
    refine jj_aload_n dX6_passDay_39 0 rfl ?_
    refine jg_6_7 (k := p0) hp0 lk_6_75 dX6_passDay_40 ?_
    refine jj_icmp_ge 74 dX6_passDay_43 (by decide) (fun c1 => ?_) (fun c1 => ?_)
    · replace h := (if_pos c1).symm.trans h
      refine jj_aload_n dX6_passDay_74 0 rfl ?_
      refine jj_dup dX6_passDay_75 rfl ?_
      refine jg_6_10 (k := p0) hp0 lk_6_81 dX6_passDay_76 ?_
      refine jj_iconst (1) dX6_passDay_79 rfl ?_
      refine jj_iadd dX6_passDay_80 ?_
      refine jp_6_10 (k := p0) hp0 lk_6_81 dX6_passDay_81 ?_
      refine jj_aload_n dX6_passDay_84 0 rfl ?_
      refine jj_dup dX6_passDay_85 rfl ?_
      refine jg_6_9 (k := p0) hp0 lk_6_78 dX6_passDay_86 ?_
      refine jj_iconst (1) dX6_passDay_89 rfl ?_
      refine jj_iadd dX6_passDay_90 ?_
      refine jp_6_9 (k := p0) hp0 lk_6_78 dX6_passDay_91 ?_
      obtain ⟨m2, em2, h⟩ := jj_be h
      refine jj_mu em2 ?_
      exact jj_vret1 hF dX6_passDay_94 (Option.some.inj h)
    · replace h := (if_neg c1).symm.trans h
      refine jj_aload_n dX6_passDay_46 0 rfl ?_
      refine jg_6_3 (k := p0) hp0 lk_6_23 dX6_passDay_47 ?_
      refine jj_iload_n dX6_passDay_50 1 rfl ?_
      obtain ⟨g3, h⟩ := jj_ge h
      refine jj_aaload10 (k := p0 + 4) (jk_6_3 hp0) g3 dX6_passDay_51 ?_
      refine jg_1_5 (k := (p0 + 4) + 4 + x1.toNatClampNeg) (jk_10 (k := p0 + 4) (jk_6_3 hp0) g3) lk_6_100 dX6_passDay_52 ?_
      refine jj_if_ne 68 dX6_passDay_55 (by decide) (fun c4 => ?_) (fun c4 => ?_)
      · replace h := (if_neg c4).symm.trans h
        refine jj_iinc (x1 + 1) [(1, .int (x1 + 1)), (0, .ref (jj_ad g p0))] dX6_passDay_68 1 rfl rfl (by decide) rfl ?_
        refine jj_goto 38 dX6_passDay_71 (by decide) ?_
        refine jj_sub [1, 0] rfl ?_
        exact ih _ _ h
      · replace h := (if_pos c4).symm.trans h
        refine jj_aload_n dX6_passDay_58 0 rfl ?_
        refine jg_6_3 (k := p0) hp0 lk_6_23 dX6_passDay_59 ?_
        refine jj_iload_n dX6_passDay_62 1 rfl ?_
        obtain ⟨g5, h⟩ := jj_ge h
        refine jj_aaload10 (k := p0 + 4) (jk_6_3 hp0) g5 dX6_passDay_63 ?_
        refine jj_iconst (1) dX6_passDay_64 rfl ?_
        refine jj_callVv [.int 1] [] (c_pef_thirsts (d + 0) (jk_10 (k := p0 + 4) (jk_6_3 hp0) g5) rfl) jm_pef_thirsts lk_6_136 (b := (p0 + 4) + 4 + x1.toNatClampNeg) (jk_10 (k := p0 + 4) (jk_6_3 hp0) g5) (by decide) (jj_E1 (jk_10 (k := p0 + 4) (jk_6_3 hp0) g5)) rfl rfl rfl (by omega) rfl (Nat.le_of_ble_eq_true rfl) dX6_passDay_65 ?_
        refine jj_iinc (x1 + 1) [(1, .int (x1 + 1)), (0, .ref (jj_ad g p0))] dX6_passDay_68 1 rfl rfl (by decide) rfl ?_
        refine jj_goto 38 dX6_passDay_71 (by decide) ?_
        refine jj_sub [1, 0] rfl ?_
        exact ih _ _ h
def wof_passDay_L2 (N : Nat)  (p0 : Nat) : Nat → Int32 → jj_M → Option (jj_M)
  | 0, _, _ => none
  | n + 1, x1, μ => if 8 ≤ x1 then wof_passDay_L38 N p0 N 0 μ else if jj_i x1 8 then if jj_i x1 8 then (some (jj_u μ (p0 + 1) x1.toNatClampNeg (jdf_min 99 ((μ (p0 + 1) x1.toNatClampNeg) + (μ p0 8))))).bind fun m4 => wof_passDay_L2 N p0 n (x1 + 1) m4 else none else none
set_option maxRecDepth 100000 in
theorem t_wof_passDay_L2 {g : jj_G} (d : Nat) {N : Nat}  {p0 : Nat}  {μ' : jj_M} {X : jj_X}  (hp0 : jj_kd p0 = 6) (hF : jj_F g none none μ' X)  : ∀ (n : Nat) (x1 : Int32) (μ : jj_M), wof_passDay_L2 N p0 n x1 μ = some μ' → jj_V g X RX6 cX6_passDay 2 (d + 2) 2 [(0, .ref (jj_ad g p0)), (1, .int x1)] [] μ := by
  intro n
  induction n with
  | zero =>
    intro x1 μ h
    exact (jj_no h).elim
  | succ n ih =>
    intro x1 μ h
    rw [wof_passDay_L2] at h
    refine jj_iload_n dX6_passDay_2 1 rfl ?_
    refine jj_bipush (8) dX6_passDay_3 rfl ?_
    refine jj_icmp_ge 36 dX6_passDay_5 (by decide) (fun c1 => ?_) (fun c1 => ?_)
    · replace h := (if_pos c1).symm.trans h
      refine jj_iconst (0) dX6_passDay_36 rfl ?_
      refine jj_istore_n [(1, .int 0), (0, .ref (jj_ad g p0))] dX6_passDay_37 (by decide) rfl ?_
      refine jj_sub [1, 0] rfl ?_
      exact t_wof_passDay_L38 d  hp0 hF  _ _ _ h
    · replace h := (if_neg c1).symm.trans h
      refine jj_aload_n dX6_passDay_8 0 rfl ?_
      refine jg_6_0 (k := p0) hp0 lk_6_9 dX6_passDay_9 ?_
      refine jj_iload_n dX6_passDay_12 1 rfl ?_
      refine jj_bipush (99) dX6_passDay_13 rfl ?_
      refine jj_aload_n dX6_passDay_15 0 rfl ?_
      refine jg_6_0 (k := p0) hp0 lk_6_9 dX6_passDay_16 ?_
      refine jj_iload_n dX6_passDay_19 1 rfl ?_
      obtain ⟨g2, h⟩ := jj_ge h
      refine jj_iaload (k := p0 + 1) (n := 8) (jk_6_0 hp0) g2 dX6_passDay_20 ?_
      refine jj_aload_n dX6_passDay_21 0 rfl ?_
      refine jg_6_8 (k := p0) hp0 lk_6_42 dX6_passDay_22 ?_
      refine jj_iadd dX6_passDay_25 ?_
      refine jj_mmin lk_6_126 (by omega) (Nat.le_of_ble_eq_true rfl) dX6_passDay_26 ?_
      obtain ⟨g3, h⟩ := jj_ge h
      refine jj_iastore (k := p0 + 1) (n := 8) (jk_6_0 hp0) g3 dX6_passDay_29 ?_
      obtain ⟨m4, em4, h⟩ := jj_be h
      refine jj_mu em4 ?_
      refine jj_iinc (x1 + 1) [(1, .int (x1 + 1)), (0, .ref (jj_ad g p0))] dX6_passDay_30 1 rfl rfl (by decide) rfl ?_
      refine jj_goto 2 dX6_passDay_33 (by decide) ?_
      refine jj_sub [1, 0] rfl ?_
      exact ih _ _ h
def wof_passDay (N : Nat) (p0 : Nat) (μ : jj_M) : Option (jj_M) := wof_passDay_L2 N p0 N 0 μ
set_option maxRecDepth 100000 in
theorem c_wof_passDay {g : jj_G} (d : Nat) {N : Nat} {p0 : Nat} {μ : jj_M} {μ' : jj_M}  (hp0 : jj_kd p0 = 6) (h : wof_passDay N p0 μ = some μ') : jj_N g yX6_passDay cX6_passDay 2 none (d + 2) [.ref (jj_ad g p0)] μ none μ' := by
  refine jj_N_of jn_6 (Nat.le_of_ble_eq_true rfl) (fun X hF => ?_)
  unfold wof_passDay at h
  refine jj_sub (own := RX6) (lv2 := [(0, .ref (jj_ad g p0))]) [0] rfl ?_
  refine jj_iconst (0) dX6_passDay_0 rfl ?_
  refine jj_istore_n [(1, .int 0), (0, .ref (jj_ad g p0))] dX6_passDay_1 (by decide) rfl ?_
  refine jj_sub [1, 0] rfl ?_
  exact t_wof_passDay_L2 d  hp0 hF  _ _ _ h
def wof_deadBehind_L4 (N : Nat)  (p0 : Nat) (x1 : Int32) (μ : jj_M) : Nat → Int32 → Int32 → Option (Int32)
  | 0, _, _ => none
  | n + 1, x2, x3 => if (μ p0 7) ≤ x3 then some x2 else if jj_i x3 6 then if (μ ((p0 + 4) + 4 + x3.toNatClampNeg) 5) = 0 then if x1 ≤ 0 then wof_deadBehind_L4 N p0 x1 μ n x2 (x3 + 1) else if ((μ ((p0 + 4) + 4 + x3.toNatClampNeg) 4) + x1) ≤ (pef_limit ((p0 + 4) + 4 + x3.toNatClampNeg) μ) then wof_deadBehind_L4 N p0 x1 μ n x2 (x3 + 1) else wof_deadBehind_L4 N p0 x1 μ n (x2 + 1) (x3 + 1) else wof_deadBehind_L4 N p0 x1 μ n (x2 + 1) (x3 + 1) else none
set_option maxRecDepth 100000 in
theorem t_wof_deadBehind_L4 {g : jj_G} (d : Nat) {N : Nat}  {p0 : Nat} {x1 : Int32} {μ : jj_M}  {r : Int32} {X : jj_X}  (hp0 : jj_kd p0 = 6) (hF : jj_F g (some .int) (some (.int r)) μ X)  : ∀ (n : Nat) (x2 : Int32) (x3 : Int32), wof_deadBehind_L4 N p0 x1 μ n x2 x3 = some r → jj_V g X RX6 cX6_deadBehind 5 (d + 1) 4 [(0, .ref (jj_ad g p0)), (1, .int x1), (2, .int x2), (3, .int x3)] [] μ := by
  intro n
  induction n with
  | zero =>
    intro x2 x3 h
    exact (jj_no h).elim
  | succ n ih =>
    intro x2 x3 h
    rw [wof_deadBehind_L4] at h
    refine jj_iload_n dX6_deadBehind_4 3 rfl ?_
    refine jj_aload_n dX6_deadBehind_5 0 rfl ?_
    refine jg_6_7 (k := p0) hp0 lk_6_75 dX6_deadBehind_6 ?_
    refine jj_icmp_ge 56 dX6_deadBehind_9 (by decide) (fun c1 => ?_) (fun c1 => ?_)
    · replace h := (if_pos c1).symm.trans h
      refine jj_iload_n dX6_deadBehind_56 2 rfl ?_
      exact jj_iret1 hF dX6_deadBehind_57 (Option.some.inj h)
    · replace h := (if_neg c1).symm.trans h
      refine jj_aload_n dX6_deadBehind_12 0 rfl ?_
      refine jg_6_3 (k := p0) hp0 lk_6_23 dX6_deadBehind_13 ?_
      refine jj_iload_n dX6_deadBehind_16 3 rfl ?_
      obtain ⟨g2, h⟩ := jj_ge h
      refine jj_aaload10 (k := p0 + 4) (jk_6_3 hp0) g2 dX6_deadBehind_17 ?_
      refine jj_astore [(4, .ref (jj_ad g ((p0 + 4) + 4 + x3.toNatClampNeg))), (0, .ref (jj_ad g p0)), (1, .int x1), (2, .int x2), (3, .int x3)] dX6_deadBehind_18 (by decide) rfl ?_
      refine jj_aload dX6_deadBehind_20 0 rfl ?_
      refine jg_1_5 (k := (p0 + 4) + 4 + x3.toNatClampNeg) (jk_10 (k := p0 + 4) (jk_6_3 hp0) g2) lk_6_100 dX6_deadBehind_22 ?_
      refine jj_if_ne 47 dX6_deadBehind_25 (by decide) (fun c3 => ?_) (fun c3 => ?_)
      · replace h := (if_neg c3).symm.trans h
        refine jj_iinc (x2 + 1) [(2, .int (x2 + 1)), (4, .ref (jj_ad g ((p0 + 4) + 4 + x3.toNatClampNeg))), (0, .ref (jj_ad g p0)), (1, .int x1), (3, .int x3)] dX6_deadBehind_47 3 rfl rfl (by decide) rfl ?_
        refine jj_iinc (x3 + 1) [(3, .int (x3 + 1)), (2, .int (x2 + 1)), (4, .ref (jj_ad g ((p0 + 4) + 4 + x3.toNatClampNeg))), (0, .ref (jj_ad g p0)), (1, .int x1)] dX6_deadBehind_50 4 rfl rfl (by decide) rfl ?_
        refine jj_goto 4 dX6_deadBehind_53 (by decide) ?_
        refine jj_sub [3, 4, 1, 0] rfl ?_
        exact ih _ _ h
      · replace h := (if_pos c3).symm.trans h
        refine jj_iload_n dX6_deadBehind_28 2 rfl ?_
        refine jj_if_le 50 dX6_deadBehind_29 (by decide) (fun c4 => ?_) (fun c4 => ?_)
        · replace h := (if_pos c4).symm.trans h
          refine jj_iinc (x3 + 1) [(3, .int (x3 + 1)), (4, .ref (jj_ad g ((p0 + 4) + 4 + x3.toNatClampNeg))), (0, .ref (jj_ad g p0)), (1, .int x1), (2, .int x2)] dX6_deadBehind_50 4 rfl rfl (by decide) rfl ?_
          refine jj_goto 4 dX6_deadBehind_53 (by decide) ?_
          refine jj_sub [2, 3, 4, 0] rfl ?_
          exact ih _ _ h
        · replace h := (if_neg c4).symm.trans h
          refine jj_aload dX6_deadBehind_32 0 rfl ?_
          refine jg_1_4 (k := (p0 + 4) + 4 + x3.toNatClampNeg) (jk_10 (k := p0 + 4) (jk_6_3 hp0) g2) lk_6_144 dX6_deadBehind_34 ?_
          refine jj_iload_n dX6_deadBehind_37 2 rfl ?_
          refine jj_iadd dX6_deadBehind_38 ?_
          refine jj_aload dX6_deadBehind_39 0 rfl ?_
          refine jj_callVi [] [.int ((μ ((p0 + 4) + 4 + x3.toNatClampNeg) 4) + x1)] (c_pef_limit (d + 0) (jk_10 (k := p0 + 4) (jk_6_3 hp0) g2) rfl) jm_pef_limit lk_6_147 (b := (p0 + 4) + 4 + x3.toNatClampNeg) (jk_10 (k := p0 + 4) (jk_6_3 hp0) g2) (by decide) (jj_E1 (jk_10 (k := p0 + 4) (jk_6_3 hp0) g2)) rfl rfl rfl (by omega) rfl (Nat.le_of_ble_eq_true rfl) dX6_deadBehind_41 ?_
          refine jj_icmp_le 50 dX6_deadBehind_44 (by decide) (fun c5 => ?_) (fun c5 => ?_)
          · replace h := (if_pos c5).symm.trans h
            refine jj_iinc (x3 + 1) [(3, .int (x3 + 1)), (4, .ref (jj_ad g ((p0 + 4) + 4 + x3.toNatClampNeg))), (0, .ref (jj_ad g p0)), (1, .int x1), (2, .int x2)] dX6_deadBehind_50 4 rfl rfl (by decide) rfl ?_
            refine jj_goto 4 dX6_deadBehind_53 (by decide) ?_
            refine jj_sub [2, 3, 4, 0] rfl ?_
            exact ih _ _ h
          · replace h := (if_neg c5).symm.trans h
            refine jj_iinc (x2 + 1) [(2, .int (x2 + 1)), (4, .ref (jj_ad g ((p0 + 4) + 4 + x3.toNatClampNeg))), (0, .ref (jj_ad g p0)), (1, .int x1), (3, .int x3)] dX6_deadBehind_47 3 rfl rfl (by decide) rfl ?_
            refine jj_iinc (x3 + 1) [(3, .int (x3 + 1)), (2, .int (x2 + 1)), (4, .ref (jj_ad g ((p0 + 4) + 4 + x3.toNatClampNeg))), (0, .ref (jj_ad g p0)), (1, .int x1)] dX6_deadBehind_50 4 rfl rfl (by decide) rfl ?_
            refine jj_goto 4 dX6_deadBehind_53 (by decide) ?_
            refine jj_sub [3, 4, 1, 0] rfl ?_
            exact ih _ _ h
def wof_deadBehind (N : Nat) (p0 : Nat) (x1 : Int32) (μ : jj_M) : Option (Int32) := wof_deadBehind_L4 N p0 x1 μ N 0 0
set_option maxRecDepth 100000 in
theorem c_wof_deadBehind {g : jj_G} (d : Nat) {N : Nat} {p0 : Nat} {x1 : Int32} {μ : jj_M} {r : Int32}  (hp0 : jj_kd p0 = 6) (h : wof_deadBehind N p0 x1 μ = some r) : jj_N g yX6_deadBehind cX6_deadBehind 5 (some .int) (d + 1) [.ref (jj_ad g p0), .int x1] μ (some (.int r)) μ := by
  refine jj_N_of jn_6 (Nat.le_of_ble_eq_true rfl) (fun X hF => ?_)
  unfold wof_deadBehind at h
  refine jj_sub (own := RX6) (lv2 := [(0, .ref (jj_ad g p0)), (1, .int x1)]) [0, 1] rfl ?_
  refine jj_iconst (0) dX6_deadBehind_0 rfl ?_
  refine jj_istore_n [(2, .int 0), (0, .ref (jj_ad g p0)), (1, .int x1)] dX6_deadBehind_1 (by decide) rfl ?_
  refine jj_iconst (0) dX6_deadBehind_2 rfl ?_
  refine jj_istore_n [(3, .int 0), (2, .int 0), (0, .ref (jj_ad g p0)), (1, .int x1)] dX6_deadBehind_3 (by decide) rfl ?_
  refine jj_sub [2, 3, 1, 0] rfl ?_
  exact t_wof_deadBehind_L4 d  hp0 hF  _ _ _ h
def wnf_passDays_L35 (N : Nat)  (x1 : Int32) (x3 : Int32) : Nat → Int32 → jj_M → Option (Int32 × jj_M)
  | 0, _, _ => none
  | n + 1, x4, μ => if x1 ≤ x4 then (wof_deadBehind N 1 0 μ).bind fun q2 => some ((q2, μ)) else if x3 = 0 then (wof_passDay N 1 μ).bind fun q4 => wnf_passDays_L35 N x1 x3 n (x4 + 1) q4 else (wof_drawWater 1 μ).bind fun q5 => (wof_passDay N 1 q5).bind fun q6 => wnf_passDays_L35 N x1 x3 n (x4 + 1) q6
set_option maxRecDepth 100000 in
theorem t_wnf_passDays_L35 {g : jj_G} (d : Nat) {N : Nat}  {x1 : Int32} {x3 : Int32}  {r : Int32} {μ' : jj_M} {X : jj_X}   (hF : jj_F g (some .int) (some (.int r)) μ' X)  : ∀ (n : Nat) (x4 : Int32) (μ : jj_M), wnf_passDays_L35 N x1 x3 n x4 μ = some (r, μ') → jj_V g X RX7 cX7_passDays 5 (d + 3) 35 [(0, .ref (jj_ad g 0)), (1, .int x1), (3, .int x3), (4, .int x4)] [] μ := by
  intro n
  induction n with
  | zero =>
    intro x4 μ h
    exact (jj_no h).elim
  | succ n ih =>
    intro x4 μ h
    rw [wnf_passDays_L35] at h
    refine jj_iload dX7_passDays_35 3 rfl ?_
    refine jj_iload_n dX7_passDays_37 1 rfl ?_
    refine jj_icmp_ge 65 dX7_passDays_38 (by decide) (fun c1 => ?_) (fun c1 => ?_)
    · replace h := (if_pos c1).symm.trans h
      refine jj_aload_n dX7_passDays_65 0 rfl ?_
      refine jg_7_0 (k := 0) rfl lk_7_10 dX7_passDays_66 ?_
      show jj_V g X _ _ _ _ _ _ (.ref (jj_ad g 1) :: _) _
      refine jj_iconst (0) dX7_passDays_69 rfl ?_
      obtain ⟨q2, e2, h⟩ := jj_be h
      refine jj_callVi [.int 0] [] (c_wof_deadBehind (d + 1) rfl e2) jm_wof_deadBehind lk_7_304 (b := 1) rfl (by decide) (jj_E6 rfl) rfl rfl rfl (by omega) rfl (Nat.le_of_ble_eq_true rfl) dX7_passDays_70 ?_
      exact jj_iret2 hF dX7_passDays_73 (Option.some.inj h)
    · replace h := (if_neg c1).symm.trans h
      refine jj_iload_n dX7_passDays_41 2 rfl ?_
      refine jj_if_eq 52 dX7_passDays_42 (by decide) (fun c3 => ?_) (fun c3 => ?_)
      · replace h := (if_pos c3).symm.trans h
        refine jj_aload_n dX7_passDays_52 0 rfl ?_
        refine jg_7_0 (k := 0) rfl lk_7_10 dX7_passDays_53 ?_
        show jj_V g X _ _ _ _ _ _ (.ref (jj_ad g 1) :: _) _
        obtain ⟨q4, e4, h⟩ := jj_be h
        refine jj_callVv [] [] (c_wof_passDay (d + 0) rfl e4) jm_wof_passDay lk_7_322 (b := 1) rfl (by decide) (jj_E6 rfl) rfl rfl rfl (by omega) rfl (Nat.le_of_ble_eq_true rfl) dX7_passDays_56 ?_
        refine jj_iinc (x4 + 1) [(4, .int (x4 + 1)), (0, .ref (jj_ad g 0)), (1, .int x1), (3, .int x3)] dX7_passDays_59 3 rfl rfl (by decide) rfl ?_
        refine jj_goto 35 dX7_passDays_62 (by decide) ?_
        refine jj_sub [1, 2, 3, 0] rfl ?_
        exact ih _ _ h
      · replace h := (if_neg c3).symm.trans h
        refine jj_aload_n dX7_passDays_45 0 rfl ?_
        refine jg_7_0 (k := 0) rfl lk_7_10 dX7_passDays_46 ?_
        show jj_V g X _ _ _ _ _ _ (.ref (jj_ad g 1) :: _) _
        obtain ⟨q5, e5, h⟩ := jj_be h
        refine jj_callVv [] [] (c_wof_drawWater (d + 0) rfl e5) jm_wof_drawWater lk_7_319 (b := 1) rfl (by decide) (jj_E6 rfl) rfl rfl rfl (by omega) rfl (Nat.le_of_ble_eq_true rfl) dX7_passDays_49 ?_
        refine jj_aload_n dX7_passDays_52 0 rfl ?_
        refine jg_7_0 (k := 0) rfl lk_7_10 dX7_passDays_53 ?_
        show jj_V g X _ _ _ _ _ _ (.ref (jj_ad g 1) :: _) _
        obtain ⟨q6, e6, h⟩ := jj_be h
        refine jj_callVv [] [] (c_wof_passDay (d + 0) rfl e6) jm_wof_passDay lk_7_322 (b := 1) rfl (by decide) (jj_E6 rfl) rfl rfl rfl (by omega) rfl (Nat.le_of_ble_eq_true rfl) dX7_passDays_56 ?_
        refine jj_iinc (x4 + 1) [(4, .int (x4 + 1)), (0, .ref (jj_ad g 0)), (1, .int x1), (3, .int x3)] dX7_passDays_59 3 rfl rfl (by decide) rfl ?_
        refine jj_goto 35 dX7_passDays_62 (by decide) ?_
        refine jj_sub [1, 2, 3, 0] rfl ?_
        exact ih _ _ h
def wnf_passDays (N : Nat) (x1 : Int32) (x2 : Int32) (x3 : Int32) (μ : jj_M) : Option (Int32 × jj_M) := if (wnf_within x1 1 x2) = 0 then (wnf_refuse 1 μ).bind fun q4 => some ((q4.1, q4.2)) else if (wof_hasDays 1 x1 μ) = 0 then (wnf_refuse 3 μ).bind fun q3 => some ((q3.1, q3.2)) else wnf_passDays_L35 N x1 x3 N 0 μ
set_option maxRecDepth 100000 in
theorem c_wnf_passDays {g : jj_G} (d : Nat) {N : Nat} {x1 : Int32} {x2 : Int32} {x3 : Int32} {μ : jj_M} {r : Int32} {μ' : jj_M}   (h : wnf_passDays N x1 x2 x3 μ = some (r, μ')) : jj_N g yX7_passDays cX7_passDays 5 (some .int) (d + 3) [.ref (jj_ad g 0), .int x1, .int x2, .int x3] μ (some (.int r)) μ' := by
  refine jj_N_of jn_7 (Nat.le_of_ble_eq_true rfl) (fun X hF => ?_)
  unfold wnf_passDays at h
  refine jj_sub (own := RX7) (lv2 := [(0, .ref (jj_ad g 0)), (1, .int x1), (2, .int x2), (3, .int x3)]) [0, 1, 2, 3] rfl ?_
  refine jj_iload_n dX7_passDays_0 1 rfl ?_
  refine jj_iconst (1) dX7_passDays_1 rfl ?_
  refine jj_iload_n dX7_passDays_2 2 rfl ?_
  refine jj_callSi [.int x1, .int 1, .int x2] [] (c_wnf_within (d + 2)  rfl) jm_wnf_within lk_7_55 rfl (by omega) rfl (Nat.le_of_ble_eq_true rfl) dX7_passDays_3 ?_
  refine jj_if_ne 15 dX7_passDays_6 (by decide) (fun c1 => ?_) (fun c1 => ?_)
  · replace h := (if_neg c1).symm.trans h
    refine jj_aload_n dX7_passDays_15 0 rfl ?_
    refine jg_7_0 (k := 0) rfl lk_7_10 dX7_passDays_16 ?_
    show jj_V g X _ _ _ _ _ _ (.ref (jj_ad g 1) :: _) _
    refine jj_iload_n dX7_passDays_19 1 rfl ?_
    refine jj_callVi [.int x1] [] (c_wof_hasDays (d + 2) rfl rfl) jm_wof_hasDays lk_7_316 (b := 1) rfl (by decide) (jj_E6 rfl) rfl rfl rfl (by omega) rfl (Nat.le_of_ble_eq_true rfl) dX7_passDays_20 ?_
    refine jj_if_ne 32 dX7_passDays_23 (by decide) (fun c2 => ?_) (fun c2 => ?_)
    · replace h := (if_neg c2).symm.trans h
      refine jj_iconst (0) dX7_passDays_32 rfl ?_
      refine jj_istore [(4, .int 0), (0, .ref (jj_ad g 0)), (1, .int x1), (2, .int x2), (3, .int x3)] dX7_passDays_33 (by decide) rfl ?_
      refine jj_sub [1, 2, 4, 0] rfl ?_
      exact t_wnf_passDays_L35 d   hF  _ _ _ h
    · replace h := (if_pos c2).symm.trans h
      refine jj_aload_n dX7_passDays_26 0 rfl ?_
      refine jj_iconst (3) dX7_passDays_27 rfl ?_
      obtain ⟨q3, e3, h⟩ := jj_be h
      refine jj_callVi [.int 3] [] (c_wnf_refuse (d + 2)  e3) jm_wnf_refuse lk_7_59 (b := 0) rfl (by decide) (jj_E7 rfl) rfl rfl rfl (by omega) rfl (Nat.le_of_ble_eq_true rfl) dX7_passDays_28 ?_
      exact jj_iret2 hF dX7_passDays_31 (Option.some.inj h)
  · replace h := (if_pos c1).symm.trans h
    refine jj_aload_n dX7_passDays_9 0 rfl ?_
    refine jj_iconst (1) dX7_passDays_10 rfl ?_
    obtain ⟨q4, e4, h⟩ := jj_be h
    refine jj_callVi [.int 1] [] (c_wnf_refuse (d + 2)  e4) jm_wnf_refuse lk_7_59 (b := 0) rfl (by decide) (jj_E7 rfl) rfl rfl rfl (by omega) rfl (Nat.le_of_ble_eq_true rfl) dX7_passDays_11 ?_
    exact jj_iret2 hF dX7_passDays_14 (Option.some.inj h)
def wnf_days (N : Nat) (x1 : Int32) (μ : jj_M) : Option (Int32 × jj_M) := (wnf_passDays N x1 60 0 μ).bind fun q1 => some ((q1.1, q1.2))
set_option maxRecDepth 100000 in
theorem c_wnf_days {g : jj_G} (d : Nat) {N : Nat} {x1 : Int32} {μ : jj_M} {r : Int32} {μ' : jj_M}   (h : wnf_days N x1 μ = some (r, μ')) : jj_N g yX7_days cX7_days 2 (some .int) (d + 4) [.ref (jj_ad g 0), .int x1] μ (some (.int r)) μ' := by
  refine jj_N_of jn_7 (Nat.le_of_ble_eq_true rfl) (fun X hF => ?_)
  unfold wnf_days at h
  refine jj_sub (own := RX7) (lv2 := [(0, .ref (jj_ad g 0)), (1, .int x1)]) [0, 1] rfl ?_
  refine jj_aload_n dX7_days_0 0 rfl ?_
  refine jj_iload_n dX7_days_1 1 rfl ?_
  refine jj_bipush (60) dX7_days_2 rfl ?_
  refine jj_iconst (0) dX7_days_4 rfl ?_
  obtain ⟨q1, e1, h⟩ := jj_be h
  refine jj_callVi [.int x1, .int 60, .int 0] [] (c_wnf_passDays (d + 0)  e1) jm_wnf_passDays lk_7_188 (b := 0) rfl (by decide) (jj_E7 rfl) rfl rfl rfl (by omega) rfl (Nat.le_of_ble_eq_true rfl) dX7_days_5 ?_
  exact jj_iret2 hF dX7_days_8 (Option.some.inj h)
def wnf_loose (N : Nat) (x1 : Int32) (μ : jj_M) : Option (Int32 × jj_M) := (wnf_passDays N x1 40 1 μ).bind fun q1 => some ((q1.1, q1.2))
set_option maxRecDepth 100000 in
theorem c_wnf_loose {g : jj_G} (d : Nat) {N : Nat} {x1 : Int32} {μ : jj_M} {r : Int32} {μ' : jj_M}   (h : wnf_loose N x1 μ = some (r, μ')) : jj_N g yX7_loose cX7_loose 2 (some .int) (d + 4) [.ref (jj_ad g 0), .int x1] μ (some (.int r)) μ' := by
  refine jj_N_of jn_7 (Nat.le_of_ble_eq_true rfl) (fun X hF => ?_)
  unfold wnf_loose at h
  refine jj_sub (own := RX7) (lv2 := [(0, .ref (jj_ad g 0)), (1, .int x1)]) [0, 1] rfl ?_
  refine jj_aload_n dX7_loose_0 0 rfl ?_
  refine jj_iload_n dX7_loose_1 1 rfl ?_
  refine jj_bipush (40) dX7_loose_2 rfl ?_
  refine jj_iconst (1) dX7_loose_4 rfl ?_
  obtain ⟨q1, e1, h⟩ := jj_be h
  refine jj_callVi [.int x1, .int 40, .int 1] [] (c_wnf_passDays (d + 0)  e1) jm_wnf_passDays lk_7_188 (b := 0) rfl (by decide) (jj_E7 rfl) rfl rfl rfl (by omega) rfl (Nat.le_of_ble_eq_true rfl) dX7_loose_5 ?_
  exact jj_iret2 hF dX7_loose_8 (Option.some.inj h)
def jdf_bitCount  (x0 : Int32)  : Int32 := (((((((x0 - (((Int32.toUInt32 x0 >>> (Int32.toUInt32 1 &&& Int32.toUInt32 31)).toInt32) &&& 1431655765)) &&& 858993459) + (((Int32.toUInt32 (x0 - (((Int32.toUInt32 x0 >>> (Int32.toUInt32 1 &&& Int32.toUInt32 31)).toInt32) &&& 1431655765)) >>> (Int32.toUInt32 2 &&& Int32.toUInt32 31)).toInt32) &&& 858993459)) + ((Int32.toUInt32 (((x0 - (((Int32.toUInt32 x0 >>> (Int32.toUInt32 1 &&& Int32.toUInt32 31)).toInt32) &&& 1431655765)) &&& 858993459) + (((Int32.toUInt32 (x0 - (((Int32.toUInt32 x0 >>> (Int32.toUInt32 1 &&& Int32.toUInt32 31)).toInt32) &&& 1431655765)) >>> (Int32.toUInt32 2 &&& Int32.toUInt32 31)).toInt32) &&& 858993459)) >>> (Int32.toUInt32 4 &&& Int32.toUInt32 31)).toInt32)) &&& 252645135) + ((Int32.toUInt32 (((((x0 - (((Int32.toUInt32 x0 >>> (Int32.toUInt32 1 &&& Int32.toUInt32 31)).toInt32) &&& 1431655765)) &&& 858993459) + (((Int32.toUInt32 (x0 - (((Int32.toUInt32 x0 >>> (Int32.toUInt32 1 &&& Int32.toUInt32 31)).toInt32) &&& 1431655765)) >>> (Int32.toUInt32 2 &&& Int32.toUInt32 31)).toInt32) &&& 858993459)) + ((Int32.toUInt32 (((x0 - (((Int32.toUInt32 x0 >>> (Int32.toUInt32 1 &&& Int32.toUInt32 31)).toInt32) &&& 1431655765)) &&& 858993459) + (((Int32.toUInt32 (x0 - (((Int32.toUInt32 x0 >>> (Int32.toUInt32 1 &&& Int32.toUInt32 31)).toInt32) &&& 1431655765)) >>> (Int32.toUInt32 2 &&& Int32.toUInt32 31)).toInt32) &&& 858993459)) >>> (Int32.toUInt32 4 &&& Int32.toUInt32 31)).toInt32)) &&& 252645135) >>> (Int32.toUInt32 8 &&& Int32.toUInt32 31)).toInt32)) + ((Int32.toUInt32 ((((((x0 - (((Int32.toUInt32 x0 >>> (Int32.toUInt32 1 &&& Int32.toUInt32 31)).toInt32) &&& 1431655765)) &&& 858993459) + (((Int32.toUInt32 (x0 - (((Int32.toUInt32 x0 >>> (Int32.toUInt32 1 &&& Int32.toUInt32 31)).toInt32) &&& 1431655765)) >>> (Int32.toUInt32 2 &&& Int32.toUInt32 31)).toInt32) &&& 858993459)) + ((Int32.toUInt32 (((x0 - (((Int32.toUInt32 x0 >>> (Int32.toUInt32 1 &&& Int32.toUInt32 31)).toInt32) &&& 1431655765)) &&& 858993459) + (((Int32.toUInt32 (x0 - (((Int32.toUInt32 x0 >>> (Int32.toUInt32 1 &&& Int32.toUInt32 31)).toInt32) &&& 1431655765)) >>> (Int32.toUInt32 2 &&& Int32.toUInt32 31)).toInt32) &&& 858993459)) >>> (Int32.toUInt32 4 &&& Int32.toUInt32 31)).toInt32)) &&& 252645135) + ((Int32.toUInt32 (((((x0 - (((Int32.toUInt32 x0 >>> (Int32.toUInt32 1 &&& Int32.toUInt32 31)).toInt32) &&& 1431655765)) &&& 858993459) + (((Int32.toUInt32 (x0 - (((Int32.toUInt32 x0 >>> (Int32.toUInt32 1 &&& Int32.toUInt32 31)).toInt32) &&& 1431655765)) >>> (Int32.toUInt32 2 &&& Int32.toUInt32 31)).toInt32) &&& 858993459)) + ((Int32.toUInt32 (((x0 - (((Int32.toUInt32 x0 >>> (Int32.toUInt32 1 &&& Int32.toUInt32 31)).toInt32) &&& 1431655765)) &&& 858993459) + (((Int32.toUInt32 (x0 - (((Int32.toUInt32 x0 >>> (Int32.toUInt32 1 &&& Int32.toUInt32 31)).toInt32) &&& 1431655765)) >>> (Int32.toUInt32 2 &&& Int32.toUInt32 31)).toInt32) &&& 858993459)) >>> (Int32.toUInt32 4 &&& Int32.toUInt32 31)).toInt32)) &&& 252645135) >>> (Int32.toUInt32 8 &&& Int32.toUInt32 31)).toInt32)) >>> (Int32.toUInt32 16 &&& Int32.toUInt32 31)).toInt32)) &&& 63
set_option maxRecDepth 100000 in
theorem c_jdf_bitCount {g : jj_G} (d : Nat)  {x0 : Int32} {μ : jj_M} {r : Int32}   (h : jdf_bitCount x0 = r) : jj_N g yJ6_bitCount_0f7a4 cJ6_bitCount_0f7a4 1 (some .int) (d + 0) [.int x0] μ (some (.int r)) μ := by
  refine jj_N_of jn_J6 (Nat.le_of_ble_eq_true rfl) (fun X hF => ?_)
  unfold jdf_bitCount at h
  refine jj_sub (own := RJ6) (lv2 := [(0, .int x0)]) [0] rfl ?_
  refine jj_iload_n dJ6_bitCount_0f7a4_0 0 rfl ?_
  refine jj_iload_n dJ6_bitCount_0f7a4_1 0 rfl ?_
  refine jj_iconst (1) dJ6_bitCount_0f7a4_2 rfl ?_
  refine jj_iushr dJ6_bitCount_0f7a4_3 ?_
  refine jj_ldc_w (1431655765) lk_J6_265 dJ6_bitCount_0f7a4_4 ?_
  refine jj_iand dJ6_bitCount_0f7a4_7 ?_
  refine jj_isub dJ6_bitCount_0f7a4_8 ?_
  refine jj_istore_n [(0, .int (x0 - (((Int32.toUInt32 x0 >>> (Int32.toUInt32 1 &&& Int32.toUInt32 31)).toInt32) &&& 1431655765)))] dJ6_bitCount_0f7a4_9 (by decide) rfl ?_
  refine jj_iload_n dJ6_bitCount_0f7a4_10 0 rfl ?_
  refine jj_ldc_w (858993459) lk_J6_266 dJ6_bitCount_0f7a4_11 ?_
  refine jj_iand dJ6_bitCount_0f7a4_14 ?_
  refine jj_iload_n dJ6_bitCount_0f7a4_15 0 rfl ?_
  refine jj_iconst (2) dJ6_bitCount_0f7a4_16 rfl ?_
  refine jj_iushr dJ6_bitCount_0f7a4_17 ?_
  refine jj_ldc_w (858993459) lk_J6_266 dJ6_bitCount_0f7a4_18 ?_
  refine jj_iand dJ6_bitCount_0f7a4_21 ?_
  refine jj_iadd dJ6_bitCount_0f7a4_22 ?_
  refine jj_istore_n [(0, .int (((x0 - (((Int32.toUInt32 x0 >>> (Int32.toUInt32 1 &&& Int32.toUInt32 31)).toInt32) &&& 1431655765)) &&& 858993459) + (((Int32.toUInt32 (x0 - (((Int32.toUInt32 x0 >>> (Int32.toUInt32 1 &&& Int32.toUInt32 31)).toInt32) &&& 1431655765)) >>> (Int32.toUInt32 2 &&& Int32.toUInt32 31)).toInt32) &&& 858993459)))] dJ6_bitCount_0f7a4_23 (by decide) rfl ?_
  refine jj_iload_n dJ6_bitCount_0f7a4_24 0 rfl ?_
  refine jj_iload_n dJ6_bitCount_0f7a4_25 0 rfl ?_
  refine jj_iconst (4) dJ6_bitCount_0f7a4_26 rfl ?_
  refine jj_iushr dJ6_bitCount_0f7a4_27 ?_
  refine jj_iadd dJ6_bitCount_0f7a4_28 ?_
  refine jj_ldc_w (252645135) lk_J6_267 dJ6_bitCount_0f7a4_29 ?_
  refine jj_iand dJ6_bitCount_0f7a4_32 ?_
  refine jj_istore_n [(0, .int (((((x0 - (((Int32.toUInt32 x0 >>> (Int32.toUInt32 1 &&& Int32.toUInt32 31)).toInt32) &&& 1431655765)) &&& 858993459) + (((Int32.toUInt32 (x0 - (((Int32.toUInt32 x0 >>> (Int32.toUInt32 1 &&& Int32.toUInt32 31)).toInt32) &&& 1431655765)) >>> (Int32.toUInt32 2 &&& Int32.toUInt32 31)).toInt32) &&& 858993459)) + ((Int32.toUInt32 (((x0 - (((Int32.toUInt32 x0 >>> (Int32.toUInt32 1 &&& Int32.toUInt32 31)).toInt32) &&& 1431655765)) &&& 858993459) + (((Int32.toUInt32 (x0 - (((Int32.toUInt32 x0 >>> (Int32.toUInt32 1 &&& Int32.toUInt32 31)).toInt32) &&& 1431655765)) >>> (Int32.toUInt32 2 &&& Int32.toUInt32 31)).toInt32) &&& 858993459)) >>> (Int32.toUInt32 4 &&& Int32.toUInt32 31)).toInt32)) &&& 252645135))] dJ6_bitCount_0f7a4_33 (by decide) rfl ?_
  refine jj_iload_n dJ6_bitCount_0f7a4_34 0 rfl ?_
  refine jj_iload_n dJ6_bitCount_0f7a4_35 0 rfl ?_
  refine jj_bipush (8) dJ6_bitCount_0f7a4_36 rfl ?_
  refine jj_iushr dJ6_bitCount_0f7a4_38 ?_
  refine jj_iadd dJ6_bitCount_0f7a4_39 ?_
  refine jj_istore_n [(0, .int ((((((x0 - (((Int32.toUInt32 x0 >>> (Int32.toUInt32 1 &&& Int32.toUInt32 31)).toInt32) &&& 1431655765)) &&& 858993459) + (((Int32.toUInt32 (x0 - (((Int32.toUInt32 x0 >>> (Int32.toUInt32 1 &&& Int32.toUInt32 31)).toInt32) &&& 1431655765)) >>> (Int32.toUInt32 2 &&& Int32.toUInt32 31)).toInt32) &&& 858993459)) + ((Int32.toUInt32 (((x0 - (((Int32.toUInt32 x0 >>> (Int32.toUInt32 1 &&& Int32.toUInt32 31)).toInt32) &&& 1431655765)) &&& 858993459) + (((Int32.toUInt32 (x0 - (((Int32.toUInt32 x0 >>> (Int32.toUInt32 1 &&& Int32.toUInt32 31)).toInt32) &&& 1431655765)) >>> (Int32.toUInt32 2 &&& Int32.toUInt32 31)).toInt32) &&& 858993459)) >>> (Int32.toUInt32 4 &&& Int32.toUInt32 31)).toInt32)) &&& 252645135) + ((Int32.toUInt32 (((((x0 - (((Int32.toUInt32 x0 >>> (Int32.toUInt32 1 &&& Int32.toUInt32 31)).toInt32) &&& 1431655765)) &&& 858993459) + (((Int32.toUInt32 (x0 - (((Int32.toUInt32 x0 >>> (Int32.toUInt32 1 &&& Int32.toUInt32 31)).toInt32) &&& 1431655765)) >>> (Int32.toUInt32 2 &&& Int32.toUInt32 31)).toInt32) &&& 858993459)) + ((Int32.toUInt32 (((x0 - (((Int32.toUInt32 x0 >>> (Int32.toUInt32 1 &&& Int32.toUInt32 31)).toInt32) &&& 1431655765)) &&& 858993459) + (((Int32.toUInt32 (x0 - (((Int32.toUInt32 x0 >>> (Int32.toUInt32 1 &&& Int32.toUInt32 31)).toInt32) &&& 1431655765)) >>> (Int32.toUInt32 2 &&& Int32.toUInt32 31)).toInt32) &&& 858993459)) >>> (Int32.toUInt32 4 &&& Int32.toUInt32 31)).toInt32)) &&& 252645135) >>> (Int32.toUInt32 8 &&& Int32.toUInt32 31)).toInt32)))] dJ6_bitCount_0f7a4_40 (by decide) rfl ?_
  refine jj_iload_n dJ6_bitCount_0f7a4_41 0 rfl ?_
  refine jj_iload_n dJ6_bitCount_0f7a4_42 0 rfl ?_
  refine jj_bipush (16) dJ6_bitCount_0f7a4_43 rfl ?_
  refine jj_iushr dJ6_bitCount_0f7a4_45 ?_
  refine jj_iadd dJ6_bitCount_0f7a4_46 ?_
  refine jj_istore_n [(0, .int (((((((x0 - (((Int32.toUInt32 x0 >>> (Int32.toUInt32 1 &&& Int32.toUInt32 31)).toInt32) &&& 1431655765)) &&& 858993459) + (((Int32.toUInt32 (x0 - (((Int32.toUInt32 x0 >>> (Int32.toUInt32 1 &&& Int32.toUInt32 31)).toInt32) &&& 1431655765)) >>> (Int32.toUInt32 2 &&& Int32.toUInt32 31)).toInt32) &&& 858993459)) + ((Int32.toUInt32 (((x0 - (((Int32.toUInt32 x0 >>> (Int32.toUInt32 1 &&& Int32.toUInt32 31)).toInt32) &&& 1431655765)) &&& 858993459) + (((Int32.toUInt32 (x0 - (((Int32.toUInt32 x0 >>> (Int32.toUInt32 1 &&& Int32.toUInt32 31)).toInt32) &&& 1431655765)) >>> (Int32.toUInt32 2 &&& Int32.toUInt32 31)).toInt32) &&& 858993459)) >>> (Int32.toUInt32 4 &&& Int32.toUInt32 31)).toInt32)) &&& 252645135) + ((Int32.toUInt32 (((((x0 - (((Int32.toUInt32 x0 >>> (Int32.toUInt32 1 &&& Int32.toUInt32 31)).toInt32) &&& 1431655765)) &&& 858993459) + (((Int32.toUInt32 (x0 - (((Int32.toUInt32 x0 >>> (Int32.toUInt32 1 &&& Int32.toUInt32 31)).toInt32) &&& 1431655765)) >>> (Int32.toUInt32 2 &&& Int32.toUInt32 31)).toInt32) &&& 858993459)) + ((Int32.toUInt32 (((x0 - (((Int32.toUInt32 x0 >>> (Int32.toUInt32 1 &&& Int32.toUInt32 31)).toInt32) &&& 1431655765)) &&& 858993459) + (((Int32.toUInt32 (x0 - (((Int32.toUInt32 x0 >>> (Int32.toUInt32 1 &&& Int32.toUInt32 31)).toInt32) &&& 1431655765)) >>> (Int32.toUInt32 2 &&& Int32.toUInt32 31)).toInt32) &&& 858993459)) >>> (Int32.toUInt32 4 &&& Int32.toUInt32 31)).toInt32)) &&& 252645135) >>> (Int32.toUInt32 8 &&& Int32.toUInt32 31)).toInt32)) + ((Int32.toUInt32 ((((((x0 - (((Int32.toUInt32 x0 >>> (Int32.toUInt32 1 &&& Int32.toUInt32 31)).toInt32) &&& 1431655765)) &&& 858993459) + (((Int32.toUInt32 (x0 - (((Int32.toUInt32 x0 >>> (Int32.toUInt32 1 &&& Int32.toUInt32 31)).toInt32) &&& 1431655765)) >>> (Int32.toUInt32 2 &&& Int32.toUInt32 31)).toInt32) &&& 858993459)) + ((Int32.toUInt32 (((x0 - (((Int32.toUInt32 x0 >>> (Int32.toUInt32 1 &&& Int32.toUInt32 31)).toInt32) &&& 1431655765)) &&& 858993459) + (((Int32.toUInt32 (x0 - (((Int32.toUInt32 x0 >>> (Int32.toUInt32 1 &&& Int32.toUInt32 31)).toInt32) &&& 1431655765)) >>> (Int32.toUInt32 2 &&& Int32.toUInt32 31)).toInt32) &&& 858993459)) >>> (Int32.toUInt32 4 &&& Int32.toUInt32 31)).toInt32)) &&& 252645135) + ((Int32.toUInt32 (((((x0 - (((Int32.toUInt32 x0 >>> (Int32.toUInt32 1 &&& Int32.toUInt32 31)).toInt32) &&& 1431655765)) &&& 858993459) + (((Int32.toUInt32 (x0 - (((Int32.toUInt32 x0 >>> (Int32.toUInt32 1 &&& Int32.toUInt32 31)).toInt32) &&& 1431655765)) >>> (Int32.toUInt32 2 &&& Int32.toUInt32 31)).toInt32) &&& 858993459)) + ((Int32.toUInt32 (((x0 - (((Int32.toUInt32 x0 >>> (Int32.toUInt32 1 &&& Int32.toUInt32 31)).toInt32) &&& 1431655765)) &&& 858993459) + (((Int32.toUInt32 (x0 - (((Int32.toUInt32 x0 >>> (Int32.toUInt32 1 &&& Int32.toUInt32 31)).toInt32) &&& 1431655765)) >>> (Int32.toUInt32 2 &&& Int32.toUInt32 31)).toInt32) &&& 858993459)) >>> (Int32.toUInt32 4 &&& Int32.toUInt32 31)).toInt32)) &&& 252645135) >>> (Int32.toUInt32 8 &&& Int32.toUInt32 31)).toInt32)) >>> (Int32.toUInt32 16 &&& Int32.toUInt32 31)).toInt32)))] dJ6_bitCount_0f7a4_47 (by decide) rfl ?_
  refine jj_iload_n dJ6_bitCount_0f7a4_48 0 rfl ?_
  refine jj_bipush (63) dJ6_bitCount_0f7a4_49 rfl ?_
  refine jj_iand dJ6_bitCount_0f7a4_51 ?_
  exact jj_iret1 hF dJ6_bitCount_0f7a4_52 h
def wof_pairsOfOneName_L4 (N : Nat)  (p0 : Nat) (μ : jj_M) : Nat → Int32 → Int32 → Option (Int32)
  | 0, _, _ => none
  | n + 1, x1, x2 => if 8 ≤ x2 then some x1 else (wof_namedBy N p0 x2 μ).bind fun q2 => wof_pairsOfOneName_L4 N p0 μ n (x1 + (((jdf_bitCount q2) * ((jdf_bitCount q2) - 1)) / 2)) (x2 + 1)
set_option maxRecDepth 100000 in
theorem t_wof_pairsOfOneName_L4 {g : jj_G} (d : Nat) {N : Nat}  {p0 : Nat} {μ : jj_M}  {r : Int32} {X : jj_X}  (hp0 : jj_kd p0 = 6) (hF : jj_F g (some .int) (some (.int r)) μ X)  : ∀ (n : Nat) (x1 : Int32) (x2 : Int32), wof_pairsOfOneName_L4 N p0 μ n x1 x2 = some r → jj_V g X RX6 cX6_pairsOfOneName 4 (d + 1) 4 [(0, .ref (jj_ad g p0)), (1, .int x1), (2, .int x2)] [] μ := by
  intro n
  induction n with
  | zero =>
    intro x1 x2 h
    exact (jj_no h).elim
  | succ n ih =>
    intro x1 x2 h
    rw [wof_pairsOfOneName_L4] at h
    refine jj_iload_n dX6_pairsOfOneName_4 2 rfl ?_
    refine jj_bipush (8) dX6_pairsOfOneName_5 rfl ?_
    refine jj_icmp_ge 35 dX6_pairsOfOneName_7 (by decide) (fun c1 => ?_) (fun c1 => ?_)
    · replace h := (if_pos c1).symm.trans h
      refine jj_iload_n dX6_pairsOfOneName_35 1 rfl ?_
      exact jj_iret1 hF dX6_pairsOfOneName_36 (Option.some.inj h)
    · replace h := (if_neg c1).symm.trans h
      refine jj_aload_n dX6_pairsOfOneName_10 0 rfl ?_
      refine jj_iload_n dX6_pairsOfOneName_11 2 rfl ?_
      obtain ⟨q2, e2, h⟩ := jj_be h
      refine jj_callVi [.int x2] [] (c_wof_namedBy (d + 0) hp0 e2) jm_wof_namedBy lk_6_110 (b := p0) hp0 (by decide) (jj_E6 hp0) rfl rfl rfl (by omega) rfl (Nat.le_of_ble_eq_true rfl) dX6_pairsOfOneName_12 ?_
      refine jj_callSi [.int q2] [] (c_jdf_bitCount (d + 0)  rfl) jm_jdf_bitCount lk_6_114 rfl (by omega) rfl (Nat.le_of_ble_eq_true rfl) dX6_pairsOfOneName_15 ?_
      refine jj_istore_n [(3, .int (jdf_bitCount q2)), (0, .ref (jj_ad g p0)), (1, .int x1), (2, .int x2)] dX6_pairsOfOneName_18 (by decide) rfl ?_
      refine jj_iload_n dX6_pairsOfOneName_19 2 rfl ?_
      refine jj_iload_n dX6_pairsOfOneName_20 0 rfl ?_
      refine jj_iload_n dX6_pairsOfOneName_21 0 rfl ?_
      refine jj_iconst (1) dX6_pairsOfOneName_22 rfl ?_
      refine jj_isub dX6_pairsOfOneName_23 ?_
      refine jj_imul dX6_pairsOfOneName_24 ?_
      refine jj_iconst (2) dX6_pairsOfOneName_25 rfl ?_
      refine jj_idiv dX6_pairsOfOneName_26 (by decide) ?_
      refine jj_iadd dX6_pairsOfOneName_27 ?_
      refine jj_istore_n [(1, .int (x1 + (((jdf_bitCount q2) * ((jdf_bitCount q2) - 1)) / 2))), (3, .int (jdf_bitCount q2)), (0, .ref (jj_ad g p0)), (2, .int x2)] dX6_pairsOfOneName_28 (by decide) rfl ?_
      refine jj_iinc (x2 + 1) [(2, .int (x2 + 1)), (1, .int (x1 + (((jdf_bitCount q2) * ((jdf_bitCount q2) - 1)) / 2))), (3, .int (jdf_bitCount q2)), (0, .ref (jj_ad g p0))] dX6_pairsOfOneName_29 3 rfl rfl (by decide) rfl ?_
      refine jj_goto 4 dX6_pairsOfOneName_32 (by decide) ?_
      refine jj_sub [3, 1, 0] rfl ?_
      exact ih _ _ h
def wof_pairsOfOneName (N : Nat) (p0 : Nat) (μ : jj_M) : Option (Int32) := wof_pairsOfOneName_L4 N p0 μ N 0 0
set_option maxRecDepth 100000 in
theorem c_wof_pairsOfOneName {g : jj_G} (d : Nat) {N : Nat} {p0 : Nat} {μ : jj_M} {r : Int32}  (hp0 : jj_kd p0 = 6) (h : wof_pairsOfOneName N p0 μ = some r) : jj_N g yX6_pairsOfOneName cX6_pairsOfOneName 4 (some .int) (d + 1) [.ref (jj_ad g p0)] μ (some (.int r)) μ := by
  refine jj_N_of jn_6 (Nat.le_of_ble_eq_true rfl) (fun X hF => ?_)
  unfold wof_pairsOfOneName at h
  refine jj_sub (own := RX6) (lv2 := [(0, .ref (jj_ad g p0))]) [0] rfl ?_
  refine jj_iconst (0) dX6_pairsOfOneName_0 rfl ?_
  refine jj_istore_n [(1, .int 0), (0, .ref (jj_ad g p0))] dX6_pairsOfOneName_1 (by decide) rfl ?_
  refine jj_iconst (0) dX6_pairsOfOneName_2 rfl ?_
  refine jj_istore_n [(2, .int 0), (1, .int 0), (0, .ref (jj_ad g p0))] dX6_pairsOfOneName_3 (by decide) rfl ?_
  refine jj_sub [2, 1, 0] rfl ?_
  exact t_wof_pairsOfOneName_L4 d  hp0 hF  _ _ _ h
def wnf_same (N : Nat)  (μ : jj_M) : Option (Int32) := (wof_pairsOfOneName N 1 μ).bind fun q1 => some q1
set_option maxRecDepth 100000 in
theorem c_wnf_same {g : jj_G} (d : Nat) {N : Nat}  {μ : jj_M} {r : Int32}   (h : wnf_same N μ = some r) : jj_N g yX7_same cX7_same 1 (some .int) (d + 2) [.ref (jj_ad g 0)] μ (some (.int r)) μ := by
  refine jj_N_of jn_7 (Nat.le_of_ble_eq_true rfl) (fun X hF => ?_)
  unfold wnf_same at h
  refine jj_sub (own := RX7) (lv2 := [(0, .ref (jj_ad g 0))]) [0] rfl ?_
  refine jj_aload_n dX7_same_0 0 rfl ?_
  refine jg_7_0 (k := 0) rfl lk_7_10 dX7_same_1 ?_
  show jj_V g X _ _ _ _ _ _ (.ref (jj_ad g 1) :: _) _
  obtain ⟨q1, e1, h⟩ := jj_be h
  refine jj_callVi [] [] (c_wof_pairsOfOneName (d + 0) rfl e1) jm_wof_pairsOfOneName lk_7_192 (b := 1) rfl (by decide) (jj_E6 rfl) rfl rfl rfl (by omega) rfl (Nat.le_of_ble_eq_true rfl) dX7_same_4 ?_
  exact jj_iret1 hF dX7_same_7 (Option.some.inj h)
def wnf_areWells  (x0 : Int32)  : Int32 := wnf_within x0 0 255
theorem z_wnf_areWells (x0 : Int32)  : wnf_areWells x0 = 0 ∨ wnf_areWells x0 = 1 := by
  unfold wnf_areWells
  first | (first | exact Or.inl rfl | exact Or.inr rfl | apply z_wnf_within) | ((repeat' split) <;> first | exact Or.inl rfl | exact Or.inr rfl | apply z_wnf_within)
set_option maxRecDepth 100000 in
theorem c_wnf_areWells {g : jj_G} (d : Nat)  {x0 : Int32} {μ : jj_M} {r : Int32}   (h : wnf_areWells x0 = r) : jj_N g yX7_areWells cX7_areWells 1 (some .boolean) (d + 1) [.int x0] μ (some (.int r)) μ := by
  refine jj_N_of jn_7 (Nat.le_of_ble_eq_true rfl) (fun X hF => ?_)
  unfold wnf_areWells at h
  refine jj_sub (own := RX7) (lv2 := [(0, .int x0)]) [0] rfl ?_
  refine jj_iload_n dX7_areWells_0 0 rfl ?_
  refine jj_iconst (0) dX7_areWells_1 rfl ?_
  refine jj_sipush (255) dX7_areWells_2 rfl ?_
  refine jj_callSi [.int x0, .int 0, .int 255] [] (c_wnf_within (d + 0)  rfl) jm_wnf_within lk_7_55 rfl (by omega) rfl (Nat.le_of_ble_eq_true rfl) dX7_areWells_5 ?_
  exact jj_zret1 hF dX7_areWells_8 (z_wnf_within _ _ _) h
def wyf_lookAtRoads   (μ : jj_M) : Option (jj_M) := if jj_cg 0 0 64 64 64 then (some (jj_uc μ 72 (va_cpy (μ 3) (μ 72) (Int32.toNatClampNeg 0) (Int32.toNatClampNeg 0) (Int32.toNatClampNeg 64)))).bind fun m2 => some m2 else none
set_option maxRecDepth 100000 in
theorem c_wyf_lookAtRoads {g : jj_G} (d : Nat)   {μ : jj_M} {μ' : jj_M}   (h : wyf_lookAtRoads μ = some μ') : jj_N g yX5_lookAtRoads cX5_lookAtRoads 2 none (d + 1) [.ref (jj_ad g 41), .ref (jj_ad g 1)] μ none μ' := by
  refine jj_N_of jn_5 (Nat.le_of_ble_eq_true rfl) (fun X hF => ?_)
  unfold wyf_lookAtRoads at h
  refine jj_sub (own := RX5) (lv2 := [(0, .ref (jj_ad g 41)), (1, .ref (jj_ad g 1))]) [0, 1] rfl ?_
  refine jj_aload_n dX5_lookAtRoads_0 1 rfl ?_
  refine jg_6_1 (k := 1) rfl lk_5_123 dX5_lookAtRoads_1 ?_
  show jj_V g X _ _ _ _ _ _ (.ref (jj_ad g 3) :: _) _
  refine jj_iconst (0) dX5_lookAtRoads_4 rfl ?_
  refine jj_aload_n dX5_lookAtRoads_5 0 rfl ?_
  refine jg_5_3 (k := 41) rfl lk_5_9 dX5_lookAtRoads_6 ?_
  refine jj_iconst (0) dX5_lookAtRoads_9 rfl ?_
  refine jj_bipush (64) dX5_lookAtRoads_10 rfl ?_
  obtain ⟨g1, h⟩ := jj_ge h
  refine jj_copy (k0 := 3) (k1 := 72) (n0 := 64) (n1 := 64) rfl rfl g1 (by omega) (Nat.le_of_ble_eq_true rfl) lk_5_84 dX5_lookAtRoads_12 ?_
  obtain ⟨m2, em2, h⟩ := jj_be h
  refine jj_mu em2 ?_
  exact jj_vret1 hF dX5_lookAtRoads_15 (Option.some.inj h)
def jdf_fill_L5 (N : Nat)  (p0 : Nat) (n0 : Nat) (x1 : Int32) (x3 : Int32) : Nat → Int32 → jj_M → Option (jj_M)
  | 0, _, _ => none
  | n + 1, x2, μ => if x3 ≤ x2 then some μ else if jj_i x2 n0 then jdf_fill_L5 N p0 n0 x1 x3 n (x2 + 1) (jj_u μ p0 x2.toNatClampNeg x1) else none
set_option maxRecDepth 100000 in
theorem t_jdf_fill_L5 {g : jj_G} (d : Nat) {N : Nat}  {p0 : Nat} {n0 : Nat} {x1 : Int32} {x3 : Int32}  {μ' : jj_M} {X : jj_X}  (hp0 : jj_kd p0 = n0 + 100) (hF : jj_F g none none μ' X)  : ∀ (n : Nat) (x2 : Int32) (μ : jj_M), jdf_fill_L5 N p0 n0 x1 x3 n x2 μ = some μ' → jj_V g X RJ7 cJ7_fill_53178 4 (d + 0) 5 [(0, .ref (jj_ad g p0)), (1, .int x1), (2, .int x2), (3, .int x3)] [] μ := by
  intro n
  induction n with
  | zero =>
    intro x2 μ h
    exact (jj_no h).elim
  | succ n ih =>
    intro x2 μ h
    rw [jdf_fill_L5] at h
    refine jj_iload_n dJ7_fill_53178_5 2 rfl ?_
    refine jj_iload_n dJ7_fill_53178_6 3 rfl ?_
    refine jj_icmp_ge 20 dJ7_fill_53178_7 (by decide) (fun c1 => ?_) (fun c1 => ?_)
    · replace h := (if_pos c1).symm.trans h
      exact jj_vret1 hF dJ7_fill_53178_20 (Option.some.inj h)
    · replace h := (if_neg c1).symm.trans h
      refine jj_aload_n dJ7_fill_53178_10 0 rfl ?_
      refine jj_iload_n dJ7_fill_53178_11 2 rfl ?_
      refine jj_iload_n dJ7_fill_53178_12 1 rfl ?_
      obtain ⟨g2, h⟩ := jj_ge h
      refine jj_iastore (k := p0) (n := n0) hp0 g2 dJ7_fill_53178_13 ?_
      refine jj_iinc (x2 + 1) [(2, .int (x2 + 1)), (0, .ref (jj_ad g p0)), (1, .int x1), (3, .int x3)] dJ7_fill_53178_14 2 rfl rfl (by decide) rfl ?_
      refine jj_goto 5 dJ7_fill_53178_17 (by decide) ?_
      refine jj_sub [1, 2, 0, 3] rfl ?_
      exact ih _ _ h
def jdf_fill (N : Nat) (p0 : Nat) (n0 : Nat) (x1 : Int32) (μ : jj_M) : Option (jj_M) := jdf_fill_L5 N p0 n0 x1 (Int32.ofNat n0) N 0 μ
set_option maxRecDepth 100000 in
theorem c_jdf_fill {g : jj_G} (d : Nat) {N : Nat} {p0 : Nat} {n0 : Nat} {x1 : Int32} {μ : jj_M} {μ' : jj_M}  (hp0 : jj_kd p0 = n0 + 100) (h : jdf_fill N p0 n0 x1 μ = some μ') : jj_N g yJ7_fill_53178 cJ7_fill_53178 4 none (d + 0) [.ref (jj_ad g p0), .int x1] μ none μ' := by
  refine jj_N_of jn_J7 (Nat.le_of_ble_eq_true rfl) (fun X hF => ?_)
  unfold jdf_fill at h
  refine jj_sub (own := RJ7) (lv2 := [(0, .ref (jj_ad g p0)), (1, .int x1)]) [0, 1] rfl ?_
  refine jj_iconst (0) dJ7_fill_53178_0 rfl ?_
  refine jj_istore_n [(2, .int 0), (0, .ref (jj_ad g p0)), (1, .int x1)] dJ7_fill_53178_1 (by decide) rfl ?_
  refine jj_aload_n dJ7_fill_53178_2 1 rfl ?_
  refine jj_alen (k := p0) (n := n0) hp0 (Int32.ofNat n0) rfl dJ7_fill_53178_3 ?_
  refine jj_istore_n [(3, .int (Int32.ofNat n0)), (2, .int 0), (0, .ref (jj_ad g p0)), (1, .int x1)] dJ7_fill_53178_4 (by decide) rfl ?_
  refine jj_sub [2, 3, 1, 0] rfl ?_
  exact t_jdf_fill_L5 d  hp0 hF  _ _ _ h
def wyf_startAgain (N : Nat) (p1 : Nat) (x2 : Int32) (μ : jj_M) : Option (jj_M) := (jdf_fill N 43 8 1000000 (jj_u μ 41 0 ((μ 41 2) &&& (x2 ^^^ (-1))))).bind fun q1 => if jj_i (q1 p1 2) 8 then some (jj_u q1 43 (q1 p1 2).toNatClampNeg (q1 p1 4)) else none
set_option maxRecDepth 100000 in
theorem c_wyf_startAgain {g : jj_G} (d : Nat) {N : Nat} {p1 : Nat} {x2 : Int32} {μ : jj_M} {μ' : jj_M}  (hp1 : jj_kd p1 = 1) (h : wyf_startAgain N p1 x2 μ = some μ') : jj_N g yX5_startAgain cX5_startAgain 3 none (d + 1) [.ref (jj_ad g 41), .ref (jj_ad g p1), .int x2] μ none μ' := by
  refine jj_N_of jn_5 (Nat.le_of_ble_eq_true rfl) (fun X hF => ?_)
  unfold wyf_startAgain at h
  refine jj_sub (own := RX5) (lv2 := [(0, .ref (jj_ad g 41)), (1, .ref (jj_ad g p1)), (2, .int x2)]) [0, 1, 2] rfl ?_
  refine jj_aload_n dX5_startAgain_0 0 rfl ?_
  refine jj_aload_n dX5_startAgain_1 0 rfl ?_
  refine jg_5_2 (k := 41) rfl lk_5_46 dX5_startAgain_2 ?_
  refine jj_iload_n dX5_startAgain_5 2 rfl ?_
  refine jj_iconst (-1) dX5_startAgain_6 rfl ?_
  refine jj_ixor dX5_startAgain_7 ?_
  refine jj_iand dX5_startAgain_8 ?_
  refine jp_5_0 (k := 41) rfl lk_5_56 dX5_startAgain_9 ?_
  refine jj_aload_n dX5_startAgain_12 0 rfl ?_
  refine jg_5_5 (k := 41) rfl lk_5_18 dX5_startAgain_13 ?_
  show jj_V g X _ _ _ _ _ _ (.ref (jj_ad g 43) :: _) _
  refine jj_ldc (1000000) lk_5_59 dX5_startAgain_16 ?_
  obtain ⟨q1, e1, h⟩ := jj_be h
  refine jj_callSv [.ref (jj_ad g 43), .int 1000000] [] (c_jdf_fill (d + 0) rfl e1) jm_jdf_fill lk_5_60 rfl (by omega) rfl (Nat.le_of_ble_eq_true rfl) dX5_startAgain_18 ?_
  refine jj_aload_n dX5_startAgain_21 0 rfl ?_
  refine jg_5_5 (k := 41) rfl lk_5_18 dX5_startAgain_22 ?_
  show jj_V g X _ _ _ _ _ _ (.ref (jj_ad g 43) :: _) _
  refine jj_aload_n dX5_startAgain_25 1 rfl ?_
  refine jg_1_2 (k := p1) hp1 lk_5_66 dX5_startAgain_26 ?_
  refine jj_aload_n dX5_startAgain_29 1 rfl ?_
  refine jg_1_4 (k := p1) hp1 lk_5_69 dX5_startAgain_30 ?_
  obtain ⟨g2, h⟩ := jj_ge h
  refine jj_iastore (k := 43) (n := 8) rfl g2 dX5_startAgain_33 ?_
  exact jj_vret1 hF dX5_startAgain_34 (Option.some.inj h)
def wyf_think_L59 (N : Nat)  (p2 : Nat) (x3 : Int32) (x4 : Int32) : Nat → Int32 → jj_M → Option (jj_M)
  | 0, _, _ => none
  | n + 1, x5, μ => if 8 ≤ x5 then (wyf_startAgain N p2 x3 μ).bind fun q2 => some q2 else if jj_i x5 8 then if (μ 2 x5.toNatClampNeg) < x4 then wyf_think_L59 N p2 x3 x4 n (x5 + 1) μ else wyf_think_L59 N p2 x3 x4 n (x5 + 1) (jj_u μ 41 2 ((μ 41 2) ||| (1 <<< (x5 &&& 31)))) else none
set_option maxRecDepth 100000 in
theorem t_wyf_think_L59 {g : jj_G} (d : Nat) {N : Nat}  {p2 : Nat} {x3 : Int32} {x4 : Int32}  {μ' : jj_M} {X : jj_X}  (hp2 : jj_kd p2 = 1) (hF : jj_F g none none μ' X)  : ∀ (n : Nat) (x5 : Int32) (μ : jj_M), wyf_think_L59 N p2 x3 x4 n x5 μ = some μ' → jj_V g X RX5 cX5_think 6 (d + 4) 59 [(0, .ref (jj_ad g 41)), (1, .ref (jj_ad g 1)), (2, .ref (jj_ad g p2)), (3, .int x3), (4, .int x4), (5, .int x5)] [] μ := by
  intro n
  induction n with
  | zero =>
    intro x5 μ h
    exact (jj_no h).elim
  | succ n ih =>
    intro x5 μ h
    rw [wyf_think_L59] at h
    refine jj_iload dX5_think_59 5 rfl ?_
    refine jj_bipush (8) dX5_think_61 rfl ?_
    refine jj_icmp_ge 97 dX5_think_63 (by decide) (fun c1 => ?_) (fun c1 => ?_)
    · replace h := (if_pos c1).symm.trans h
      refine jj_aload_n dX5_think_97 0 rfl ?_
      refine jj_aload_n dX5_think_98 2 rfl ?_
      refine jj_iload_n dX5_think_99 3 rfl ?_
      obtain ⟨q2, e2, h⟩ := jj_be h
      refine jj_callVv [.ref (jj_ad g p2), .int x3] [] (c_wyf_startAgain (d + 2) hp2 e2) jm_wyf_startAgain lk_5_52 (b := 41) rfl (by decide) (jj_E5 rfl) rfl rfl rfl (by omega) rfl (Nat.le_of_ble_eq_true rfl) dX5_think_100 ?_
      exact jj_vret1 hF dX5_think_103 (Option.some.inj h)
    · replace h := (if_neg c1).symm.trans h
      refine jj_aload_n dX5_think_66 1 rfl ?_
      refine jg_6_0 (k := 1) rfl lk_5_49 dX5_think_67 ?_
      show jj_V g X _ _ _ _ _ _ (.ref (jj_ad g 2) :: _) _
      refine jj_iload dX5_think_70 5 rfl ?_
      obtain ⟨g3, h⟩ := jj_ge h
      refine jj_iaload (k := 2) (n := 8) rfl g3 dX5_think_72 ?_
      refine jj_iload dX5_think_73 4 rfl ?_
      refine jj_icmp_lt 91 dX5_think_75 (by decide) (fun c4 => ?_) (fun c4 => ?_)
      · replace h := (if_pos c4).symm.trans h
        refine jj_iinc (x5 + 1) [(5, .int (x5 + 1)), (0, .ref (jj_ad g 41)), (1, .ref (jj_ad g 1)), (2, .ref (jj_ad g p2)), (3, .int x3), (4, .int x4)] dX5_think_91 5 rfl rfl (by decide) rfl ?_
        refine jj_goto 59 dX5_think_94 (by decide) ?_
        refine jj_sub [1, 2, 3, 4, 5, 0] rfl ?_
        exact ih _ _ h
      · replace h := (if_neg c4).symm.trans h
        refine jj_aload_n dX5_think_78 0 rfl ?_
        refine jj_dup dX5_think_79 rfl ?_
        refine jg_5_2 (k := 41) rfl lk_5_46 dX5_think_80 ?_
        refine jj_iconst (1) dX5_think_83 rfl ?_
        refine jj_iload dX5_think_84 5 rfl ?_
        refine jj_ishl dX5_think_86 ?_
        refine jj_ior dX5_think_87 ?_
        refine jp_5_2 (k := 41) rfl lk_5_46 dX5_think_88 ?_
        refine jj_iinc (x5 + 1) [(5, .int (x5 + 1)), (0, .ref (jj_ad g 41)), (1, .ref (jj_ad g 1)), (2, .ref (jj_ad g p2)), (3, .int x3), (4, .int x4)] dX5_think_91 5 rfl rfl (by decide) rfl ?_
        refine jj_goto 59 dX5_think_94 (by decide) ?_
        refine jj_sub [1, 2, 3, 4, 5, 0] rfl ?_
        exact ih _ _ h
def wyf_think_L16 (N : Nat)  (p2 : Nat) (x3 : Int32) : Nat → Int32 → jj_M → Option (jj_M)
  | 0, _, _ => none
  | n + 1, x4, μ => if 20 < x4 then (wof_needs N 1 p2 0 μ).bind fun q2 => wyf_think_L59 N p2 x3 q2.1 N 0 (jj_u q2.2 41 2 0) else (wof_parched N 1 p2 x4 μ).bind fun q3 => if jj_i x4 21 then wyf_think_L16 N p2 x3 n (x4 + 1) (jj_u q3.2 42 x4.toNatClampNeg q3.1) else none
set_option maxRecDepth 100000 in
theorem t_wyf_think_L16 {g : jj_G} (d : Nat) {N : Nat}  {p2 : Nat} {x3 : Int32}  {μ' : jj_M} {X : jj_X}  (hp2 : jj_kd p2 = 1) (hF : jj_F g none none μ' X)  : ∀ (n : Nat) (x4 : Int32) (μ : jj_M), wyf_think_L16 N p2 x3 n x4 μ = some μ' → jj_V g X RX5 cX5_think 6 (d + 4) 16 [(0, .ref (jj_ad g 41)), (1, .ref (jj_ad g 1)), (2, .ref (jj_ad g p2)), (3, .int x3), (4, .int x4)] [] μ := by
  intro n
  induction n with
  | zero =>
    intro x4 μ h
    exact (jj_no h).elim
  | succ n ih =>
    intro x4 μ h
    rw [wyf_think_L16] at h
    refine jj_iload dX5_think_16 4 rfl ?_
    refine jj_bipush (20) dX5_think_18 rfl ?_
    refine jj_icmp_gt 43 dX5_think_20 (by decide) (fun c1 => ?_) (fun c1 => ?_)
    · replace h := (if_pos c1).symm.trans h
      refine jj_aload_n dX5_think_43 1 rfl ?_
      refine jj_aload_n dX5_think_44 2 rfl ?_
      refine jj_iconst (0) dX5_think_45 rfl ?_
      obtain ⟨q2, e2, h⟩ := jj_be h
      refine jj_callVi [.ref (jj_ad g p2), .int 0] [] (c_wof_needs (d + 0) rfl hp2 e2) jm_wof_needs lk_5_43 (b := 1) rfl (by decide) (jj_E6 rfl) rfl rfl rfl (by omega) rfl (Nat.le_of_ble_eq_true rfl) dX5_think_46 ?_
      refine jj_istore [(4, .int q2.1), (0, .ref (jj_ad g 41)), (1, .ref (jj_ad g 1)), (2, .ref (jj_ad g p2)), (3, .int x3)] dX5_think_49 (by decide) rfl ?_
      refine jj_aload_n dX5_think_51 1 rfl ?_
      refine jj_iconst (0) dX5_think_52 rfl ?_
      refine jp_5_2 (k := 41) rfl lk_5_46 dX5_think_53 ?_
      refine jj_iconst (0) dX5_think_56 rfl ?_
      refine jj_istore [(5, .int 0), (4, .int q2.1), (0, .ref (jj_ad g 41)), (1, .ref (jj_ad g 1)), (2, .ref (jj_ad g p2)), (3, .int x3)] dX5_think_57 (by decide) rfl ?_
      refine jj_sub [2, 3, 4, 5, 1, 0] rfl ?_
      exact t_wyf_think_L59 d  hp2 hF  _ _ _ h
    · replace h := (if_neg c1).symm.trans h
      refine jj_aload_n dX5_think_23 0 rfl ?_
      refine jg_5_4 (k := 41) rfl lk_5_15 dX5_think_24 ?_
      show jj_V g X _ _ _ _ _ _ (.ref (jj_ad g 42) :: _) _
      refine jj_iload dX5_think_27 4 rfl ?_
      refine jj_aload_n dX5_think_29 1 rfl ?_
      refine jj_aload_n dX5_think_30 2 rfl ?_
      refine jj_iload dX5_think_31 4 rfl ?_
      obtain ⟨q3, e3, h⟩ := jj_be h
      refine jj_callVi [.ref (jj_ad g p2), .int x4] [.int x4, .ref (jj_ad g 42)] (c_wof_parched (d + 0) rfl hp2 e3) jm_wof_parched lk_5_37 (b := 1) rfl (by decide) (jj_E6 rfl) rfl rfl rfl (by omega) rfl (Nat.le_of_ble_eq_true rfl) dX5_think_33 ?_
      obtain ⟨g4, h⟩ := jj_ge h
      refine jj_iastore (k := 42) (n := 21) rfl g4 dX5_think_36 ?_
      refine jj_iinc (x4 + 1) [(4, .int (x4 + 1)), (0, .ref (jj_ad g 41)), (1, .ref (jj_ad g 1)), (2, .ref (jj_ad g p2)), (3, .int x3)] dX5_think_37 4 rfl rfl (by decide) rfl ?_
      refine jj_goto 16 dX5_think_40 (by decide) ?_
      refine jj_sub [1, 2, 3, 4, 0] rfl ?_
      exact ih _ _ h
def wyf_think (N : Nat) (p2 : Nat) (x3 : Int32) (μ : jj_M) : Option (jj_M) := (wyf_lookAtRoads μ).bind fun q1 => wyf_think_L16 N p2 x3 N 1 (jj_u q1 41 1 (pef_limit p2 q1))
set_option maxRecDepth 100000 in
theorem c_wyf_think {g : jj_G} (d : Nat) {N : Nat} {p2 : Nat} {x3 : Int32} {μ : jj_M} {μ' : jj_M}  (hp2 : jj_kd p2 = 1) (h : wyf_think N p2 x3 μ = some μ') : jj_N g yX5_think cX5_think 6 none (d + 4) [.ref (jj_ad g 41), .ref (jj_ad g 1), .ref (jj_ad g p2), .int x3] μ none μ' := by
  refine jj_N_of jn_5 (Nat.le_of_ble_eq_true rfl) (fun X hF => ?_)
  unfold wyf_think at h
  refine jj_sub (own := RX5) (lv2 := [(0, .ref (jj_ad g 41)), (1, .ref (jj_ad g 1)), (2, .ref (jj_ad g p2)), (3, .int x3)]) [0, 1, 2, 3] rfl ?_
  refine jj_aload_n dX5_think_0 0 rfl ?_
  refine jj_aload_n dX5_think_1 1 rfl ?_
  obtain ⟨q1, e1, h⟩ := jj_be h
  refine jj_callVv [.ref (jj_ad g 1)] [] (c_wyf_lookAtRoads (d + 2)  e1) jm_wyf_lookAtRoads lk_5_24 (b := 41) rfl (by decide) (jj_E5 rfl) rfl rfl rfl (by omega) rfl (Nat.le_of_ble_eq_true rfl) dX5_think_2 ?_
  refine jj_aload_n dX5_think_5 0 rfl ?_
  refine jj_aload_n dX5_think_6 2 rfl ?_
  refine jj_callVi [] [.ref (jj_ad g 41)] (c_pef_limit (d + 3) hp2 rfl) jm_pef_limit lk_5_28 (b := p2) hp2 (by decide) (jj_E1 hp2) rfl rfl rfl (by omega) rfl (Nat.le_of_ble_eq_true rfl) dX5_think_7 ?_
  refine jp_5_1 (k := 41) rfl lk_5_34 dX5_think_10 ?_
  refine jj_iconst (1) dX5_think_13 rfl ?_
  refine jj_istore [(4, .int 1), (0, .ref (jj_ad g 41)), (1, .ref (jj_ad g 1)), (2, .ref (jj_ad g p2)), (3, .int x3)] dX5_think_14 (by decide) rfl ?_
  refine jj_sub [1, 2, 3, 4, 0] rfl ?_
  exact t_wyf_think_L16 d  hp2 hF  _ _ _ h
def wyf_isIn  (x0 : Int32) (x1 : Int32)  : Int32 := if ((x0 >>> (x1 &&& 31)) &&& 1) = 1 then 1 else 0
theorem z_wyf_isIn (x0 : Int32) (x1 : Int32)  : wyf_isIn x0 x1 = 0 ∨ wyf_isIn x0 x1 = 1 := by
  unfold wyf_isIn
  first | (first | exact Or.inl rfl | exact Or.inr rfl) | ((repeat' split) <;> first | exact Or.inl rfl | exact Or.inr rfl)
set_option maxRecDepth 100000 in
theorem c_wyf_isIn {g : jj_G} (d : Nat)  {x0 : Int32} {x1 : Int32} {μ : jj_M} {r : Int32}   (h : wyf_isIn x0 x1 = r) : jj_N g yX5_isIn cX5_isIn 2 (some .boolean) (d + 0) [.int x0, .int x1] μ (some (.int r)) μ := by
  refine jj_N_of jn_5 (Nat.le_of_ble_eq_true rfl) (fun X hF => ?_)
  unfold wyf_isIn at h
  refine jj_sub (own := RX5) (lv2 := [(0, .int x0), (1, .int x1)]) [0, 1] rfl ?_
  refine jj_iload_n dX5_isIn_0 0 rfl ?_
  refine jj_iload_n dX5_isIn_1 1 rfl ?_
  refine jj_ishr dX5_isIn_2 ?_
  refine jj_iconst (1) dX5_isIn_3 rfl ?_
  refine jj_iand dX5_isIn_4 ?_
  refine jj_iconst (1) dX5_isIn_5 rfl ?_
  refine jj_icmp_ne 13 dX5_isIn_6 (by decide) (fun c1 => ?_) (fun c1 => ?_)
  · replace h := (if_neg c1).symm.trans h
    refine jj_iconst (0) dX5_isIn_13 rfl ?_
    exact jj_zret1 hF dX5_isIn_14 (Or.inl rfl) h
  · replace h := (if_pos c1).symm.trans h
    refine jj_iconst (1) dX5_isIn_9 rfl ?_
    refine jj_goto 14 dX5_isIn_10 (by decide) ?_
    exact jj_zret1 hF dX5_isIn_14 (Or.inr rfl) h
def wyf_drinkWherePossible_L4 (N : Nat)   : Nat → Int32 → Int32 → jj_M → Option (Int32 × jj_M)
  | 0, _, _, _ => none
  | n + 1, x1, x2, μ => if 8 ≤ x2 then if x1 = 0 ∨ x1 = 1 then some ((x1, μ)) else none else if (wyf_isIn (μ 41 0) x2) = 0 then wyf_drinkWherePossible_L4 N n x1 (x2 + 1) μ else if jj_i x2 8 then if (μ 43 x2.toNatClampNeg) ≤ 0 then wyf_drinkWherePossible_L4 N n x1 (x2 + 1) μ else if jj_i x2 8 then if 1000000 ≤ (μ 43 x2.toNatClampNeg) then wyf_drinkWherePossible_L4 N n x1 (x2 + 1) μ else if jj_i x2 8 then wyf_drinkWherePossible_L4 N n 1 (x2 + 1) (jj_u μ 43 x2.toNatClampNeg 0) else none else none else none
set_option maxRecDepth 100000 in
theorem t_wyf_drinkWherePossible_L4 {g : jj_G} (d : Nat) {N : Nat}    {r : Int32} {μ' : jj_M} {X : jj_X}   (hF : jj_F g (some .boolean) (some (.int r)) μ' X)  : ∀ (n : Nat) (x1 : Int32) (x2 : Int32) (μ : jj_M), wyf_drinkWherePossible_L4 N n x1 x2 μ = some (r, μ') → jj_V g X RX5 cX5_drinkWherePossible 3 (d + 1) 4 [(0, .ref (jj_ad g 41)), (1, .int x1), (2, .int x2)] [] μ := by
  intro n
  induction n with
  | zero =>
    intro x1 x2 μ h
    exact (jj_no h).elim
  | succ n ih =>
    intro x1 x2 μ h
    rw [wyf_drinkWherePossible_L4] at h
    refine jj_iload_n dX5_drinkWherePossible_4 2 rfl ?_
    refine jj_bipush (8) dX5_drinkWherePossible_5 rfl ?_
    refine jj_icmp_ge 56 dX5_drinkWherePossible_7 (by decide) (fun c1 => ?_) (fun c1 => ?_)
    · replace h := (if_pos c1).symm.trans h
      refine jj_iload_n dX5_drinkWherePossible_56 1 rfl ?_
      obtain ⟨g2, h⟩ := jj_ge h
      exact jj_zret2 hF dX5_drinkWherePossible_57 g2 (Option.some.inj h)
    · replace h := (if_neg c1).symm.trans h
      refine jj_aload_n dX5_drinkWherePossible_10 0 rfl ?_
      refine jg_5_0 (k := 41) rfl lk_5_56 dX5_drinkWherePossible_11 ?_
      refine jj_iload_n dX5_drinkWherePossible_14 2 rfl ?_
      refine jj_callSi [.int (μ 41 0), .int x2] [] (c_wyf_isIn (d + 0)  rfl) jm_wyf_isIn lk_5_80 rfl (by omega) rfl (Nat.le_of_ble_eq_true rfl) dX5_drinkWherePossible_15 ?_
      refine jj_if_eq 50 dX5_drinkWherePossible_18 (by decide) (fun c3 => ?_) (fun c3 => ?_)
      · replace h := (if_pos c3).symm.trans h
        refine jj_iinc (x2 + 1) [(2, .int (x2 + 1)), (0, .ref (jj_ad g 41)), (1, .int x1)] dX5_drinkWherePossible_50 2 rfl rfl (by decide) rfl ?_
        refine jj_goto 4 dX5_drinkWherePossible_53 (by decide) ?_
        refine jj_sub [1, 2, 0] rfl ?_
        exact ih _ _ _ h
      · replace h := (if_neg c3).symm.trans h
        refine jj_aload_n dX5_drinkWherePossible_21 0 rfl ?_
        refine jg_5_5 (k := 41) rfl lk_5_18 dX5_drinkWherePossible_22 ?_
        show jj_V g X _ _ _ _ _ _ (.ref (jj_ad g 43) :: _) _
        refine jj_iload_n dX5_drinkWherePossible_25 2 rfl ?_
        obtain ⟨g4, h⟩ := jj_ge h
        refine jj_iaload (k := 43) (n := 8) rfl g4 dX5_drinkWherePossible_26 ?_
        refine jj_if_le 50 dX5_drinkWherePossible_27 (by decide) (fun c5 => ?_) (fun c5 => ?_)
        · replace h := (if_pos c5).symm.trans h
          refine jj_iinc (x2 + 1) [(2, .int (x2 + 1)), (0, .ref (jj_ad g 41)), (1, .int x1)] dX5_drinkWherePossible_50 2 rfl rfl (by decide) rfl ?_
          refine jj_goto 4 dX5_drinkWherePossible_53 (by decide) ?_
          refine jj_sub [1, 2, 0] rfl ?_
          exact ih _ _ _ h
        · replace h := (if_neg c5).symm.trans h
          refine jj_aload_n dX5_drinkWherePossible_30 0 rfl ?_
          refine jg_5_5 (k := 41) rfl lk_5_18 dX5_drinkWherePossible_31 ?_
          show jj_V g X _ _ _ _ _ _ (.ref (jj_ad g 43) :: _) _
          refine jj_iload_n dX5_drinkWherePossible_34 2 rfl ?_
          obtain ⟨g6, h⟩ := jj_ge h
          refine jj_iaload (k := 43) (n := 8) rfl g6 dX5_drinkWherePossible_35 ?_
          refine jj_ldc (1000000) lk_5_59 dX5_drinkWherePossible_36 ?_
          refine jj_icmp_ge 50 dX5_drinkWherePossible_38 (by decide) (fun c7 => ?_) (fun c7 => ?_)
          · replace h := (if_pos c7).symm.trans h
            refine jj_iinc (x2 + 1) [(2, .int (x2 + 1)), (0, .ref (jj_ad g 41)), (1, .int x1)] dX5_drinkWherePossible_50 2 rfl rfl (by decide) rfl ?_
            refine jj_goto 4 dX5_drinkWherePossible_53 (by decide) ?_
            refine jj_sub [1, 2, 0] rfl ?_
            exact ih _ _ _ h
          · replace h := (if_neg c7).symm.trans h
            refine jj_aload_n dX5_drinkWherePossible_41 0 rfl ?_
            refine jg_5_5 (k := 41) rfl lk_5_18 dX5_drinkWherePossible_42 ?_
            show jj_V g X _ _ _ _ _ _ (.ref (jj_ad g 43) :: _) _
            refine jj_iload_n dX5_drinkWherePossible_45 2 rfl ?_
            refine jj_iconst (0) dX5_drinkWherePossible_46 rfl ?_
            obtain ⟨g8, h⟩ := jj_ge h
            refine jj_iastore (k := 43) (n := 8) rfl g8 dX5_drinkWherePossible_47 ?_
            refine jj_iconst (1) dX5_drinkWherePossible_48 rfl ?_
            refine jj_istore_n [(1, .int 1), (0, .ref (jj_ad g 41)), (2, .int x2)] dX5_drinkWherePossible_49 (by decide) rfl ?_
            refine jj_iinc (x2 + 1) [(2, .int (x2 + 1)), (1, .int 1), (0, .ref (jj_ad g 41))] dX5_drinkWherePossible_50 2 rfl rfl (by decide) rfl ?_
            refine jj_goto 4 dX5_drinkWherePossible_53 (by decide) ?_
            refine jj_sub [2, 1, 0] rfl ?_
            exact ih _ _ _ h
def wyf_drinkWherePossible (N : Nat)  (μ : jj_M) : Option (Int32 × jj_M) := wyf_drinkWherePossible_L4 N N 0 0 μ
set_option maxRecDepth 100000 in
theorem c_wyf_drinkWherePossible {g : jj_G} (d : Nat) {N : Nat}  {μ : jj_M} {r : Int32} {μ' : jj_M}   (h : wyf_drinkWherePossible N μ = some (r, μ')) : jj_N g yX5_drinkWherePossible cX5_drinkWherePossible 3 (some .boolean) (d + 1) [.ref (jj_ad g 41)] μ (some (.int r)) μ' := by
  refine jj_N_of jn_5 (Nat.le_of_ble_eq_true rfl) (fun X hF => ?_)
  unfold wyf_drinkWherePossible at h
  refine jj_sub (own := RX5) (lv2 := [(0, .ref (jj_ad g 41))]) [0] rfl ?_
  refine jj_iconst (0) dX5_drinkWherePossible_0 rfl ?_
  refine jj_istore_n [(1, .int 0), (0, .ref (jj_ad g 41))] dX5_drinkWherePossible_1 (by decide) rfl ?_
  refine jj_iconst (0) dX5_drinkWherePossible_2 rfl ?_
  refine jj_istore_n [(2, .int 0), (1, .int 0), (0, .ref (jj_ad g 41))] dX5_drinkWherePossible_3 (by decide) rfl ?_
  refine jj_sub [2, 1, 0] rfl ?_
  exact t_wyf_drinkWherePossible_L4 d   hF  _ _ _ _ h
def wyf_spreadFrom_B78 (N : Nat) (k5 : Int32 → Int32 → jj_M → Option (Int32 × jj_M)) (x1 : Int32) (x2 : Int32) (x3 : Int32) (x4 : Int32) (sx0 : Int32) (μ : jj_M) : Option (Int32 × jj_M) := if jj_i x4 8 then if (μ 43 x4.toNatClampNeg) ≤ sx0 then k5 x3 (x4 + 1) μ else if jj_i x4 8 then k5 1 (x4 + 1) (jj_u μ 43 x4.toNatClampNeg sx0) else none else none
set_option maxRecDepth 100000 in
theorem t_wyf_spreadFrom_B78 {g : jj_G} (d : Nat) {N : Nat} {k5 : Int32 → Int32 → jj_M → Option (Int32 × jj_M)} {x1 : Int32} {x2 : Int32} {x3 : Int32} {x4 : Int32} {sx0 : Int32} {μ : jj_M}  {r : Int32} {μ' : jj_M} {X : jj_X}   (hF : jj_F g (some .boolean) (some (.int r)) μ' X) (hk5 : ∀ (x3 : Int32) (x4 : Int32) (μ : jj_M), k5 x3 x4 μ = some (r, μ') → jj_V g X RX5 cX5_spreadFrom 8 (d + 1) 5 [(0, .ref (jj_ad g 41)), (1, .int x1), (2, .int x2), (3, .int x3), (4, .int x4)] [] μ) (h : wyf_spreadFrom_B78 N k5 x1 x2 x3 x4 sx0 μ = some (r, μ')) : jj_V g X RX5 cX5_spreadFrom 8 (d + 1) 78 [(0, .ref (jj_ad g 41)), (1, .int x1), (2, .int x2), (3, .int x3), (4, .int x4)] [.int sx0] μ := by
  unfold wyf_spreadFrom_B78 at h
  refine jj_istore [(7, .int sx0), (0, .ref (jj_ad g 41)), (1, .int x1), (2, .int x2), (3, .int x3), (4, .int x4)] dX5_spreadFrom_78 (by decide) rfl ?_
  refine jj_iload dX5_spreadFrom_80 0 rfl ?_
  refine jj_aload_n dX5_spreadFrom_82 1 rfl ?_
  refine jg_5_5 (k := 41) rfl lk_5_18 dX5_spreadFrom_83 ?_
  show jj_V g X _ _ _ _ _ _ (.ref (jj_ad g 43) :: _) _
  refine jj_iload dX5_spreadFrom_86 5 rfl ?_
  obtain ⟨g1, h⟩ := jj_ge h
  refine jj_iaload (k := 43) (n := 8) rfl g1 dX5_spreadFrom_88 ?_
  refine jj_icmp_ge 103 dX5_spreadFrom_89 (by decide) (fun c2 => ?_) (fun c2 => ?_)
  · replace h := (if_pos c2).symm.trans h
    refine jj_iinc (x4 + 1) [(4, .int (x4 + 1)), (7, .int sx0), (0, .ref (jj_ad g 41)), (1, .int x1), (2, .int x2), (3, .int x3)] dX5_spreadFrom_103 5 rfl rfl (by decide) rfl ?_
    refine jj_goto 5 dX5_spreadFrom_106 (by decide) ?_
    refine jj_sub [2, 3, 4, 5, 0] rfl ?_
    exact hk5 _ _ _ h
  · replace h := (if_neg c2).symm.trans h
    refine jj_aload_n dX5_spreadFrom_92 1 rfl ?_
    refine jg_5_5 (k := 41) rfl lk_5_18 dX5_spreadFrom_93 ?_
    show jj_V g X _ _ _ _ _ _ (.ref (jj_ad g 43) :: _) _
    refine jj_iload dX5_spreadFrom_96 5 rfl ?_
    refine jj_iload dX5_spreadFrom_98 0 rfl ?_
    obtain ⟨g3, h⟩ := jj_ge h
    refine jj_iastore (k := 43) (n := 8) rfl g3 dX5_spreadFrom_100 ?_
    refine jj_iconst (1) dX5_spreadFrom_101 rfl ?_
    refine jj_istore_n [(3, .int 1), (7, .int sx0), (0, .ref (jj_ad g 41)), (1, .int x1), (2, .int x2), (4, .int x4)] dX5_spreadFrom_102 (by decide) rfl ?_
    refine jj_iinc (x4 + 1) [(4, .int (x4 + 1)), (3, .int 1), (7, .int sx0), (0, .ref (jj_ad g 41)), (1, .int x1), (2, .int x2)] dX5_spreadFrom_103 5 rfl rfl (by decide) rfl ?_
    refine jj_goto 5 dX5_spreadFrom_106 (by decide) ?_
    refine jj_sub [3, 4, 5, 1, 0] rfl ?_
    exact hk5 _ _ _ h
def wyf_spreadFrom_L5 (N : Nat)  (x1 : Int32) (x2 : Int32) : Nat → Int32 → Int32 → jj_M → Option (Int32 × jj_M)
  | 0, _, _, _ => none
  | n + 1, x3, x4, μ => if 8 ≤ x4 then if x3 = 0 ∨ x3 = 1 then some ((x3, μ)) else none else if jj_i ((x1 * 8) + x4) 64 then if jj_i x1 8 then if jj_i (μ 72 ((x1 * 8) + x4).toNatClampNeg) 21 then if (μ 72 ((x1 * 8) + x4).toNatClampNeg) ≤ 0 then wyf_spreadFrom_L5 N x1 x2 n x3 (x4 + 1) μ else if (μ 41 1) < ((μ 43 x1.toNatClampNeg) + (μ 42 (μ 72 ((x1 * 8) + x4).toNatClampNeg).toNatClampNeg)) then wyf_spreadFrom_L5 N x1 x2 n x3 (x4 + 1) μ else if x2 = 0 then wyf_spreadFrom_B78 N (wyf_spreadFrom_L5 N x1 x2 n) x1 x2 x3 x4 ((μ 43 x1.toNatClampNeg) + (μ 42 (μ 72 ((x1 * 8) + x4).toNatClampNeg).toNatClampNeg)) μ else if (wyf_isIn (μ 41 0) x4) = 0 then wyf_spreadFrom_B78 N (wyf_spreadFrom_L5 N x1 x2 n) x1 x2 x3 x4 ((μ 43 x1.toNatClampNeg) + (μ 42 (μ 72 ((x1 * 8) + x4).toNatClampNeg).toNatClampNeg)) μ else wyf_spreadFrom_B78 N (wyf_spreadFrom_L5 N x1 x2 n) x1 x2 x3 x4 0 μ else none else none else none
set_option maxRecDepth 100000 in
theorem t_wyf_spreadFrom_L5 {g : jj_G} (d : Nat) {N : Nat}  {x1 : Int32} {x2 : Int32}  {r : Int32} {μ' : jj_M} {X : jj_X}   (hF : jj_F g (some .boolean) (some (.int r)) μ' X)  : ∀ (n : Nat) (x3 : Int32) (x4 : Int32) (μ : jj_M), wyf_spreadFrom_L5 N x1 x2 n x3 x4 μ = some (r, μ') → jj_V g X RX5 cX5_spreadFrom 8 (d + 1) 5 [(0, .ref (jj_ad g 41)), (1, .int x1), (2, .int x2), (3, .int x3), (4, .int x4)] [] μ := by
  intro n
  induction n with
  | zero =>
    intro x3 x4 μ h
    exact (jj_no h).elim
  | succ n ih =>
    intro x3 x4 μ h
    rw [wyf_spreadFrom_L5] at h
    refine jj_iload dX5_spreadFrom_5 4 rfl ?_
    refine jj_bipush (8) dX5_spreadFrom_7 rfl ?_
    refine jj_icmp_ge 109 dX5_spreadFrom_9 (by decide) (fun c1 => ?_) (fun c1 => ?_)
    · replace h := (if_pos c1).symm.trans h
      refine jj_iload_n dX5_spreadFrom_109 3 rfl ?_
      obtain ⟨g2, h⟩ := jj_ge h
      exact jj_zret2 hF dX5_spreadFrom_110 g2 (Option.some.inj h)
    · replace h := (if_neg c1).symm.trans h
      refine jj_aload_n dX5_spreadFrom_12 0 rfl ?_
      refine jg_5_3 (k := 41) rfl lk_5_9 dX5_spreadFrom_13 ?_
      refine jj_iload_n dX5_spreadFrom_16 1 rfl ?_
      refine jj_bipush (8) dX5_spreadFrom_17 rfl ?_
      refine jj_imul dX5_spreadFrom_19 ?_
      refine jj_iload dX5_spreadFrom_20 4 rfl ?_
      refine jj_iadd dX5_spreadFrom_22 ?_
      obtain ⟨g3, h⟩ := jj_ge h
      refine jj_iaload (k := 72) (n := 64) rfl g3 dX5_spreadFrom_23 ?_
      refine jj_istore [(5, .int (μ 72 ((x1 * 8) + x4).toNatClampNeg)), (0, .ref (jj_ad g 41)), (1, .int x1), (2, .int x2), (3, .int x3), (4, .int x4)] dX5_spreadFrom_24 (by decide) rfl ?_
      refine jj_aload_n dX5_spreadFrom_26 1 rfl ?_
      refine jg_5_5 (k := 41) rfl lk_5_18 dX5_spreadFrom_27 ?_
      show jj_V g X _ _ _ _ _ _ (.ref (jj_ad g 43) :: _) _
      refine jj_iload_n dX5_spreadFrom_30 2 rfl ?_
      obtain ⟨g4, h⟩ := jj_ge h
      refine jj_iaload (k := 43) (n := 8) rfl g4 dX5_spreadFrom_31 ?_
      refine jj_aload_n dX5_spreadFrom_32 1 rfl ?_
      refine jg_5_4 (k := 41) rfl lk_5_15 dX5_spreadFrom_33 ?_
      show jj_V g X _ _ _ _ _ _ (.ref (jj_ad g 42) :: _) _
      refine jj_iload dX5_spreadFrom_36 0 rfl ?_
      obtain ⟨g5, h⟩ := jj_ge h
      refine jj_iaload (k := 42) (n := 21) rfl g5 dX5_spreadFrom_38 ?_
      refine jj_iadd dX5_spreadFrom_39 ?_
      refine jj_istore [(6, .int ((μ 43 x1.toNatClampNeg) + (μ 42 (μ 72 ((x1 * 8) + x4).toNatClampNeg).toNatClampNeg))), (5, .int (μ 72 ((x1 * 8) + x4).toNatClampNeg)), (0, .ref (jj_ad g 41)), (1, .int x1), (2, .int x2), (3, .int x3), (4, .int x4)] dX5_spreadFrom_40 (by decide) rfl ?_
      refine jj_iload dX5_spreadFrom_42 1 rfl ?_
      refine jj_if_le 103 dX5_spreadFrom_44 (by decide) (fun c6 => ?_) (fun c6 => ?_)
      · replace h := (if_pos c6).symm.trans h
        refine jj_iinc (x4 + 1) [(4, .int (x4 + 1)), (6, .int ((μ 43 x1.toNatClampNeg) + (μ 42 (μ 72 ((x1 * 8) + x4).toNatClampNeg).toNatClampNeg))), (5, .int (μ 72 ((x1 * 8) + x4).toNatClampNeg)), (0, .ref (jj_ad g 41)), (1, .int x1), (2, .int x2), (3, .int x3)] dX5_spreadFrom_103 6 rfl rfl (by decide) rfl ?_
        refine jj_goto 5 dX5_spreadFrom_106 (by decide) ?_
        refine jj_sub [3, 4, 5, 6, 0] rfl ?_
        exact ih _ _ _ h
      · replace h := (if_neg c6).symm.trans h
        refine jj_iload dX5_spreadFrom_47 0 rfl ?_
        refine jj_aload_n dX5_spreadFrom_49 2 rfl ?_
        refine jg_5_1 (k := 41) rfl lk_5_34 dX5_spreadFrom_50 ?_
        refine jj_icmp_gt 103 dX5_spreadFrom_53 (by decide) (fun c7 => ?_) (fun c7 => ?_)
        · replace h := (if_pos c7).symm.trans h
          refine jj_iinc (x4 + 1) [(4, .int (x4 + 1)), (6, .int ((μ 43 x1.toNatClampNeg) + (μ 42 (μ 72 ((x1 * 8) + x4).toNatClampNeg).toNatClampNeg))), (5, .int (μ 72 ((x1 * 8) + x4).toNatClampNeg)), (0, .ref (jj_ad g 41)), (1, .int x1), (2, .int x2), (3, .int x3)] dX5_spreadFrom_103 6 rfl rfl (by decide) rfl ?_
          refine jj_goto 5 dX5_spreadFrom_106 (by decide) ?_
          refine jj_sub [3, 4, 5, 6, 0] rfl ?_
          exact ih _ _ _ h
        · replace h := (if_neg c7).symm.trans h
          refine jj_iload_n dX5_spreadFrom_56 4 rfl ?_
          refine jj_if_eq 76 dX5_spreadFrom_57 (by decide) (fun c8 => ?_) (fun c8 => ?_)
          · replace h := (if_pos c8).symm.trans h
            refine jj_iload dX5_spreadFrom_76 0 rfl ?_
            refine jj_sub [2, 3, 4, 5, 6] rfl ?_
            exact t_wyf_spreadFrom_B78 d   hF ih h
          · replace h := (if_neg c8).symm.trans h
            refine jj_aload_n dX5_spreadFrom_60 2 rfl ?_
            refine jg_5_0 (k := 41) rfl lk_5_56 dX5_spreadFrom_61 ?_
            refine jj_iload dX5_spreadFrom_64 6 rfl ?_
            refine jj_callSi [.int (μ 41 0), .int x4] [] (c_wyf_isIn (d + 0)  rfl) jm_wyf_isIn lk_5_80 rfl (by omega) rfl (Nat.le_of_ble_eq_true rfl) dX5_spreadFrom_66 ?_
            refine jj_if_eq 76 dX5_spreadFrom_69 (by decide) (fun c9 => ?_) (fun c9 => ?_)
            · replace h := (if_pos c9).symm.trans h
              refine jj_iload dX5_spreadFrom_76 0 rfl ?_
              refine jj_sub [2, 3, 4, 5, 6] rfl ?_
              exact t_wyf_spreadFrom_B78 d   hF ih h
            · replace h := (if_neg c9).symm.trans h
              refine jj_iconst (0) dX5_spreadFrom_72 rfl ?_
              refine jj_goto 78 dX5_spreadFrom_73 (by decide) ?_
              refine jj_sub [2, 3, 4, 5, 6] rfl ?_
              exact t_wyf_spreadFrom_B78 d   hF ih h
def wyf_spreadFrom (N : Nat) (x1 : Int32) (x2 : Int32) (μ : jj_M) : Option (Int32 × jj_M) := wyf_spreadFrom_L5 N x1 x2 N 0 0 μ
set_option maxRecDepth 100000 in
theorem c_wyf_spreadFrom {g : jj_G} (d : Nat) {N : Nat} {x1 : Int32} {x2 : Int32} {μ : jj_M} {r : Int32} {μ' : jj_M}   (h : wyf_spreadFrom N x1 x2 μ = some (r, μ')) : jj_N g yX5_spreadFrom cX5_spreadFrom 8 (some .boolean) (d + 1) [.ref (jj_ad g 41), .int x1, .int x2] μ (some (.int r)) μ' := by
  refine jj_N_of jn_5 (Nat.le_of_ble_eq_true rfl) (fun X hF => ?_)
  unfold wyf_spreadFrom at h
  refine jj_sub (own := RX5) (lv2 := [(0, .ref (jj_ad g 41)), (1, .int x1), (2, .int x2)]) [0, 1, 2] rfl ?_
  refine jj_iconst (0) dX5_spreadFrom_0 rfl ?_
  refine jj_istore_n [(3, .int 0), (0, .ref (jj_ad g 41)), (1, .int x1), (2, .int x2)] dX5_spreadFrom_1 (by decide) rfl ?_
  refine jj_iconst (0) dX5_spreadFrom_2 rfl ?_
  refine jj_istore [(4, .int 0), (3, .int 0), (0, .ref (jj_ad g 41)), (1, .int x1), (2, .int x2)] dX5_spreadFrom_3 (by decide) rfl ?_
  refine jj_sub [2, 3, 4, 1, 0] rfl ?_
  exact t_wyf_spreadFrom_L5 d   hF  _ _ _ _ h
def wyf_spread_L20 (N : Nat) (k4 : Int32 → Int32 → jj_M → Option (jj_M)) (x1 : Int32) (x3 : Int32) : Nat → Int32 → Int32 → jj_M → Option (jj_M)
  | 0, _, _, _ => none
  | n + 1, x2, x4, μ => if 8 ≤ x4 then k4 x2 (x3 + 1) μ else if jj_i x4 8 then if 1000000 ≤ (μ 43 x4.toNatClampNeg) then wyf_spread_L20 N k4 x1 x3 n x2 (x4 + 1) μ else (wyf_spreadFrom N x4 x1 μ).bind fun q4 => if q4.1 = 0 then wyf_spread_L20 N k4 x1 x3 n x2 (x4 + 1) q4.2 else wyf_spread_L20 N k4 x1 x3 n 1 (x4 + 1) q4.2 else none
set_option maxRecDepth 100000 in
theorem t_wyf_spread_L20 {g : jj_G} (d : Nat) {N : Nat} {k4 : Int32 → Int32 → jj_M → Option (jj_M)} {x1 : Int32} {x3 : Int32}  {μ' : jj_M} {X : jj_X}   (hF : jj_F g none none μ' X) (hk4 : ∀ (x2 : Int32) (x3 : Int32) (μ : jj_M), k4 x2 x3 μ = some μ' → jj_V g X RX5 cX5_spread 5 (d + 2) 4 [(0, .ref (jj_ad g 41)), (1, .int x1), (2, .int x2), (3, .int x3)] [] μ) : ∀ (n : Nat) (x2 : Int32) (x4 : Int32) (μ : jj_M), wyf_spread_L20 N k4 x1 x3 n x2 x4 μ = some μ' → jj_V g X RX5 cX5_spread 5 (d + 2) 20 [(0, .ref (jj_ad g 41)), (1, .int x1), (2, .int x2), (3, .int x3), (4, .int x4)] [] μ := by
  intro n
  induction n with
  | zero =>
    intro x2 x4 μ h
    exact (jj_no h).elim
  | succ n ih =>
    intro x2 x4 μ h
    rw [wyf_spread_L20] at h
    refine jj_iload dX5_spread_20 4 rfl ?_
    refine jj_bipush (8) dX5_spread_22 rfl ?_
    refine jj_icmp_ge 57 dX5_spread_24 (by decide) (fun c1 => ?_) (fun c1 => ?_)
    · replace h := (if_pos c1).symm.trans h
      refine jj_iinc (x3 + 1) [(3, .int (x3 + 1)), (0, .ref (jj_ad g 41)), (1, .int x1), (2, .int x2), (4, .int x4)] dX5_spread_57 3 rfl rfl (by decide) rfl ?_
      refine jj_goto 4 dX5_spread_60 (by decide) ?_
      refine jj_sub [1, 2, 3, 0] rfl ?_
      exact hk4 _ _ _ h
    · replace h := (if_neg c1).symm.trans h
      refine jj_aload_n dX5_spread_27 0 rfl ?_
      refine jg_5_5 (k := 41) rfl lk_5_18 dX5_spread_28 ?_
      show jj_V g X _ _ _ _ _ _ (.ref (jj_ad g 43) :: _) _
      refine jj_iload dX5_spread_31 4 rfl ?_
      obtain ⟨g2, h⟩ := jj_ge h
      refine jj_iaload (k := 43) (n := 8) rfl g2 dX5_spread_33 ?_
      refine jj_ldc (1000000) lk_5_59 dX5_spread_34 ?_
      refine jj_icmp_ge 51 dX5_spread_36 (by decide) (fun c3 => ?_) (fun c3 => ?_)
      · replace h := (if_pos c3).symm.trans h
        refine jj_iinc (x4 + 1) [(4, .int (x4 + 1)), (0, .ref (jj_ad g 41)), (1, .int x1), (2, .int x2), (3, .int x3)] dX5_spread_51 4 rfl rfl (by decide) rfl ?_
        refine jj_goto 20 dX5_spread_54 (by decide) ?_
        refine jj_sub [1, 2, 3, 4, 0] rfl ?_
        exact ih _ _ _ h
      · replace h := (if_neg c3).symm.trans h
        refine jj_aload_n dX5_spread_39 0 rfl ?_
        refine jj_iload dX5_spread_40 4 rfl ?_
        refine jj_iload_n dX5_spread_42 1 rfl ?_
        obtain ⟨q4, e4, h⟩ := jj_be h
        refine jj_callVi [.int x4, .int x1] [] (c_wyf_spreadFrom (d + 0)  e4) jm_wyf_spreadFrom lk_5_124 (b := 41) rfl (by decide) (jj_E5 rfl) rfl rfl rfl (by omega) rfl (Nat.le_of_ble_eq_true rfl) dX5_spread_43 ?_
        refine jj_if_eq 51 dX5_spread_46 (by decide) (fun c5 => ?_) (fun c5 => ?_)
        · replace h := (if_pos c5).symm.trans h
          refine jj_iinc (x4 + 1) [(4, .int (x4 + 1)), (0, .ref (jj_ad g 41)), (1, .int x1), (2, .int x2), (3, .int x3)] dX5_spread_51 4 rfl rfl (by decide) rfl ?_
          refine jj_goto 20 dX5_spread_54 (by decide) ?_
          refine jj_sub [1, 2, 3, 4, 0] rfl ?_
          exact ih _ _ _ h
        · replace h := (if_neg c5).symm.trans h
          refine jj_iconst (1) dX5_spread_49 rfl ?_
          refine jj_istore_n [(2, .int 1), (0, .ref (jj_ad g 41)), (1, .int x1), (3, .int x3), (4, .int x4)] dX5_spread_50 (by decide) rfl ?_
          refine jj_iinc (x4 + 1) [(4, .int (x4 + 1)), (2, .int 1), (0, .ref (jj_ad g 41)), (1, .int x1), (3, .int x3)] dX5_spread_51 4 rfl rfl (by decide) rfl ?_
          refine jj_goto 20 dX5_spread_54 (by decide) ?_
          refine jj_sub [2, 3, 1, 4, 0] rfl ?_
          exact ih _ _ _ h
def wyf_spread_L4 (N : Nat)  (x1 : Int32) : Nat → Int32 → Int32 → jj_M → Option (jj_M)
  | 0, _, _, _ => none
  | n + 1, x2, x3, μ => if 1000 ≤ x3 then some μ else if x2 = 0 then some μ else wyf_spread_L20 N (wyf_spread_L4 N x1 n) x1 x3 N 0 0 μ
set_option maxRecDepth 100000 in
theorem t_wyf_spread_L4 {g : jj_G} (d : Nat) {N : Nat}  {x1 : Int32}  {μ' : jj_M} {X : jj_X}   (hF : jj_F g none none μ' X)  : ∀ (n : Nat) (x2 : Int32) (x3 : Int32) (μ : jj_M), wyf_spread_L4 N x1 n x2 x3 μ = some μ' → jj_V g X RX5 cX5_spread 5 (d + 2) 4 [(0, .ref (jj_ad g 41)), (1, .int x1), (2, .int x2), (3, .int x3)] [] μ := by
  intro n
  induction n with
  | zero =>
    intro x2 x3 μ h
    exact (jj_no h).elim
  | succ n ih =>
    intro x2 x3 μ h
    rw [wyf_spread_L4] at h
    refine jj_iload_n dX5_spread_4 3 rfl ?_
    refine jj_sipush (1000) dX5_spread_5 rfl ?_
    refine jj_icmp_ge 63 dX5_spread_8 (by decide) (fun c1 => ?_) (fun c1 => ?_)
    · replace h := (if_pos c1).symm.trans h
      exact jj_vret1 hF dX5_spread_63 (Option.some.inj h)
    · replace h := (if_neg c1).symm.trans h
      refine jj_iload_n dX5_spread_11 2 rfl ?_
      refine jj_if_eq 63 dX5_spread_12 (by decide) (fun c2 => ?_) (fun c2 => ?_)
      · replace h := (if_pos c2).symm.trans h
        exact jj_vret1 hF dX5_spread_63 (Option.some.inj h)
      · replace h := (if_neg c2).symm.trans h
        refine jj_iconst (0) dX5_spread_15 rfl ?_
        refine jj_istore_n [(2, .int 0), (0, .ref (jj_ad g 41)), (1, .int x1), (3, .int x3)] dX5_spread_16 (by decide) rfl ?_
        refine jj_iconst (0) dX5_spread_17 rfl ?_
        refine jj_istore [(4, .int 0), (2, .int 0), (0, .ref (jj_ad g 41)), (1, .int x1), (3, .int x3)] dX5_spread_18 (by decide) rfl ?_
        refine jj_sub [2, 3, 1, 4, 0] rfl ?_
        exact t_wyf_spread_L20 d   hF ih _ _ _ _ h
def wyf_spread (N : Nat) (x1 : Int32) (μ : jj_M) : Option (jj_M) := wyf_spread_L4 N x1 N 1 0 μ
set_option maxRecDepth 100000 in
theorem c_wyf_spread {g : jj_G} (d : Nat) {N : Nat} {x1 : Int32} {μ : jj_M} {μ' : jj_M}   (h : wyf_spread N x1 μ = some μ') : jj_N g yX5_spread cX5_spread 5 none (d + 2) [.ref (jj_ad g 41), .int x1] μ none μ' := by
  refine jj_N_of jn_5 (Nat.le_of_ble_eq_true rfl) (fun X hF => ?_)
  unfold wyf_spread at h
  refine jj_sub (own := RX5) (lv2 := [(0, .ref (jj_ad g 41)), (1, .int x1)]) [0, 1] rfl ?_
  refine jj_iconst (1) dX5_spread_0 rfl ?_
  refine jj_istore_n [(2, .int 1), (0, .ref (jj_ad g 41)), (1, .int x1)] dX5_spread_1 (by decide) rfl ?_
  refine jj_iconst (0) dX5_spread_2 rfl ?_
  refine jj_istore_n [(3, .int 0), (2, .int 1), (0, .ref (jj_ad g 41)), (1, .int x1)] dX5_spread_3 (by decide) rfl ?_
  refine jj_sub [2, 3, 1, 0] rfl ?_
  exact t_wyf_spread_L4 d   hF  _ _ _ _ h
def wyf_reached_L14 (N : Nat)  (μ : jj_M) : Nat → Int32 → Int32 → Option (Int32 × jj_M)
  | 0, _, _ => none
  | n + 1, x1, x2 => if 8 ≤ x2 then some ((x1, μ)) else if jj_i x2 8 then if 1000000 ≤ (μ 43 x2.toNatClampNeg) then wyf_reached_L14 N μ n x1 (x2 + 1) else wyf_reached_L14 N μ n (x1 ||| (1 <<< (x2 &&& 31))) (x2 + 1) else none
set_option maxRecDepth 100000 in
theorem t_wyf_reached_L14 {g : jj_G} (d : Nat) {N : Nat}  {μ : jj_M}  {r : Int32} {μ' : jj_M} {X : jj_X}   (hF : jj_F g (some .int) (some (.int r)) μ' X)  : ∀ (n : Nat) (x1 : Int32) (x2 : Int32), wyf_reached_L14 N μ n x1 x2 = some (r, μ') → jj_V g X RX5 cX5_reached 3 (d + 3) 14 [(0, .ref (jj_ad g 41)), (1, .int x1), (2, .int x2)] [] μ := by
  intro n
  induction n with
  | zero =>
    intro x1 x2 h
    exact (jj_no h).elim
  | succ n ih =>
    intro x1 x2 h
    rw [wyf_reached_L14] at h
    refine jj_iload_n dX5_reached_14 2 rfl ?_
    refine jj_bipush (8) dX5_reached_15 rfl ?_
    refine jj_icmp_ge 43 dX5_reached_17 (by decide) (fun c1 => ?_) (fun c1 => ?_)
    · replace h := (if_pos c1).symm.trans h
      refine jj_iload_n dX5_reached_43 1 rfl ?_
      exact jj_iret2 hF dX5_reached_44 (Option.some.inj h)
    · replace h := (if_neg c1).symm.trans h
      refine jj_aload_n dX5_reached_20 0 rfl ?_
      refine jg_5_5 (k := 41) rfl lk_5_18 dX5_reached_21 ?_
      show jj_V g X _ _ _ _ _ _ (.ref (jj_ad g 43) :: _) _
      refine jj_iload_n dX5_reached_24 2 rfl ?_
      obtain ⟨g2, h⟩ := jj_ge h
      refine jj_iaload (k := 43) (n := 8) rfl g2 dX5_reached_25 ?_
      refine jj_ldc (1000000) lk_5_59 dX5_reached_26 ?_
      refine jj_icmp_ge 37 dX5_reached_28 (by decide) (fun c3 => ?_) (fun c3 => ?_)
      · replace h := (if_pos c3).symm.trans h
        refine jj_iinc (x2 + 1) [(2, .int (x2 + 1)), (0, .ref (jj_ad g 41)), (1, .int x1)] dX5_reached_37 2 rfl rfl (by decide) rfl ?_
        refine jj_goto 14 dX5_reached_40 (by decide) ?_
        refine jj_sub [1, 2, 0] rfl ?_
        exact ih _ _ h
      · replace h := (if_neg c3).symm.trans h
        refine jj_iload_n dX5_reached_31 1 rfl ?_
        refine jj_iconst (1) dX5_reached_32 rfl ?_
        refine jj_iload_n dX5_reached_33 2 rfl ?_
        refine jj_ishl dX5_reached_34 ?_
        refine jj_ior dX5_reached_35 ?_
        refine jj_istore_n [(1, .int (x1 ||| (1 <<< (x2 &&& 31)))), (0, .ref (jj_ad g 41)), (2, .int x2)] dX5_reached_36 (by decide) rfl ?_
        refine jj_iinc (x2 + 1) [(2, .int (x2 + 1)), (1, .int (x1 ||| (1 <<< (x2 &&& 31)))), (0, .ref (jj_ad g 41))] dX5_reached_37 2 rfl rfl (by decide) rfl ?_
        refine jj_goto 14 dX5_reached_40 (by decide) ?_
        refine jj_sub [2, 1, 0] rfl ?_
        exact ih _ _ h
def wyf_reached (N : Nat)  (μ : jj_M) : Option (Int32 × jj_M) := (wyf_drinkWherePossible N μ).bind fun q1 => (wyf_spread N 1 q1.2).bind fun q2 => wyf_reached_L14 N q2 N 0 0
set_option maxRecDepth 100000 in
theorem c_wyf_reached {g : jj_G} (d : Nat) {N : Nat}  {μ : jj_M} {r : Int32} {μ' : jj_M}   (h : wyf_reached N μ = some (r, μ')) : jj_N g yX5_reached cX5_reached 3 (some .int) (d + 3) [.ref (jj_ad g 41)] μ (some (.int r)) μ' := by
  refine jj_N_of jn_5 (Nat.le_of_ble_eq_true rfl) (fun X hF => ?_)
  unfold wyf_reached at h
  refine jj_sub (own := RX5) (lv2 := [(0, .ref (jj_ad g 41))]) [0] rfl ?_
  refine jj_aload_n dX5_reached_0 0 rfl ?_
  obtain ⟨q1, e1, h⟩ := jj_be h
  refine jj_callVi [] [] (c_wyf_drinkWherePossible (d + 1)  e1) jm_wyf_drinkWherePossible lk_5_72 (b := 41) rfl (by decide) (jj_E5 rfl) rfl rfl rfl (by omega) rfl (Nat.le_of_ble_eq_true rfl) dX5_reached_1 ?_
  refine jj_pop dX5_reached_4 rfl ?_
  refine jj_aload_n dX5_reached_5 0 rfl ?_
  refine jj_iconst (1) dX5_reached_6 rfl ?_
  obtain ⟨q2, e2, h⟩ := jj_be h
  refine jj_callVv [.int 1] [] (c_wyf_spread (d + 0)  e2) jm_wyf_spread lk_5_76 (b := 41) rfl (by decide) (jj_E5 rfl) rfl rfl rfl (by omega) rfl (Nat.le_of_ble_eq_true rfl) dX5_reached_7 ?_
  refine jj_iconst (0) dX5_reached_10 rfl ?_
  refine jj_istore_n [(1, .int 0), (0, .ref (jj_ad g 41))] dX5_reached_11 (by decide) rfl ?_
  refine jj_iconst (0) dX5_reached_12 rfl ?_
  refine jj_istore_n [(2, .int 0), (1, .int 0), (0, .ref (jj_ad g 41))] dX5_reached_13 (by decide) rfl ?_
  refine jj_sub [2, 1, 0] rfl ?_
  exact t_wyf_reached_L14 d   hF  _ _ _ h
def wyf_arriveAt_B119 (N : Nat) (k2 : Int32 → jj_M → Option (jj_M)) (x1 : Int32) (x2 : Int32) (x3 : Int32) (μ : jj_M) : Option (jj_M) := if jj_i (((x1 - x1 / 21 * 21) * 8) + x2) 168 then k2 (x2 + 1) (jj_u μ 44 (((x1 - x1 / 21 * 21) * 8) + x2).toNatClampNeg x3) else none
set_option maxRecDepth 100000 in
theorem t_wyf_arriveAt_B119 {g : jj_G} (d : Nat) {N : Nat} {k2 : Int32 → jj_M → Option (jj_M)} {x1 : Int32} {x2 : Int32} {x3 : Int32} {μ : jj_M}  {μ' : jj_M} {X : jj_X}   (hF : jj_F g none none μ' X) (hk2 : ∀ (x2 : Int32) (μ : jj_M), k2 x2 μ = some μ' → jj_V g X RX5 cX5_arriveAt 7 (d + 1) 2 [(0, .ref (jj_ad g 41)), (1, .int x1), (2, .int x2)] [] μ) (h : wyf_arriveAt_B119 N k2 x1 x2 x3 μ = some μ') : jj_V g X RX5 cX5_arriveAt 7 (d + 1) 119 [(0, .ref (jj_ad g 41)), (1, .int x1), (2, .int x2), (3, .int x3)] [] μ := by
  unfold wyf_arriveAt_B119 at h
  refine jj_aload_n dX5_arriveAt_119 0 rfl ?_
  refine jg_5_6 (k := 41) rfl lk_5_21 dX5_arriveAt_120 ?_
  show jj_V g X _ _ _ _ _ _ (.ref (jj_ad g 44) :: _) _
  refine jj_iload_n dX5_arriveAt_123 1 rfl ?_
  refine jj_bipush (21) dX5_arriveAt_124 rfl ?_
  refine jj_irem dX5_arriveAt_126 (by decide) ?_
  refine jj_bipush (8) dX5_arriveAt_127 rfl ?_
  refine jj_imul dX5_arriveAt_129 ?_
  refine jj_iload_n dX5_arriveAt_130 2 rfl ?_
  refine jj_iadd dX5_arriveAt_131 ?_
  refine jj_iload_n dX5_arriveAt_132 3 rfl ?_
  obtain ⟨g1, h⟩ := jj_ge h
  refine jj_iastore (k := 44) (n := 168) rfl g1 dX5_arriveAt_133 ?_
  refine jj_iinc (x2 + 1) [(2, .int (x2 + 1)), (0, .ref (jj_ad g 41)), (1, .int x1), (3, .int x3)] dX5_arriveAt_134 2 rfl rfl (by decide) rfl ?_
  refine jj_goto 2 dX5_arriveAt_137 (by decide) ?_
  refine jj_sub [1, 2, 0] rfl ?_
  exact hk2 _ _ h
def wyf_arriveAt_L14 (N : Nat) (k2 : Int32 → jj_M → Option (jj_M)) (x1 : Int32) (x2 : Int32) (μ : jj_M) : Nat → Int32 → Int32 → Option (jj_M)
  | 0, _, _ => none
  | n + 1, x3, x4 => if 8 ≤ x4 then if 1000000 ≤ x3 then wyf_arriveAt_B119 N k2 x1 x2 x3 μ else if (wyf_isIn (μ 41 0) x2) = 0 then wyf_arriveAt_B119 N k2 x1 x2 x3 μ else wyf_arriveAt_B119 N k2 x1 x2 0 μ else if jj_i ((x4 * 8) + x2) 64 then if (μ 72 ((x4 * 8) + x2).toNatClampNeg) ≤ 0 then wyf_arriveAt_L14 N k2 x1 x2 μ n x3 (x4 + 1) else if x1 < (μ 72 ((x4 * 8) + x2).toNatClampNeg) then wyf_arriveAt_L14 N k2 x1 x2 μ n x3 (x4 + 1) else if jj_i ((((x1 - (μ 72 ((x4 * 8) + x2).toNatClampNeg)) - (x1 - (μ 72 ((x4 * 8) + x2).toNatClampNeg)) / 21 * 21) * 8) + x4) 168 then if jj_i (μ 72 ((x4 * 8) + x2).toNatClampNeg) 21 then if (μ 41 1) < ((μ 44 ((((x1 - (μ 72 ((x4 * 8) + x2).toNatClampNeg)) - (x1 - (μ 72 ((x4 * 8) + x2).toNatClampNeg)) / 21 * 21) * 8) + x4).toNatClampNeg) + (μ 42 (μ 72 ((x4 * 8) + x2).toNatClampNeg).toNatClampNeg)) then wyf_arriveAt_L14 N k2 x1 x2 μ n x3 (x4 + 1) else wyf_arriveAt_L14 N k2 x1 x2 μ n (jdf_min x3 ((μ 44 ((((x1 - (μ 72 ((x4 * 8) + x2).toNatClampNeg)) - (x1 - (μ 72 ((x4 * 8) + x2).toNatClampNeg)) / 21 * 21) * 8) + x4).toNatClampNeg) + (μ 42 (μ 72 ((x4 * 8) + x2).toNatClampNeg).toNatClampNeg))) (x4 + 1) else none else none else none
set_option maxRecDepth 100000 in
theorem t_wyf_arriveAt_L14 {g : jj_G} (d : Nat) {N : Nat} {k2 : Int32 → jj_M → Option (jj_M)} {x1 : Int32} {x2 : Int32} {μ : jj_M}  {μ' : jj_M} {X : jj_X}   (hF : jj_F g none none μ' X) (hk2 : ∀ (x2 : Int32) (μ : jj_M), k2 x2 μ = some μ' → jj_V g X RX5 cX5_arriveAt 7 (d + 1) 2 [(0, .ref (jj_ad g 41)), (1, .int x1), (2, .int x2)] [] μ) : ∀ (n : Nat) (x3 : Int32) (x4 : Int32), wyf_arriveAt_L14 N k2 x1 x2 μ n x3 x4 = some μ' → jj_V g X RX5 cX5_arriveAt 7 (d + 1) 14 [(0, .ref (jj_ad g 41)), (1, .int x1), (2, .int x2), (3, .int x3), (4, .int x4)] [] μ := by
  intro n
  induction n with
  | zero =>
    intro x3 x4 h
    exact (jj_no h).elim
  | succ n ih =>
    intro x3 x4 h
    rw [wyf_arriveAt_L14] at h
    refine jj_iload dX5_arriveAt_14 4 rfl ?_
    refine jj_bipush (8) dX5_arriveAt_16 rfl ?_
    refine jj_icmp_ge 100 dX5_arriveAt_18 (by decide) (fun c1 => ?_) (fun c1 => ?_)
    · replace h := (if_pos c1).symm.trans h
      refine jj_iload_n dX5_arriveAt_100 3 rfl ?_
      refine jj_ldc (1000000) lk_5_59 dX5_arriveAt_101 ?_
      refine jj_icmp_ge 119 dX5_arriveAt_103 (by decide) (fun c2 => ?_) (fun c2 => ?_)
      · replace h := (if_pos c2).symm.trans h
        refine jj_sub [0, 1, 2, 3] rfl ?_
        exact t_wyf_arriveAt_B119 d   hF hk2 h
      · replace h := (if_neg c2).symm.trans h
        refine jj_aload_n dX5_arriveAt_106 0 rfl ?_
        refine jg_5_0 (k := 41) rfl lk_5_56 dX5_arriveAt_107 ?_
        refine jj_iload_n dX5_arriveAt_110 2 rfl ?_
        refine jj_callSi [.int (μ 41 0), .int x2] [] (c_wyf_isIn (d + 0)  rfl) jm_wyf_isIn lk_5_80 rfl (by omega) rfl (Nat.le_of_ble_eq_true rfl) dX5_arriveAt_111 ?_
        refine jj_if_eq 119 dX5_arriveAt_114 (by decide) (fun c3 => ?_) (fun c3 => ?_)
        · replace h := (if_pos c3).symm.trans h
          refine jj_sub [0, 1, 2, 3] rfl ?_
          exact t_wyf_arriveAt_B119 d   hF hk2 h
        · replace h := (if_neg c3).symm.trans h
          refine jj_iconst (0) dX5_arriveAt_117 rfl ?_
          refine jj_istore_n [(3, .int 0), (0, .ref (jj_ad g 41)), (1, .int x1), (2, .int x2), (4, .int x4)] dX5_arriveAt_118 (by decide) rfl ?_
          refine jj_sub [1, 2, 3, 0] rfl ?_
          exact t_wyf_arriveAt_B119 d   hF hk2 h
    · replace h := (if_neg c1).symm.trans h
      refine jj_aload_n dX5_arriveAt_21 0 rfl ?_
      refine jg_5_3 (k := 41) rfl lk_5_9 dX5_arriveAt_22 ?_
      refine jj_iload dX5_arriveAt_25 4 rfl ?_
      refine jj_bipush (8) dX5_arriveAt_27 rfl ?_
      refine jj_imul dX5_arriveAt_29 ?_
      refine jj_iload_n dX5_arriveAt_30 2 rfl ?_
      refine jj_iadd dX5_arriveAt_31 ?_
      obtain ⟨g4, h⟩ := jj_ge h
      refine jj_iaload (k := 72) (n := 64) rfl g4 dX5_arriveAt_32 ?_
      refine jj_istore [(5, .int (μ 72 ((x4 * 8) + x2).toNatClampNeg)), (0, .ref (jj_ad g 41)), (1, .int x1), (2, .int x2), (3, .int x3), (4, .int x4)] dX5_arriveAt_33 (by decide) rfl ?_
      refine jj_iload dX5_arriveAt_35 0 rfl ?_
      refine jj_if_le 94 dX5_arriveAt_37 (by decide) (fun c5 => ?_) (fun c5 => ?_)
      · replace h := (if_pos c5).symm.trans h
        refine jj_iinc (x4 + 1) [(4, .int (x4 + 1)), (5, .int (μ 72 ((x4 * 8) + x2).toNatClampNeg)), (0, .ref (jj_ad g 41)), (1, .int x1), (2, .int x2), (3, .int x3)] dX5_arriveAt_94 5 rfl rfl (by decide) rfl ?_
        refine jj_goto 14 dX5_arriveAt_97 (by decide) ?_
        refine jj_sub [2, 3, 4, 5, 0] rfl ?_
        exact ih _ _ h
      · replace h := (if_neg c5).symm.trans h
        refine jj_iload dX5_arriveAt_40 0 rfl ?_
        refine jj_iload_n dX5_arriveAt_42 2 rfl ?_
        refine jj_icmp_gt 94 dX5_arriveAt_43 (by decide) (fun c6 => ?_) (fun c6 => ?_)
        · replace h := (if_pos c6).symm.trans h
          refine jj_iinc (x4 + 1) [(4, .int (x4 + 1)), (5, .int (μ 72 ((x4 * 8) + x2).toNatClampNeg)), (0, .ref (jj_ad g 41)), (1, .int x1), (2, .int x2), (3, .int x3)] dX5_arriveAt_94 5 rfl rfl (by decide) rfl ?_
          refine jj_goto 14 dX5_arriveAt_97 (by decide) ?_
          refine jj_sub [2, 3, 4, 5, 0] rfl ?_
          exact ih _ _ h
        · replace h := (if_neg c6).symm.trans h
          refine jj_aload_n dX5_arriveAt_46 1 rfl ?_
          refine jg_5_6 (k := 41) rfl lk_5_21 dX5_arriveAt_47 ?_
          show jj_V g X _ _ _ _ _ _ (.ref (jj_ad g 44) :: _) _
          refine jj_iload_n dX5_arriveAt_50 2 rfl ?_
          refine jj_iload dX5_arriveAt_51 0 rfl ?_
          refine jj_isub dX5_arriveAt_53 ?_
          refine jj_bipush (21) dX5_arriveAt_54 rfl ?_
          refine jj_irem dX5_arriveAt_56 (by decide) ?_
          refine jj_bipush (8) dX5_arriveAt_57 rfl ?_
          refine jj_imul dX5_arriveAt_59 ?_
          refine jj_iload dX5_arriveAt_60 5 rfl ?_
          refine jj_iadd dX5_arriveAt_62 ?_
          obtain ⟨g7, h⟩ := jj_ge h
          refine jj_iaload (k := 44) (n := 168) rfl g7 dX5_arriveAt_63 ?_
          refine jj_aload_n dX5_arriveAt_64 1 rfl ?_
          refine jg_5_4 (k := 41) rfl lk_5_15 dX5_arriveAt_65 ?_
          show jj_V g X _ _ _ _ _ _ (.ref (jj_ad g 42) :: _) _
          refine jj_iload dX5_arriveAt_68 0 rfl ?_
          obtain ⟨g8, h⟩ := jj_ge h
          refine jj_iaload (k := 42) (n := 21) rfl g8 dX5_arriveAt_70 ?_
          refine jj_iadd dX5_arriveAt_71 ?_
          refine jj_istore [(6, .int ((μ 44 ((((x1 - (μ 72 ((x4 * 8) + x2).toNatClampNeg)) - (x1 - (μ 72 ((x4 * 8) + x2).toNatClampNeg)) / 21 * 21) * 8) + x4).toNatClampNeg) + (μ 42 (μ 72 ((x4 * 8) + x2).toNatClampNeg).toNatClampNeg))), (5, .int (μ 72 ((x4 * 8) + x2).toNatClampNeg)), (0, .ref (jj_ad g 41)), (1, .int x1), (2, .int x2), (3, .int x3), (4, .int x4)] dX5_arriveAt_72 (by decide) rfl ?_
          refine jj_iload dX5_arriveAt_74 0 rfl ?_
          refine jj_aload_n dX5_arriveAt_76 2 rfl ?_
          refine jg_5_1 (k := 41) rfl lk_5_34 dX5_arriveAt_77 ?_
          refine jj_icmp_gt 92 dX5_arriveAt_80 (by decide) (fun c9 => ?_) (fun c9 => ?_)
          · replace h := (if_pos c9).symm.trans h
            refine jj_iload_n dX5_arriveAt_92 5 rfl ?_
            refine jj_istore_n [(3, .int x3), (6, .int ((μ 44 ((((x1 - (μ 72 ((x4 * 8) + x2).toNatClampNeg)) - (x1 - (μ 72 ((x4 * 8) + x2).toNatClampNeg)) / 21 * 21) * 8) + x4).toNatClampNeg) + (μ 42 (μ 72 ((x4 * 8) + x2).toNatClampNeg).toNatClampNeg))), (5, .int (μ 72 ((x4 * 8) + x2).toNatClampNeg)), (0, .ref (jj_ad g 41)), (1, .int x1), (2, .int x2), (4, .int x4)] dX5_arriveAt_93 (by decide) rfl ?_
            refine jj_iinc (x4 + 1) [(4, .int (x4 + 1)), (3, .int x3), (6, .int ((μ 44 ((((x1 - (μ 72 ((x4 * 8) + x2).toNatClampNeg)) - (x1 - (μ 72 ((x4 * 8) + x2).toNatClampNeg)) / 21 * 21) * 8) + x4).toNatClampNeg) + (μ 42 (μ 72 ((x4 * 8) + x2).toNatClampNeg).toNatClampNeg))), (5, .int (μ 72 ((x4 * 8) + x2).toNatClampNeg)), (0, .ref (jj_ad g 41)), (1, .int x1), (2, .int x2)] dX5_arriveAt_94 6 rfl rfl (by decide) rfl ?_
            refine jj_goto 14 dX5_arriveAt_97 (by decide) ?_
            refine jj_sub [4, 5, 6, 1, 0] rfl ?_
            exact ih _ _ h
          · replace h := (if_neg c9).symm.trans h
            refine jj_iload_n dX5_arriveAt_83 5 rfl ?_
            refine jj_iload dX5_arriveAt_84 0 rfl ?_
            refine jj_mmin lk_5_102 (by omega) (Nat.le_of_ble_eq_true rfl) dX5_arriveAt_86 ?_
            refine jj_goto 93 dX5_arriveAt_89 (by decide) ?_
            refine jj_istore_n [(3, .int (jdf_min x3 ((μ 44 ((((x1 - (μ 72 ((x4 * 8) + x2).toNatClampNeg)) - (x1 - (μ 72 ((x4 * 8) + x2).toNatClampNeg)) / 21 * 21) * 8) + x4).toNatClampNeg) + (μ 42 (μ 72 ((x4 * 8) + x2).toNatClampNeg).toNatClampNeg)))), (6, .int ((μ 44 ((((x1 - (μ 72 ((x4 * 8) + x2).toNatClampNeg)) - (x1 - (μ 72 ((x4 * 8) + x2).toNatClampNeg)) / 21 * 21) * 8) + x4).toNatClampNeg) + (μ 42 (μ 72 ((x4 * 8) + x2).toNatClampNeg).toNatClampNeg))), (5, .int (μ 72 ((x4 * 8) + x2).toNatClampNeg)), (0, .ref (jj_ad g 41)), (1, .int x1), (2, .int x2), (4, .int x4)] dX5_arriveAt_93 (by decide) rfl ?_
            refine jj_iinc (x4 + 1) [(4, .int (x4 + 1)), (3, .int (jdf_min x3 ((μ 44 ((((x1 - (μ 72 ((x4 * 8) + x2).toNatClampNeg)) - (x1 - (μ 72 ((x4 * 8) + x2).toNatClampNeg)) / 21 * 21) * 8) + x4).toNatClampNeg) + (μ 42 (μ 72 ((x4 * 8) + x2).toNatClampNeg).toNatClampNeg)))), (6, .int ((μ 44 ((((x1 - (μ 72 ((x4 * 8) + x2).toNatClampNeg)) - (x1 - (μ 72 ((x4 * 8) + x2).toNatClampNeg)) / 21 * 21) * 8) + x4).toNatClampNeg) + (μ 42 (μ 72 ((x4 * 8) + x2).toNatClampNeg).toNatClampNeg))), (5, .int (μ 72 ((x4 * 8) + x2).toNatClampNeg)), (0, .ref (jj_ad g 41)), (1, .int x1), (2, .int x2)] dX5_arriveAt_94 6 rfl rfl (by decide) rfl ?_
            refine jj_goto 14 dX5_arriveAt_97 (by decide) ?_
            refine jj_sub [4, 5, 6, 1, 0] rfl ?_
            exact ih _ _ h
def wyf_arriveAt_L2 (N : Nat)  (x1 : Int32) : Nat → Int32 → jj_M → Option (jj_M)
  | 0, _, _ => none
  | n + 1, x2, μ => if 8 ≤ x2 then some μ else wyf_arriveAt_L14 N (wyf_arriveAt_L2 N x1 n) x1 x2 μ N 1000000 0
set_option maxRecDepth 100000 in
theorem t_wyf_arriveAt_L2 {g : jj_G} (d : Nat) {N : Nat}  {x1 : Int32}  {μ' : jj_M} {X : jj_X}   (hF : jj_F g none none μ' X)  : ∀ (n : Nat) (x2 : Int32) (μ : jj_M), wyf_arriveAt_L2 N x1 n x2 μ = some μ' → jj_V g X RX5 cX5_arriveAt 7 (d + 1) 2 [(0, .ref (jj_ad g 41)), (1, .int x1), (2, .int x2)] [] μ := by
  intro n
  induction n with
  | zero =>
    intro x2 μ h
    exact (jj_no h).elim
  | succ n ih =>
    intro x2 μ h
    rw [wyf_arriveAt_L2] at h
    refine jj_iload_n dX5_arriveAt_2 2 rfl ?_
    refine jj_bipush (8) dX5_arriveAt_3 rfl ?_
    refine jj_icmp_ge 140 dX5_arriveAt_5 (by decide) (fun c1 => ?_) (fun c1 => ?_)
    · replace h := (if_pos c1).symm.trans h
      exact jj_vret1 hF dX5_arriveAt_140 (Option.some.inj h)
    · replace h := (if_neg c1).symm.trans h
      refine jj_ldc (1000000) lk_5_59 dX5_arriveAt_8 ?_
      refine jj_istore_n [(3, .int 1000000), (0, .ref (jj_ad g 41)), (1, .int x1), (2, .int x2)] dX5_arriveAt_10 (by decide) rfl ?_
      refine jj_iconst (0) dX5_arriveAt_11 rfl ?_
      refine jj_istore [(4, .int 0), (3, .int 1000000), (0, .ref (jj_ad g 41)), (1, .int x1), (2, .int x2)] dX5_arriveAt_12 (by decide) rfl ?_
      refine jj_sub [2, 3, 4, 1, 0] rfl ?_
      exact t_wyf_arriveAt_L14 d   hF ih _ _ _ h
def wyf_arriveAt (N : Nat) (x1 : Int32) (μ : jj_M) : Option (jj_M) := wyf_arriveAt_L2 N x1 N 0 μ
set_option maxRecDepth 100000 in
theorem c_wyf_arriveAt {g : jj_G} (d : Nat) {N : Nat} {x1 : Int32} {μ : jj_M} {μ' : jj_M}   (h : wyf_arriveAt N x1 μ = some μ') : jj_N g yX5_arriveAt cX5_arriveAt 7 none (d + 1) [.ref (jj_ad g 41), .int x1] μ none μ' := by
  refine jj_N_of jn_5 (Nat.le_of_ble_eq_true rfl) (fun X hF => ?_)
  unfold wyf_arriveAt at h
  refine jj_sub (own := RX5) (lv2 := [(0, .ref (jj_ad g 41)), (1, .int x1)]) [0, 1] rfl ?_
  refine jj_iconst (0) dX5_arriveAt_0 rfl ?_
  refine jj_istore_n [(2, .int 0), (0, .ref (jj_ad g 41)), (1, .int x1)] dX5_arriveAt_1 (by decide) rfl ?_
  refine jj_sub [1, 2, 0] rfl ?_
  exact t_wyf_arriveAt_L2 d   hF  _ _ _ h
def wyf_soonestHours_B65 (N : Nat) (k49 : Int32 → jj_M → Option (Int32 × jj_M)) (x1 : Int32) (x2 : Int32) (μ : jj_M) : Option (Int32 × jj_M) := if jj_i (((x2 - x2 / 21 * 21) * 8) + x1) 168 then if 1000000 ≤ (μ 44 (((x2 - x2 / 21 * 21) * 8) + x1).toNatClampNeg) then k49 (x2 + 1) μ else some ((x2, μ)) else none
set_option maxRecDepth 100000 in
theorem t_wyf_soonestHours_B65 {g : jj_G} (d : Nat) {N : Nat} {k49 : Int32 → jj_M → Option (Int32 × jj_M)} {x1 : Int32} {x2 : Int32} {μ : jj_M}  {r : Int32} {μ' : jj_M} {X : jj_X}   (hF : jj_F g (some .int) (some (.int r)) μ' X) (hk49 : ∀ (x2 : Int32) (μ : jj_M), k49 x2 μ = some (r, μ') → jj_V g X RX5 cX5_soonestHours 3 (d + 4) 49 [(0, .ref (jj_ad g 41)), (1, .int x1), (2, .int x2)] [] μ) (h : wyf_soonestHours_B65 N k49 x1 x2 μ = some (r, μ')) : jj_V g X RX5 cX5_soonestHours 3 (d + 4) 65 [(0, .ref (jj_ad g 41)), (1, .int x1), (2, .int x2)] [] μ := by
  unfold wyf_soonestHours_B65 at h
  refine jj_aload_n dX5_soonestHours_65 0 rfl ?_
  refine jg_5_6 (k := 41) rfl lk_5_21 dX5_soonestHours_66 ?_
  show jj_V g X _ _ _ _ _ _ (.ref (jj_ad g 44) :: _) _
  refine jj_iload_n dX5_soonestHours_69 2 rfl ?_
  refine jj_bipush (21) dX5_soonestHours_70 rfl ?_
  refine jj_irem dX5_soonestHours_72 (by decide) ?_
  refine jj_bipush (8) dX5_soonestHours_73 rfl ?_
  refine jj_imul dX5_soonestHours_75 ?_
  refine jj_iload_n dX5_soonestHours_76 1 rfl ?_
  refine jj_iadd dX5_soonestHours_77 ?_
  obtain ⟨g1, h⟩ := jj_ge h
  refine jj_iaload (k := 44) (n := 168) rfl g1 dX5_soonestHours_78 ?_
  refine jj_ldc (1000000) lk_5_59 dX5_soonestHours_79 ?_
  refine jj_icmp_ge 86 dX5_soonestHours_81 (by decide) (fun c2 => ?_) (fun c2 => ?_)
  · replace h := (if_pos c2).symm.trans h
    refine jj_iinc (x2 + 1) [(2, .int (x2 + 1)), (0, .ref (jj_ad g 41)), (1, .int x1)] dX5_soonestHours_86 2 rfl rfl (by decide) rfl ?_
    refine jj_goto 49 dX5_soonestHours_89 (by decide) ?_
    refine jj_sub [1, 2, 0] rfl ?_
    exact hk49 _ _ h
  · replace h := (if_neg c2).symm.trans h
    refine jj_iload_n dX5_soonestHours_84 2 rfl ?_
    exact jj_iret2 hF dX5_soonestHours_85 (Option.some.inj h)
def wyf_soonestHours_L49 (N : Nat)  (x1 : Int32) : Nat → Int32 → jj_M → Option (Int32 × jj_M)
  | 0, _, _ => none
  | n + 1, x2, μ => if 1600 < x2 then some ((-1, μ)) else if x2 ≤ 0 then wyf_soonestHours_B65 N (wyf_soonestHours_L49 N x1 n) x1 x2 μ else (wyf_arriveAt N x2 μ).bind fun q3 => wyf_soonestHours_B65 N (wyf_soonestHours_L49 N x1 n) x1 x2 q3
set_option maxRecDepth 100000 in
theorem t_wyf_soonestHours_L49 {g : jj_G} (d : Nat) {N : Nat}  {x1 : Int32}  {r : Int32} {μ' : jj_M} {X : jj_X}   (hF : jj_F g (some .int) (some (.int r)) μ' X)  : ∀ (n : Nat) (x2 : Int32) (μ : jj_M), wyf_soonestHours_L49 N x1 n x2 μ = some (r, μ') → jj_V g X RX5 cX5_soonestHours 3 (d + 4) 49 [(0, .ref (jj_ad g 41)), (1, .int x1), (2, .int x2)] [] μ := by
  intro n
  induction n with
  | zero =>
    intro x2 μ h
    exact (jj_no h).elim
  | succ n ih =>
    intro x2 μ h
    rw [wyf_soonestHours_L49] at h
    refine jj_iload_n dX5_soonestHours_49 2 rfl ?_
    refine jj_sipush (1600) dX5_soonestHours_50 rfl ?_
    refine jj_icmp_gt 92 dX5_soonestHours_53 (by decide) (fun c1 => ?_) (fun c1 => ?_)
    · replace h := (if_pos c1).symm.trans h
      refine jj_iconst (-1) dX5_soonestHours_92 rfl ?_
      exact jj_iret2 hF dX5_soonestHours_93 (Option.some.inj h)
    · replace h := (if_neg c1).symm.trans h
      refine jj_iload_n dX5_soonestHours_56 2 rfl ?_
      refine jj_if_le 65 dX5_soonestHours_57 (by decide) (fun c2 => ?_) (fun c2 => ?_)
      · replace h := (if_pos c2).symm.trans h
        refine jj_sub [0, 1, 2] rfl ?_
        exact t_wyf_soonestHours_B65 d   hF ih h
      · replace h := (if_neg c2).symm.trans h
        refine jj_aload_n dX5_soonestHours_60 0 rfl ?_
        refine jj_iload_n dX5_soonestHours_61 2 rfl ?_
        obtain ⟨q3, e3, h⟩ := jj_be h
        refine jj_callVv [.int x2] [] (c_wyf_arriveAt (d + 2)  e3) jm_wyf_arriveAt lk_5_93 (b := 41) rfl (by decide) (jj_E5 rfl) rfl rfl rfl (by omega) rfl (Nat.le_of_ble_eq_true rfl) dX5_soonestHours_62 ?_
        refine jj_sub [0, 1, 2] rfl ?_
        exact t_wyf_soonestHours_B65 d   hF ih h
def wyf_soonestHours (N : Nat) (x1 : Int32) (μ : jj_M) : Option (Int32 × jj_M) := (wyf_drinkWherePossible N μ).bind fun q1 => (jdf_fill N 44 168 1000000 q1.2).bind fun q2 => if jj_cg 0 0 8 8 168 then (some (jj_uc q2 44 (va_cpy (q2 43) (q2 44) (Int32.toNatClampNeg 0) (Int32.toNatClampNeg 0) (Int32.toNatClampNeg 8)))).bind fun m4 => (wyf_reached N m4).bind fun q5 => if (wyf_isIn (q5.1 &&& (q5.2 41 0)) x1) = 0 then some ((-1, q5.2)) else wyf_soonestHours_L49 N x1 N 0 q5.2 else none
set_option maxRecDepth 100000 in
theorem c_wyf_soonestHours {g : jj_G} (d : Nat) {N : Nat} {x1 : Int32} {μ : jj_M} {r : Int32} {μ' : jj_M}   (h : wyf_soonestHours N x1 μ = some (r, μ')) : jj_N g yX5_soonestHours cX5_soonestHours 3 (some .int) (d + 4) [.ref (jj_ad g 41), .int x1] μ (some (.int r)) μ' := by
  refine jj_N_of jn_5 (Nat.le_of_ble_eq_true rfl) (fun X hF => ?_)
  unfold wyf_soonestHours at h
  refine jj_sub (own := RX5) (lv2 := [(0, .ref (jj_ad g 41)), (1, .int x1)]) [0, 1] rfl ?_
  refine jj_aload_n dX5_soonestHours_0 0 rfl ?_
  obtain ⟨q1, e1, h⟩ := jj_be h
  refine jj_callVi [] [] (c_wyf_drinkWherePossible (d + 2)  e1) jm_wyf_drinkWherePossible lk_5_72 (b := 41) rfl (by decide) (jj_E5 rfl) rfl rfl rfl (by omega) rfl (Nat.le_of_ble_eq_true rfl) dX5_soonestHours_1 ?_
  refine jj_pop dX5_soonestHours_4 rfl ?_
  refine jj_aload_n dX5_soonestHours_5 0 rfl ?_
  refine jg_5_6 (k := 41) rfl lk_5_21 dX5_soonestHours_6 ?_
  show jj_V g X _ _ _ _ _ _ (.ref (jj_ad g 44) :: _) _
  refine jj_ldc (1000000) lk_5_59 dX5_soonestHours_9 ?_
  obtain ⟨q2, e2, h⟩ := jj_be h
  refine jj_callSv [.ref (jj_ad g 44), .int 1000000] [] (c_jdf_fill (d + 3) rfl e2) jm_jdf_fill lk_5_60 rfl (by omega) rfl (Nat.le_of_ble_eq_true rfl) dX5_soonestHours_11 ?_
  refine jj_aload_n dX5_soonestHours_14 0 rfl ?_
  refine jg_5_5 (k := 41) rfl lk_5_18 dX5_soonestHours_15 ?_
  show jj_V g X _ _ _ _ _ _ (.ref (jj_ad g 43) :: _) _
  refine jj_iconst (0) dX5_soonestHours_18 rfl ?_
  refine jj_aload_n dX5_soonestHours_19 0 rfl ?_
  refine jg_5_6 (k := 41) rfl lk_5_21 dX5_soonestHours_20 ?_
  show jj_V g X _ _ _ _ _ _ (.ref (jj_ad g 44) :: _) _
  refine jj_iconst (0) dX5_soonestHours_23 rfl ?_
  refine jj_bipush (8) dX5_soonestHours_24 rfl ?_
  obtain ⟨g3, h⟩ := jj_ge h
  refine jj_copy (k0 := 43) (k1 := 44) (n0 := 8) (n1 := 168) rfl rfl g3 (by omega) (Nat.le_of_ble_eq_true rfl) lk_5_84 dX5_soonestHours_26 ?_
  obtain ⟨m4, em4, h⟩ := jj_be h
  refine jj_mu em4 ?_
  refine jj_aload_n dX5_soonestHours_29 0 rfl ?_
  obtain ⟨q5, e5, h⟩ := jj_be h
  refine jj_callVi [] [] (c_wyf_reached (d + 0)  e5) jm_wyf_reached lk_5_90 (b := 41) rfl (by decide) (jj_E5 rfl) rfl rfl rfl (by omega) rfl (Nat.le_of_ble_eq_true rfl) dX5_soonestHours_30 ?_
  refine jj_aload_n dX5_soonestHours_33 0 rfl ?_
  refine jg_5_0 (k := 41) rfl lk_5_56 dX5_soonestHours_34 ?_
  refine jj_iand dX5_soonestHours_37 ?_
  refine jj_iload_n dX5_soonestHours_38 1 rfl ?_
  refine jj_callSi [.int (q5.1 &&& (q5.2 41 0)), .int x1] [] (c_wyf_isIn (d + 3)  rfl) jm_wyf_isIn lk_5_80 rfl (by omega) rfl (Nat.le_of_ble_eq_true rfl) dX5_soonestHours_39 ?_
  refine jj_if_ne 47 dX5_soonestHours_42 (by decide) (fun c6 => ?_) (fun c6 => ?_)
  · replace h := (if_neg c6).symm.trans h
    refine jj_iconst (0) dX5_soonestHours_47 rfl ?_
    refine jj_istore_n [(2, .int 0), (0, .ref (jj_ad g 41)), (1, .int x1)] dX5_soonestHours_48 (by decide) rfl ?_
    refine jj_sub [1, 2, 0] rfl ?_
    exact t_wyf_soonestHours_L49 d   hF  _ _ _ h
  · replace h := (if_pos c6).symm.trans h
    refine jj_iconst (-1) dX5_soonestHours_45 rfl ?_
    exact jj_iret2 hF dX5_soonestHours_46 (Option.some.inj h)
def wyf_fewestDrinks_L17 (N : Nat)  (x1 : Int32) : Nat → Int32 → Int32 → jj_M → Option (Int32 × jj_M)
  | 0, _, _, _ => none
  | n + 1, x2, x3, μ => if 8 < x3 then some ((-1, μ)) else if x2 = 0 then some ((-1, μ)) else (wyf_spread N 0 μ).bind fun q3 => if jj_i x1 8 then if 1000000 ≤ (q3 43 x1.toNatClampNeg) then (wyf_drinkWherePossible N q3).bind fun q6 => wyf_fewestDrinks_L17 N x1 n q6.1 (x3 + 1) q6.2 else some ((x3, q3)) else none
set_option maxRecDepth 100000 in
theorem t_wyf_fewestDrinks_L17 {g : jj_G} (d : Nat) {N : Nat}  {x1 : Int32}  {r : Int32} {μ' : jj_M} {X : jj_X}   (hF : jj_F g (some .int) (some (.int r)) μ' X)  : ∀ (n : Nat) (x2 : Int32) (x3 : Int32) (μ : jj_M), wyf_fewestDrinks_L17 N x1 n x2 x3 μ = some (r, μ') → jj_V g X RX5 cX5_fewestDrinks 4 (d + 3) 17 [(0, .ref (jj_ad g 41)), (1, .int x1), (2, .int x2), (3, .int x3)] [] μ := by
  intro n
  induction n with
  | zero =>
    intro x2 x3 μ h
    exact (jj_no h).elim
  | succ n ih =>
    intro x2 x3 μ h
    rw [wyf_fewestDrinks_L17] at h
    refine jj_iload_n dX5_fewestDrinks_17 3 rfl ?_
    refine jj_bipush (8) dX5_fewestDrinks_18 rfl ?_
    refine jj_icmp_gt 56 dX5_fewestDrinks_20 (by decide) (fun c1 => ?_) (fun c1 => ?_)
    · replace h := (if_pos c1).symm.trans h
      refine jj_iconst (-1) dX5_fewestDrinks_56 rfl ?_
      exact jj_iret2 hF dX5_fewestDrinks_57 (Option.some.inj h)
    · replace h := (if_neg c1).symm.trans h
      refine jj_iload_n dX5_fewestDrinks_23 2 rfl ?_
      refine jj_if_eq 56 dX5_fewestDrinks_24 (by decide) (fun c2 => ?_) (fun c2 => ?_)
      · replace h := (if_pos c2).symm.trans h
        refine jj_iconst (-1) dX5_fewestDrinks_56 rfl ?_
        exact jj_iret2 hF dX5_fewestDrinks_57 (Option.some.inj h)
      · replace h := (if_neg c2).symm.trans h
        refine jj_aload_n dX5_fewestDrinks_27 0 rfl ?_
        refine jj_iconst (0) dX5_fewestDrinks_28 rfl ?_
        obtain ⟨q3, e3, h⟩ := jj_be h
        refine jj_callVv [.int 0] [] (c_wyf_spread (d + 0)  e3) jm_wyf_spread lk_5_76 (b := 41) rfl (by decide) (jj_E5 rfl) rfl rfl rfl (by omega) rfl (Nat.le_of_ble_eq_true rfl) dX5_fewestDrinks_29 ?_
        refine jj_aload_n dX5_fewestDrinks_32 0 rfl ?_
        refine jg_5_5 (k := 41) rfl lk_5_18 dX5_fewestDrinks_33 ?_
        show jj_V g X _ _ _ _ _ _ (.ref (jj_ad g 43) :: _) _
        refine jj_iload_n dX5_fewestDrinks_36 1 rfl ?_
        obtain ⟨g4, h⟩ := jj_ge h
        refine jj_iaload (k := 43) (n := 8) rfl g4 dX5_fewestDrinks_37 ?_
        refine jj_ldc (1000000) lk_5_59 dX5_fewestDrinks_38 ?_
        refine jj_icmp_ge 45 dX5_fewestDrinks_40 (by decide) (fun c5 => ?_) (fun c5 => ?_)
        · replace h := (if_pos c5).symm.trans h
          refine jj_aload_n dX5_fewestDrinks_45 0 rfl ?_
          obtain ⟨q6, e6, h⟩ := jj_be h
          refine jj_callVi [] [] (c_wyf_drinkWherePossible (d + 1)  e6) jm_wyf_drinkWherePossible lk_5_72 (b := 41) rfl (by decide) (jj_E5 rfl) rfl rfl rfl (by omega) rfl (Nat.le_of_ble_eq_true rfl) dX5_fewestDrinks_46 ?_
          refine jj_istore_n [(2, .int q6.1), (0, .ref (jj_ad g 41)), (1, .int x1), (3, .int x3)] dX5_fewestDrinks_49 (by decide) rfl ?_
          refine jj_iinc (x3 + 1) [(3, .int (x3 + 1)), (2, .int q6.1), (0, .ref (jj_ad g 41)), (1, .int x1)] dX5_fewestDrinks_50 3 rfl rfl (by decide) rfl ?_
          refine jj_goto 17 dX5_fewestDrinks_53 (by decide) ?_
          refine jj_sub [2, 3, 1, 0] rfl ?_
          exact ih _ _ _ h
        · replace h := (if_neg c5).symm.trans h
          refine jj_iload_n dX5_fewestDrinks_43 3 rfl ?_
          exact jj_iret2 hF dX5_fewestDrinks_44 (Option.some.inj h)
def wyf_fewestDrinks (N : Nat) (x1 : Int32) (μ : jj_M) : Option (Int32 × jj_M) := if (wyf_isIn (μ 41 0) x1) = 0 then some ((-1, μ)) else wyf_fewestDrinks_L17 N x1 N 1 1 μ
set_option maxRecDepth 100000 in
theorem c_wyf_fewestDrinks {g : jj_G} (d : Nat) {N : Nat} {x1 : Int32} {μ : jj_M} {r : Int32} {μ' : jj_M}   (h : wyf_fewestDrinks N x1 μ = some (r, μ')) : jj_N g yX5_fewestDrinks cX5_fewestDrinks 4 (some .int) (d + 3) [.ref (jj_ad g 41), .int x1] μ (some (.int r)) μ' := by
  refine jj_N_of jn_5 (Nat.le_of_ble_eq_true rfl) (fun X hF => ?_)
  unfold wyf_fewestDrinks at h
  refine jj_sub (own := RX5) (lv2 := [(0, .ref (jj_ad g 41)), (1, .int x1)]) [0, 1] rfl ?_
  refine jj_aload_n dX5_fewestDrinks_0 0 rfl ?_
  refine jg_5_0 (k := 41) rfl lk_5_56 dX5_fewestDrinks_1 ?_
  refine jj_iload_n dX5_fewestDrinks_4 1 rfl ?_
  refine jj_callSi [.int (μ 41 0), .int x1] [] (c_wyf_isIn (d + 2)  rfl) jm_wyf_isIn lk_5_80 rfl (by omega) rfl (Nat.le_of_ble_eq_true rfl) dX5_fewestDrinks_5 ?_
  refine jj_if_ne 13 dX5_fewestDrinks_8 (by decide) (fun c1 => ?_) (fun c1 => ?_)
  · replace h := (if_neg c1).symm.trans h
    refine jj_iconst (1) dX5_fewestDrinks_13 rfl ?_
    refine jj_istore_n [(2, .int 1), (0, .ref (jj_ad g 41)), (1, .int x1)] dX5_fewestDrinks_14 (by decide) rfl ?_
    refine jj_iconst (1) dX5_fewestDrinks_15 rfl ?_
    refine jj_istore_n [(3, .int 1), (2, .int 1), (0, .ref (jj_ad g 41)), (1, .int x1)] dX5_fewestDrinks_16 (by decide) rfl ?_
    refine jj_sub [2, 3, 1, 0] rfl ?_
    exact t_wyf_fewestDrinks_L17 d   hF  _ _ _ _ h
  · replace h := (if_pos c1).symm.trans h
    refine jj_iconst (-1) dX5_fewestDrinks_11 rfl ?_
    exact jj_iret2 hF dX5_fewestDrinks_12 (Option.some.inj h)
def wnf_leastTill (N : Nat) (x1 : Int32) (x2 : Int32) (x3 : Int32) (x4 : Int32) (μ : jj_M) : Option (Int32 × jj_M) := if (wnf_isPerson x1 μ) = 0 then (wnf_refuse 1 μ).bind fun q2 => some ((q2.1, q2.2)) else if (wnf_isWell x2) = 0 then (wnf_refuse 1 μ).bind fun q4 => some ((q4.1, q4.2)) else if (wnf_areWells x3) = 0 then (wnf_refuse 1 μ).bind fun q18 => some ((q18.1, q18.2)) else if jj_i x1 6 then if (μ (5 + 4 + x1.toNatClampNeg) 5) = 0 then if (μ (5 + 4 + x1.toNatClampNeg) 3) = x2 then some ((0, μ)) else (wyf_think N (5 + 4 + x1.toNatClampNeg) x3 μ).bind fun q9 => if x4 = 0 then (wyf_fewestDrinks N x2 q9).bind fun q11 => if 0 ≤ q11.1 then some ((q11.1, q11.2)) else (wnf_refuse 2 q11.2).bind fun q13 => some ((q13.1, q13.2)) else (wyf_soonestHours N x2 q9).bind fun q14 => if 0 ≤ q14.1 then some ((q14.1, q14.2)) else (wnf_refuse 2 q14.2).bind fun q16 => some ((q16.1, q16.2)) else (wnf_refuse 3 μ).bind fun q17 => some ((q17.1, q17.2)) else none
set_option maxRecDepth 100000 in
theorem c_wnf_leastTill {g : jj_G} (d : Nat) {N : Nat} {x1 : Int32} {x2 : Int32} {x3 : Int32} {x4 : Int32} {μ : jj_M} {r : Int32} {μ' : jj_M}   (h : wnf_leastTill N x1 x2 x3 x4 μ = some (r, μ')) : jj_N g yX7_leastTill cX7_leastTill 7 (some .int) (d + 5) [.ref (jj_ad g 0), .int x1, .int x2, .int x3, .int x4] μ (some (.int r)) μ' := by
  refine jj_N_of jn_7 (Nat.le_of_ble_eq_true rfl) (fun X hF => ?_)
  unfold wnf_leastTill at h
  refine jj_sub (own := RX7) (lv2 := [(0, .ref (jj_ad g 0)), (1, .int x1), (2, .int x2), (3, .int x3), (4, .int x4)]) [0, 1, 2, 3, 4] rfl ?_
  refine jj_aload_n dX7_leastTill_0 0 rfl ?_
  refine jj_iload_n dX7_leastTill_1 1 rfl ?_
  refine jj_callVi [.int x1] [] (c_wnf_isPerson (d + 3)  rfl) jm_wnf_isPerson lk_7_108 (b := 0) rfl (by decide) (jj_E7 rfl) rfl rfl rfl (by omega) rfl (Nat.le_of_ble_eq_true rfl) dX7_leastTill_2 ?_
  refine jj_if_eq 22 dX7_leastTill_5 (by decide) (fun c1 => ?_) (fun c1 => ?_)
  · replace h := (if_pos c1).symm.trans h
    refine jj_aload_n dX7_leastTill_22 0 rfl ?_
    refine jj_iconst (1) dX7_leastTill_23 rfl ?_
    obtain ⟨q2, e2, h⟩ := jj_be h
    refine jj_callVi [.int 1] [] (c_wnf_refuse (d + 4)  e2) jm_wnf_refuse lk_7_59 (b := 0) rfl (by decide) (jj_E7 rfl) rfl rfl rfl (by omega) rfl (Nat.le_of_ble_eq_true rfl) dX7_leastTill_24 ?_
    exact jj_iret2 hF dX7_leastTill_27 (Option.some.inj h)
  · replace h := (if_neg c1).symm.trans h
    refine jj_iload_n dX7_leastTill_8 2 rfl ?_
    refine jj_callSi [.int x2] [] (c_wnf_isWell (d + 3)  rfl) jm_wnf_isWell lk_7_51 rfl (by omega) rfl (Nat.le_of_ble_eq_true rfl) dX7_leastTill_9 ?_
    refine jj_if_eq 22 dX7_leastTill_12 (by decide) (fun c3 => ?_) (fun c3 => ?_)
    · replace h := (if_pos c3).symm.trans h
      refine jj_aload_n dX7_leastTill_22 0 rfl ?_
      refine jj_iconst (1) dX7_leastTill_23 rfl ?_
      obtain ⟨q4, e4, h⟩ := jj_be h
      refine jj_callVi [.int 1] [] (c_wnf_refuse (d + 4)  e4) jm_wnf_refuse lk_7_59 (b := 0) rfl (by decide) (jj_E7 rfl) rfl rfl rfl (by omega) rfl (Nat.le_of_ble_eq_true rfl) dX7_leastTill_24 ?_
      exact jj_iret2 hF dX7_leastTill_27 (Option.some.inj h)
    · replace h := (if_neg c3).symm.trans h
      refine jj_iload_n dX7_leastTill_15 3 rfl ?_
      refine jj_callSi [.int x3] [] (c_wnf_areWells (d + 3)  rfl) jm_wnf_areWells lk_7_199 rfl (by omega) rfl (Nat.le_of_ble_eq_true rfl) dX7_leastTill_16 ?_
      refine jj_if_ne 28 dX7_leastTill_19 (by decide) (fun c5 => ?_) (fun c5 => ?_)
      · replace h := (if_neg c5).symm.trans h
        refine jj_aload_n dX7_leastTill_28 0 rfl ?_
        refine jg_7_0 (k := 0) rfl lk_7_10 dX7_leastTill_29 ?_
        show jj_V g X _ _ _ _ _ _ (.ref (jj_ad g 1) :: _) _
        refine jg_6_3 (k := 1) rfl lk_7_98 dX7_leastTill_32 ?_
        show jj_V g X _ _ _ _ _ _ (.ref (jj_ad g 5) :: _) _
        refine jj_iload_n dX7_leastTill_35 1 rfl ?_
        obtain ⟨g6, h⟩ := jj_ge h
        refine jj_aaload10 (k := 5) rfl g6 dX7_leastTill_36 ?_
        refine jj_astore [(5, .ref (jj_ad g (5 + 4 + x1.toNatClampNeg))), (0, .ref (jj_ad g 0)), (1, .int x1), (2, .int x2), (3, .int x3), (4, .int x4)] dX7_leastTill_37 (by decide) rfl ?_
        refine jj_aload dX7_leastTill_39 0 rfl ?_
        refine jg_1_5 (k := 5 + 4 + x1.toNatClampNeg) (jk_10 (k := 5) rfl g6) lk_7_126 dX7_leastTill_41 ?_
        refine jj_if_eq 53 dX7_leastTill_44 (by decide) (fun c7 => ?_) (fun c7 => ?_)
        · replace h := (if_pos c7).symm.trans h
          refine jj_aload dX7_leastTill_53 0 rfl ?_
          refine jg_1_3 (k := 5 + 4 + x1.toNatClampNeg) (jk_10 (k := 5) rfl g6) lk_7_120 dX7_leastTill_55 ?_
          refine jj_iload_n dX7_leastTill_58 3 rfl ?_
          refine jj_icmp_ne 64 dX7_leastTill_59 (by decide) (fun c8 => ?_) (fun c8 => ?_)
          · replace h := (if_neg c8).symm.trans h
            refine jj_aload_n dX7_leastTill_64 1 rfl ?_
            refine jg_7_2 (k := 0) rfl lk_7_22 dX7_leastTill_65 ?_
            show jj_V g X _ _ _ _ _ _ (.ref (jj_ad g 41) :: _) _
            refine jj_aload_n dX7_leastTill_68 1 rfl ?_
            refine jg_7_0 (k := 0) rfl lk_7_10 dX7_leastTill_69 ?_
            show jj_V g X _ _ _ _ _ _ (.ref (jj_ad g 1) :: _) _
            refine jj_aload dX7_leastTill_72 0 rfl ?_
            refine jj_iload_n dX7_leastTill_74 4 rfl ?_
            obtain ⟨q9, e9, h⟩ := jj_be h
            refine jj_callVv [.ref (jj_ad g 1), .ref (jj_ad g (5 + 4 + x1.toNatClampNeg)), .int x3] [] (c_wyf_think (d + 0) (jk_10 (k := 5) rfl g6) e9) jm_wyf_think lk_7_202 (b := 41) rfl (by decide) (jj_E5 rfl) rfl rfl rfl (by omega) rfl (Nat.le_of_ble_eq_true rfl) dX7_leastTill_75 ?_
            refine jj_iload dX7_leastTill_78 5 rfl ?_
            refine jj_if_eq 94 dX7_leastTill_80 (by decide) (fun c10 => ?_) (fun c10 => ?_)
            · replace h := (if_pos c10).symm.trans h
              refine jj_aload_n dX7_leastTill_94 1 rfl ?_
              refine jg_7_2 (k := 0) rfl lk_7_22 dX7_leastTill_95 ?_
              show jj_V g X _ _ _ _ _ _ (.ref (jj_ad g 41) :: _) _
              refine jj_iload_n dX7_leastTill_98 3 rfl ?_
              obtain ⟨q11, e11, h⟩ := jj_be h
              refine jj_callVi [.int x2] [] (c_wyf_fewestDrinks (d + 1)  e11) jm_wyf_fewestDrinks lk_7_328 (b := 41) rfl (by decide) (jj_E5 rfl) rfl rfl rfl (by omega) rfl (Nat.le_of_ble_eq_true rfl) dX7_leastTill_99 ?_
              refine jj_istore [(6, .int q11.1), (5, .ref (jj_ad g (5 + 4 + x1.toNatClampNeg))), (0, .ref (jj_ad g 0)), (1, .int x1), (2, .int x2), (3, .int x3), (4, .int x4)] dX7_leastTill_102 (by decide) rfl ?_
              refine jj_iload dX7_leastTill_104 0 rfl ?_
              refine jj_if_ge 117 dX7_leastTill_106 (by decide) (fun c12 => ?_) (fun c12 => ?_)
              · replace h := (if_pos c12).symm.trans h
                refine jj_iload dX7_leastTill_117 0 rfl ?_
                exact jj_iret2 hF dX7_leastTill_119 (Option.some.inj h)
              · replace h := (if_neg c12).symm.trans h
                refine jj_aload_n dX7_leastTill_109 2 rfl ?_
                refine jj_iconst (2) dX7_leastTill_110 rfl ?_
                obtain ⟨q13, e13, h⟩ := jj_be h
                refine jj_callVi [.int 2] [] (c_wnf_refuse (d + 4)  e13) jm_wnf_refuse lk_7_59 (b := 0) rfl (by decide) (jj_E7 rfl) rfl rfl rfl (by omega) rfl (Nat.le_of_ble_eq_true rfl) dX7_leastTill_111 ?_
                refine jj_goto 119 dX7_leastTill_114 (by decide) ?_
                exact jj_iret2 hF dX7_leastTill_119 (Option.some.inj h)
            · replace h := (if_neg c10).symm.trans h
              refine jj_aload_n dX7_leastTill_83 1 rfl ?_
              refine jg_7_2 (k := 0) rfl lk_7_22 dX7_leastTill_84 ?_
              show jj_V g X _ _ _ _ _ _ (.ref (jj_ad g 41) :: _) _
              refine jj_iload_n dX7_leastTill_87 3 rfl ?_
              obtain ⟨q14, e14, h⟩ := jj_be h
              refine jj_callVi [.int x2] [] (c_wyf_soonestHours (d + 0)  e14) jm_wyf_soonestHours lk_7_325 (b := 41) rfl (by decide) (jj_E5 rfl) rfl rfl rfl (by omega) rfl (Nat.le_of_ble_eq_true rfl) dX7_leastTill_88 ?_
              refine jj_goto 102 dX7_leastTill_91 (by decide) ?_
              refine jj_istore [(6, .int q14.1), (5, .ref (jj_ad g (5 + 4 + x1.toNatClampNeg))), (0, .ref (jj_ad g 0)), (1, .int x1), (2, .int x2), (3, .int x3), (4, .int x4)] dX7_leastTill_102 (by decide) rfl ?_
              refine jj_iload dX7_leastTill_104 0 rfl ?_
              refine jj_if_ge 117 dX7_leastTill_106 (by decide) (fun c15 => ?_) (fun c15 => ?_)
              · replace h := (if_pos c15).symm.trans h
                refine jj_iload dX7_leastTill_117 0 rfl ?_
                exact jj_iret2 hF dX7_leastTill_119 (Option.some.inj h)
              · replace h := (if_neg c15).symm.trans h
                refine jj_aload_n dX7_leastTill_109 2 rfl ?_
                refine jj_iconst (2) dX7_leastTill_110 rfl ?_
                obtain ⟨q16, e16, h⟩ := jj_be h
                refine jj_callVi [.int 2] [] (c_wnf_refuse (d + 4)  e16) jm_wnf_refuse lk_7_59 (b := 0) rfl (by decide) (jj_E7 rfl) rfl rfl rfl (by omega) rfl (Nat.le_of_ble_eq_true rfl) dX7_leastTill_111 ?_
                refine jj_goto 119 dX7_leastTill_114 (by decide) ?_
                exact jj_iret2 hF dX7_leastTill_119 (Option.some.inj h)
          · replace h := (if_pos c8).symm.trans h
            refine jj_iconst (0) dX7_leastTill_62 rfl ?_
            exact jj_iret2 hF dX7_leastTill_63 (Option.some.inj h)
        · replace h := (if_neg c7).symm.trans h
          refine jj_aload_n dX7_leastTill_47 1 rfl ?_
          refine jj_iconst (3) dX7_leastTill_48 rfl ?_
          obtain ⟨q17, e17, h⟩ := jj_be h
          refine jj_callVi [.int 3] [] (c_wnf_refuse (d + 4)  e17) jm_wnf_refuse lk_7_59 (b := 0) rfl (by decide) (jj_E7 rfl) rfl rfl rfl (by omega) rfl (Nat.le_of_ble_eq_true rfl) dX7_leastTill_49 ?_
          exact jj_iret2 hF dX7_leastTill_52 (Option.some.inj h)
      · replace h := (if_pos c5).symm.trans h
        refine jj_aload_n dX7_leastTill_22 0 rfl ?_
        refine jj_iconst (1) dX7_leastTill_23 rfl ?_
        obtain ⟨q18, e18, h⟩ := jj_be h
        refine jj_callVi [.int 1] [] (c_wnf_refuse (d + 4)  e18) jm_wnf_refuse lk_7_59 (b := 0) rfl (by decide) (jj_E7 rfl) rfl rfl rfl (by omega) rfl (Nat.le_of_ble_eq_true rfl) dX7_leastTill_24 ?_
        exact jj_iret2 hF dX7_leastTill_27 (Option.some.inj h)
def wnf_soonest (N : Nat) (x1 : Int32) (x2 : Int32) (x3 : Int32) (μ : jj_M) : Option (Int32 × jj_M) := (wnf_leastTill N x1 x2 x3 1 μ).bind fun q1 => some ((q1.1, q1.2))
set_option maxRecDepth 100000 in
theorem c_wnf_soonest {g : jj_G} (d : Nat) {N : Nat} {x1 : Int32} {x2 : Int32} {x3 : Int32} {μ : jj_M} {r : Int32} {μ' : jj_M}   (h : wnf_soonest N x1 x2 x3 μ = some (r, μ')) : jj_N g yX7_soonest cX7_soonest 4 (some .int) (d + 6) [.ref (jj_ad g 0), .int x1, .int x2, .int x3] μ (some (.int r)) μ' := by
  refine jj_N_of jn_7 (Nat.le_of_ble_eq_true rfl) (fun X hF => ?_)
  unfold wnf_soonest at h
  refine jj_sub (own := RX7) (lv2 := [(0, .ref (jj_ad g 0)), (1, .int x1), (2, .int x2), (3, .int x3)]) [0, 1, 2, 3] rfl ?_
  refine jj_aload_n dX7_soonest_0 0 rfl ?_
  refine jj_iload_n dX7_soonest_1 1 rfl ?_
  refine jj_iload_n dX7_soonest_2 2 rfl ?_
  refine jj_iload_n dX7_soonest_3 3 rfl ?_
  refine jj_iconst (1) dX7_soonest_4 rfl ?_
  obtain ⟨q1, e1, h⟩ := jj_be h
  refine jj_callVi [.int x1, .int x2, .int x3, .int 1] [] (c_wnf_leastTill (d + 0)  e1) jm_wnf_leastTill lk_7_195 (b := 0) rfl (by decide) (jj_E7 rfl) rfl rfl rfl (by omega) rfl (Nat.le_of_ble_eq_true rfl) dX7_soonest_5 ?_
  exact jj_iret2 hF dX7_soonest_8 (Option.some.inj h)
def wnf_drinks (N : Nat) (x1 : Int32) (x2 : Int32) (x3 : Int32) (μ : jj_M) : Option (Int32 × jj_M) := (wnf_leastTill N x1 x2 x3 0 μ).bind fun q1 => some ((q1.1, q1.2))
set_option maxRecDepth 100000 in
theorem c_wnf_drinks {g : jj_G} (d : Nat) {N : Nat} {x1 : Int32} {x2 : Int32} {x3 : Int32} {μ : jj_M} {r : Int32} {μ' : jj_M}   (h : wnf_drinks N x1 x2 x3 μ = some (r, μ')) : jj_N g yX7_drinks cX7_drinks 4 (some .int) (d + 6) [.ref (jj_ad g 0), .int x1, .int x2, .int x3] μ (some (.int r)) μ' := by
  refine jj_N_of jn_7 (Nat.le_of_ble_eq_true rfl) (fun X hF => ?_)
  unfold wnf_drinks at h
  refine jj_sub (own := RX7) (lv2 := [(0, .ref (jj_ad g 0)), (1, .int x1), (2, .int x2), (3, .int x3)]) [0, 1, 2, 3] rfl ?_
  refine jj_aload_n dX7_drinks_0 0 rfl ?_
  refine jj_iload_n dX7_drinks_1 1 rfl ?_
  refine jj_iload_n dX7_drinks_2 2 rfl ?_
  refine jj_iload_n dX7_drinks_3 3 rfl ?_
  refine jj_iconst (0) dX7_drinks_4 rfl ?_
  obtain ⟨q1, e1, h⟩ := jj_be h
  refine jj_callVi [.int x1, .int x2, .int x3, .int 0] [] (c_wnf_leastTill (d + 0)  e1) jm_wnf_leastTill lk_7_195 (b := 0) rfl (by decide) (jj_E7 rfl) rfl rfl rfl (by omega) rfl (Nat.le_of_ble_eq_true rfl) dX7_drinks_5 ?_
  exact jj_iret2 hF dX7_drinks_8 (Option.some.inj h)
def wnf_reach (N : Nat) (x1 : Int32) (x2 : Int32) (x3 : Int32) (μ : jj_M) : Option (Int32 × jj_M) := if (wnf_isPerson x1 μ) = 0 then (wnf_refuse 1 μ).bind fun q2 => some ((q2.1, q2.2)) else if (wnf_areWells x2) = 0 then (wnf_refuse 1 μ).bind fun q4 => some ((q4.1, q4.2)) else if (wnf_within x3 0 1) = 0 then (wnf_refuse 1 μ).bind fun q12 => some ((q12.1, q12.2)) else if jj_i x1 6 then if (μ (5 + 4 + x1.toNatClampNeg) 5) = 0 then (wyf_think N (5 + 4 + x1.toNatClampNeg) x2 μ).bind fun q8 => (wyf_reached N q8).bind fun q9 => if x3 = 0 then some ((q9.1, q9.2)) else some ((q9.1 &&& (q9.2 41 0), q9.2)) else (wnf_refuse 3 μ).bind fun q11 => some ((q11.1, q11.2)) else none
set_option maxRecDepth 100000 in
theorem c_wnf_reach {g : jj_G} (d : Nat) {N : Nat} {x1 : Int32} {x2 : Int32} {x3 : Int32} {μ : jj_M} {r : Int32} {μ' : jj_M}   (h : wnf_reach N x1 x2 x3 μ = some (r, μ')) : jj_N g yX7_reach cX7_reach 6 (some .int) (d + 5) [.ref (jj_ad g 0), .int x1, .int x2, .int x3] μ (some (.int r)) μ' := by
  refine jj_N_of jn_7 (Nat.le_of_ble_eq_true rfl) (fun X hF => ?_)
  unfold wnf_reach at h
  refine jj_sub (own := RX7) (lv2 := [(0, .ref (jj_ad g 0)), (1, .int x1), (2, .int x2), (3, .int x3)]) [0, 1, 2, 3] rfl ?_
  refine jj_aload_n dX7_reach_0 0 rfl ?_
  refine jj_iload_n dX7_reach_1 1 rfl ?_
  refine jj_callVi [.int x1] [] (c_wnf_isPerson (d + 3)  rfl) jm_wnf_isPerson lk_7_108 (b := 0) rfl (by decide) (jj_E7 rfl) rfl rfl rfl (by omega) rfl (Nat.le_of_ble_eq_true rfl) dX7_reach_2 ?_
  refine jj_if_eq 24 dX7_reach_5 (by decide) (fun c1 => ?_) (fun c1 => ?_)
  · replace h := (if_pos c1).symm.trans h
    refine jj_aload_n dX7_reach_24 0 rfl ?_
    refine jj_iconst (1) dX7_reach_25 rfl ?_
    obtain ⟨q2, e2, h⟩ := jj_be h
    refine jj_callVi [.int 1] [] (c_wnf_refuse (d + 4)  e2) jm_wnf_refuse lk_7_59 (b := 0) rfl (by decide) (jj_E7 rfl) rfl rfl rfl (by omega) rfl (Nat.le_of_ble_eq_true rfl) dX7_reach_26 ?_
    exact jj_iret2 hF dX7_reach_29 (Option.some.inj h)
  · replace h := (if_neg c1).symm.trans h
    refine jj_iload_n dX7_reach_8 2 rfl ?_
    refine jj_callSi [.int x2] [] (c_wnf_areWells (d + 3)  rfl) jm_wnf_areWells lk_7_199 rfl (by omega) rfl (Nat.le_of_ble_eq_true rfl) dX7_reach_9 ?_
    refine jj_if_eq 24 dX7_reach_12 (by decide) (fun c3 => ?_) (fun c3 => ?_)
    · replace h := (if_pos c3).symm.trans h
      refine jj_aload_n dX7_reach_24 0 rfl ?_
      refine jj_iconst (1) dX7_reach_25 rfl ?_
      obtain ⟨q4, e4, h⟩ := jj_be h
      refine jj_callVi [.int 1] [] (c_wnf_refuse (d + 4)  e4) jm_wnf_refuse lk_7_59 (b := 0) rfl (by decide) (jj_E7 rfl) rfl rfl rfl (by omega) rfl (Nat.le_of_ble_eq_true rfl) dX7_reach_26 ?_
      exact jj_iret2 hF dX7_reach_29 (Option.some.inj h)
    · replace h := (if_neg c3).symm.trans h
      refine jj_iload_n dX7_reach_15 3 rfl ?_
      refine jj_iconst (0) dX7_reach_16 rfl ?_
      refine jj_iconst (1) dX7_reach_17 rfl ?_
      refine jj_callSi [.int x3, .int 0, .int 1] [] (c_wnf_within (d + 4)  rfl) jm_wnf_within lk_7_55 rfl (by omega) rfl (Nat.le_of_ble_eq_true rfl) dX7_reach_18 ?_
      refine jj_if_ne 30 dX7_reach_21 (by decide) (fun c5 => ?_) (fun c5 => ?_)
      · replace h := (if_neg c5).symm.trans h
        refine jj_aload_n dX7_reach_30 0 rfl ?_
        refine jg_7_0 (k := 0) rfl lk_7_10 dX7_reach_31 ?_
        show jj_V g X _ _ _ _ _ _ (.ref (jj_ad g 1) :: _) _
        refine jg_6_3 (k := 1) rfl lk_7_98 dX7_reach_34 ?_
        show jj_V g X _ _ _ _ _ _ (.ref (jj_ad g 5) :: _) _
        refine jj_iload_n dX7_reach_37 1 rfl ?_
        obtain ⟨g6, h⟩ := jj_ge h
        refine jj_aaload10 (k := 5) rfl g6 dX7_reach_38 ?_
        refine jj_astore [(4, .ref (jj_ad g (5 + 4 + x1.toNatClampNeg))), (0, .ref (jj_ad g 0)), (1, .int x1), (2, .int x2), (3, .int x3)] dX7_reach_39 (by decide) rfl ?_
        refine jj_aload dX7_reach_41 0 rfl ?_
        refine jg_1_5 (k := 5 + 4 + x1.toNatClampNeg) (jk_10 (k := 5) rfl g6) lk_7_126 dX7_reach_43 ?_
        refine jj_if_eq 55 dX7_reach_46 (by decide) (fun c7 => ?_) (fun c7 => ?_)
        · replace h := (if_pos c7).symm.trans h
          refine jj_aload_n dX7_reach_55 1 rfl ?_
          refine jg_7_2 (k := 0) rfl lk_7_22 dX7_reach_56 ?_
          show jj_V g X _ _ _ _ _ _ (.ref (jj_ad g 41) :: _) _
          refine jj_aload_n dX7_reach_59 1 rfl ?_
          refine jg_7_0 (k := 0) rfl lk_7_10 dX7_reach_60 ?_
          show jj_V g X _ _ _ _ _ _ (.ref (jj_ad g 1) :: _) _
          refine jj_aload dX7_reach_63 0 rfl ?_
          refine jj_iload_n dX7_reach_65 3 rfl ?_
          obtain ⟨q8, e8, h⟩ := jj_be h
          refine jj_callVv [.ref (jj_ad g 1), .ref (jj_ad g (5 + 4 + x1.toNatClampNeg)), .int x2] [] (c_wyf_think (d + 0) (jk_10 (k := 5) rfl g6) e8) jm_wyf_think lk_7_202 (b := 41) rfl (by decide) (jj_E5 rfl) rfl rfl rfl (by omega) rfl (Nat.le_of_ble_eq_true rfl) dX7_reach_66 ?_
          refine jj_aload_n dX7_reach_69 1 rfl ?_
          refine jg_7_2 (k := 0) rfl lk_7_22 dX7_reach_70 ?_
          show jj_V g X _ _ _ _ _ _ (.ref (jj_ad g 41) :: _) _
          obtain ⟨q9, e9, h⟩ := jj_be h
          refine jj_callVi [] [] (c_wyf_reached (d + 1)  e9) jm_wyf_reached lk_7_206 (b := 41) rfl (by decide) (jj_E5 rfl) rfl rfl rfl (by omega) rfl (Nat.le_of_ble_eq_true rfl) dX7_reach_73 ?_
          refine jj_istore [(5, .int q9.1), (4, .ref (jj_ad g (5 + 4 + x1.toNatClampNeg))), (0, .ref (jj_ad g 0)), (1, .int x1), (2, .int x2), (3, .int x3)] dX7_reach_76 (by decide) rfl ?_
          refine jj_iload_n dX7_reach_78 5 rfl ?_
          refine jj_if_ne 87 dX7_reach_79 (by decide) (fun c10 => ?_) (fun c10 => ?_)
          · replace h := (if_neg c10).symm.trans h
            refine jj_iload dX7_reach_87 0 rfl ?_
            refine jj_aload_n dX7_reach_89 2 rfl ?_
            refine jg_7_2 (k := 0) rfl lk_7_22 dX7_reach_90 ?_
            show jj_V g X _ _ _ _ _ _ (.ref (jj_ad g 41) :: _) _
            refine jg_5_0 (k := 41) rfl lk_7_209 dX7_reach_93 ?_
            refine jj_iand dX7_reach_96 ?_
            exact jj_iret2 hF dX7_reach_97 (Option.some.inj h)
          · replace h := (if_pos c10).symm.trans h
            refine jj_iload dX7_reach_82 0 rfl ?_
            refine jj_goto 97 dX7_reach_84 (by decide) ?_
            exact jj_iret2 hF dX7_reach_97 (Option.some.inj h)
        · replace h := (if_neg c7).symm.trans h
          refine jj_aload_n dX7_reach_49 1 rfl ?_
          refine jj_iconst (3) dX7_reach_50 rfl ?_
          obtain ⟨q11, e11, h⟩ := jj_be h
          refine jj_callVi [.int 3] [] (c_wnf_refuse (d + 4)  e11) jm_wnf_refuse lk_7_59 (b := 0) rfl (by decide) (jj_E7 rfl) rfl rfl rfl (by omega) rfl (Nat.le_of_ble_eq_true rfl) dX7_reach_51 ?_
          exact jj_iret2 hF dX7_reach_54 (Option.some.inj h)
      · replace h := (if_pos c5).symm.trans h
        refine jj_aload_n dX7_reach_24 0 rfl ?_
        refine jj_iconst (1) dX7_reach_25 rfl ?_
        obtain ⟨q12, e12, h⟩ := jj_be h
        refine jj_callVi [.int 1] [] (c_wnf_refuse (d + 4)  e12) jm_wnf_refuse lk_7_59 (b := 0) rfl (by decide) (jj_E7 rfl) rfl rfl rfl (by omega) rfl (Nat.le_of_ble_eq_true rfl) dX7_reach_26 ?_
        exact jj_iret2 hF dX7_reach_29 (Option.some.inj h)
def wnf_dry_L69 (N : Nat)  (x2 : Int32) (p3 : Nat) : Nat → Int32 → Int32 → Int32 → jj_M → Option (Int32 × jj_M)
  | 0, _, _, _, _ => none
  | n + 1, x4, x5, x6, μ => if 8 ≤ x6 then if x2 = 0 then some ((x4, μ)) else some ((x5, μ)) else (wyf_startAgain N p3 (1 <<< (x6 &&& 31)) μ).bind fun q3 => (wyf_reached N q3).bind fun q4 => if x5 ≤ (jdf_bitCount (q4.1 &&& ((1 <<< (x6 &&& 31)) ^^^ (-1)))) then wnf_dry_L69 N x2 p3 n x4 x5 (x6 + 1) q4.2 else wnf_dry_L69 N x2 p3 n x6 (jdf_bitCount (q4.1 &&& ((1 <<< (x6 &&& 31)) ^^^ (-1)))) (x6 + 1) q4.2
set_option maxRecDepth 100000 in
theorem t_wnf_dry_L69 {g : jj_G} (d : Nat) {N : Nat}  {x2 : Int32} {p3 : Nat}  {r : Int32} {μ' : jj_M} {X : jj_X}  (hp3 : jj_kd p3 = 1) (hF : jj_F g (some .int) (some (.int r)) μ' X)  : ∀ (n : Nat) (x4 : Int32) (x5 : Int32) (x6 : Int32) (μ : jj_M), wnf_dry_L69 N x2 p3 n x4 x5 x6 μ = some (r, μ') → jj_V g X RX7 cX7_dry 8 (d + 5) 69 [(0, .ref (jj_ad g 0)), (2, .int x2), (3, .ref (jj_ad g p3)), (4, .int x4), (5, .int x5), (6, .int x6)] [] μ := by
  intro n
  induction n with
  | zero =>
    intro x4 x5 x6 μ h
    exact (jj_no h).elim
  | succ n ih =>
    intro x4 x5 x6 μ h
    rw [wnf_dry_L69] at h
    refine jj_iload dX7_dry_69 5 rfl ?_
    refine jj_bipush (8) dX7_dry_71 rfl ?_
    refine jj_icmp_ge 128 dX7_dry_73 (by decide) (fun c1 => ?_) (fun c1 => ?_)
    · replace h := (if_pos c1).symm.trans h
      refine jj_iload_n dX7_dry_128 1 rfl ?_
      refine jj_if_ne 137 dX7_dry_129 (by decide) (fun c2 => ?_) (fun c2 => ?_)
      · replace h := (if_neg c2).symm.trans h
        refine jj_iload dX7_dry_137 4 rfl ?_
        exact jj_iret2 hF dX7_dry_139 (Option.some.inj h)
      · replace h := (if_pos c2).symm.trans h
        refine jj_iload dX7_dry_132 3 rfl ?_
        refine jj_goto 139 dX7_dry_134 (by decide) ?_
        exact jj_iret2 hF dX7_dry_139 (Option.some.inj h)
    · replace h := (if_neg c1).symm.trans h
      refine jj_aload_n dX7_dry_76 0 rfl ?_
      refine jg_7_2 (k := 0) rfl lk_7_22 dX7_dry_77 ?_
      show jj_V g X _ _ _ _ _ _ (.ref (jj_ad g 41) :: _) _
      refine jj_aload_n dX7_dry_80 2 rfl ?_
      refine jj_iconst (1) dX7_dry_81 rfl ?_
      refine jj_iload dX7_dry_82 5 rfl ?_
      refine jj_ishl dX7_dry_84 ?_
      obtain ⟨q3, e3, h⟩ := jj_be h
      refine jj_callVv [.ref (jj_ad g p3), .int (1 <<< (x6 &&& 31))] [] (c_wyf_startAgain (d + 3) hp3 e3) jm_wyf_startAgain lk_7_212 (b := 41) rfl (by decide) (jj_E5 rfl) rfl rfl rfl (by omega) rfl (Nat.le_of_ble_eq_true rfl) dX7_dry_85 ?_
      refine jj_aload_n dX7_dry_88 0 rfl ?_
      refine jg_7_2 (k := 0) rfl lk_7_22 dX7_dry_89 ?_
      show jj_V g X _ _ _ _ _ _ (.ref (jj_ad g 41) :: _) _
      obtain ⟨q4, e4, h⟩ := jj_be h
      refine jj_callVi [] [] (c_wyf_reached (d + 1)  e4) jm_wyf_reached lk_7_206 (b := 41) rfl (by decide) (jj_E5 rfl) rfl rfl rfl (by omega) rfl (Nat.le_of_ble_eq_true rfl) dX7_dry_92 ?_
      refine jj_iconst (1) dX7_dry_95 rfl ?_
      refine jj_iload dX7_dry_96 5 rfl ?_
      refine jj_ishl dX7_dry_98 ?_
      refine jj_iconst (-1) dX7_dry_99 rfl ?_
      refine jj_ixor dX7_dry_100 ?_
      refine jj_iand dX7_dry_101 ?_
      refine jj_callSi [.int (q4.1 &&& ((1 <<< (x6 &&& 31)) ^^^ (-1)))] [] (c_jdf_bitCount (d + 4)  rfl) jm_jdf_bitCount lk_7_216 rfl (by omega) rfl (Nat.le_of_ble_eq_true rfl) dX7_dry_102 ?_
      refine jj_istore [(7, .int (jdf_bitCount (q4.1 &&& ((1 <<< (x6 &&& 31)) ^^^ (-1))))), (0, .ref (jj_ad g 0)), (2, .int x2), (3, .ref (jj_ad g p3)), (4, .int x4), (5, .int x5), (6, .int x6)] dX7_dry_105 (by decide) rfl ?_
      refine jj_iload dX7_dry_107 0 rfl ?_
      refine jj_iload dX7_dry_109 5 rfl ?_
      refine jj_icmp_ge 122 dX7_dry_111 (by decide) (fun c5 => ?_) (fun c5 => ?_)
      · replace h := (if_pos c5).symm.trans h
        refine jj_iinc (x6 + 1) [(6, .int (x6 + 1)), (7, .int (jdf_bitCount (q4.1 &&& ((1 <<< (x6 &&& 31)) ^^^ (-1))))), (0, .ref (jj_ad g 0)), (2, .int x2), (3, .ref (jj_ad g p3)), (4, .int x4), (5, .int x5)] dX7_dry_122 6 rfl rfl (by decide) rfl ?_
        refine jj_goto 69 dX7_dry_125 (by decide) ?_
        refine jj_sub [2, 3, 4, 5, 6, 0] rfl ?_
        exact ih _ _ _ _ h
      · replace h := (if_neg c5).symm.trans h
        refine jj_iload dX7_dry_114 0 rfl ?_
        refine jj_istore [(5, .int (jdf_bitCount (q4.1 &&& ((1 <<< (x6 &&& 31)) ^^^ (-1))))), (7, .int (jdf_bitCount (q4.1 &&& ((1 <<< (x6 &&& 31)) ^^^ (-1))))), (0, .ref (jj_ad g 0)), (2, .int x2), (3, .ref (jj_ad g p3)), (4, .int x4), (6, .int x6)] dX7_dry_116 (by decide) rfl ?_
        refine jj_iload dX7_dry_118 6 rfl ?_
        refine jj_istore [(4, .int x6), (5, .int (jdf_bitCount (q4.1 &&& ((1 <<< (x6 &&& 31)) ^^^ (-1))))), (7, .int (jdf_bitCount (q4.1 &&& ((1 <<< (x6 &&& 31)) ^^^ (-1))))), (0, .ref (jj_ad g 0)), (2, .int x2), (3, .ref (jj_ad g p3)), (6, .int x6)] dX7_dry_120 (by decide) rfl ?_
        refine jj_iinc (x6 + 1) [(6, .int (x6 + 1)), (4, .int x6), (5, .int (jdf_bitCount (q4.1 &&& ((1 <<< (x6 &&& 31)) ^^^ (-1))))), (7, .int (jdf_bitCount (q4.1 &&& ((1 <<< (x6 &&& 31)) ^^^ (-1))))), (0, .ref (jj_ad g 0)), (2, .int x2), (3, .ref (jj_ad g p3))] dX7_dry_122 6 rfl rfl (by decide) rfl ?_
        refine jj_goto 69 dX7_dry_125 (by decide) ?_
        refine jj_sub [4, 5, 6, 1, 2, 0] rfl ?_
        exact ih _ _ _ _ h
def wnf_dry (N : Nat) (x1 : Int32) (x2 : Int32) (μ : jj_M) : Option (Int32 × jj_M) := if (wnf_isPerson x1 μ) = 0 then (wnf_refuse 1 μ).bind fun q2 => some ((q2.1, q2.2)) else if (wnf_within x2 0 1) = 0 then (wnf_refuse 1 μ).bind fun q8 => some ((q8.1, q8.2)) else if jj_i x1 6 then if (μ (5 + 4 + x1.toNatClampNeg) 5) = 0 then (wyf_think N (5 + 4 + x1.toNatClampNeg) 0 μ).bind fun q6 => wnf_dry_L69 N x2 (5 + 4 + x1.toNatClampNeg) N 0 8 0 q6 else (wnf_refuse 3 μ).bind fun q7 => some ((q7.1, q7.2)) else none
set_option maxRecDepth 100000 in
theorem c_wnf_dry {g : jj_G} (d : Nat) {N : Nat} {x1 : Int32} {x2 : Int32} {μ : jj_M} {r : Int32} {μ' : jj_M}   (h : wnf_dry N x1 x2 μ = some (r, μ')) : jj_N g yX7_dry cX7_dry 8 (some .int) (d + 5) [.ref (jj_ad g 0), .int x1, .int x2] μ (some (.int r)) μ' := by
  refine jj_N_of jn_7 (Nat.le_of_ble_eq_true rfl) (fun X hF => ?_)
  unfold wnf_dry at h
  refine jj_sub (own := RX7) (lv2 := [(0, .ref (jj_ad g 0)), (1, .int x1), (2, .int x2)]) [0, 1, 2] rfl ?_
  refine jj_aload_n dX7_dry_0 0 rfl ?_
  refine jj_iload_n dX7_dry_1 1 rfl ?_
  refine jj_callVi [.int x1] [] (c_wnf_isPerson (d + 3)  rfl) jm_wnf_isPerson lk_7_108 (b := 0) rfl (by decide) (jj_E7 rfl) rfl rfl rfl (by omega) rfl (Nat.le_of_ble_eq_true rfl) dX7_dry_2 ?_
  refine jj_if_eq 17 dX7_dry_5 (by decide) (fun c1 => ?_) (fun c1 => ?_)
  · replace h := (if_pos c1).symm.trans h
    refine jj_aload_n dX7_dry_17 0 rfl ?_
    refine jj_iconst (1) dX7_dry_18 rfl ?_
    obtain ⟨q2, e2, h⟩ := jj_be h
    refine jj_callVi [.int 1] [] (c_wnf_refuse (d + 4)  e2) jm_wnf_refuse lk_7_59 (b := 0) rfl (by decide) (jj_E7 rfl) rfl rfl rfl (by omega) rfl (Nat.le_of_ble_eq_true rfl) dX7_dry_19 ?_
    exact jj_iret2 hF dX7_dry_22 (Option.some.inj h)
  · replace h := (if_neg c1).symm.trans h
    refine jj_iload_n dX7_dry_8 2 rfl ?_
    refine jj_iconst (0) dX7_dry_9 rfl ?_
    refine jj_iconst (1) dX7_dry_10 rfl ?_
    refine jj_callSi [.int x2, .int 0, .int 1] [] (c_wnf_within (d + 4)  rfl) jm_wnf_within lk_7_55 rfl (by omega) rfl (Nat.le_of_ble_eq_true rfl) dX7_dry_11 ?_
    refine jj_if_ne 23 dX7_dry_14 (by decide) (fun c3 => ?_) (fun c3 => ?_)
    · replace h := (if_neg c3).symm.trans h
      refine jj_aload_n dX7_dry_23 0 rfl ?_
      refine jg_7_0 (k := 0) rfl lk_7_10 dX7_dry_24 ?_
      show jj_V g X _ _ _ _ _ _ (.ref (jj_ad g 1) :: _) _
      refine jg_6_3 (k := 1) rfl lk_7_98 dX7_dry_27 ?_
      show jj_V g X _ _ _ _ _ _ (.ref (jj_ad g 5) :: _) _
      refine jj_iload_n dX7_dry_30 1 rfl ?_
      obtain ⟨g4, h⟩ := jj_ge h
      refine jj_aaload10 (k := 5) rfl g4 dX7_dry_31 ?_
      refine jj_astore_n [(3, .ref (jj_ad g (5 + 4 + x1.toNatClampNeg))), (0, .ref (jj_ad g 0)), (1, .int x1), (2, .int x2)] dX7_dry_32 (by decide) rfl ?_
      refine jj_aload_n dX7_dry_33 0 rfl ?_
      refine jg_1_5 (k := 5 + 4 + x1.toNatClampNeg) (jk_10 (k := 5) rfl g4) lk_7_126 dX7_dry_34 ?_
      refine jj_if_eq 46 dX7_dry_37 (by decide) (fun c5 => ?_) (fun c5 => ?_)
      · replace h := (if_pos c5).symm.trans h
        refine jj_iconst (0) dX7_dry_46 rfl ?_
        refine jj_istore [(4, .int 0), (3, .ref (jj_ad g (5 + 4 + x1.toNatClampNeg))), (0, .ref (jj_ad g 0)), (1, .int x1), (2, .int x2)] dX7_dry_47 (by decide) rfl ?_
        refine jj_bipush (8) dX7_dry_49 rfl ?_
        refine jj_istore [(5, .int 8), (4, .int 0), (3, .ref (jj_ad g (5 + 4 + x1.toNatClampNeg))), (0, .ref (jj_ad g 0)), (1, .int x1), (2, .int x2)] dX7_dry_51 (by decide) rfl ?_
        refine jj_aload_n dX7_dry_53 3 rfl ?_
        refine jg_7_2 (k := 0) rfl lk_7_22 dX7_dry_54 ?_
        show jj_V g X _ _ _ _ _ _ (.ref (jj_ad g 41) :: _) _
        refine jj_aload_n dX7_dry_57 3 rfl ?_
        refine jg_7_0 (k := 0) rfl lk_7_10 dX7_dry_58 ?_
        show jj_V g X _ _ _ _ _ _ (.ref (jj_ad g 1) :: _) _
        refine jj_aload_n dX7_dry_61 2 rfl ?_
        refine jj_iconst (0) dX7_dry_62 rfl ?_
        obtain ⟨q6, e6, h⟩ := jj_be h
        refine jj_callVv [.ref (jj_ad g 1), .ref (jj_ad g (5 + 4 + x1.toNatClampNeg)), .int 0] [] (c_wyf_think (d + 0) (jk_10 (k := 5) rfl g4) e6) jm_wyf_think lk_7_202 (b := 41) rfl (by decide) (jj_E5 rfl) rfl rfl rfl (by omega) rfl (Nat.le_of_ble_eq_true rfl) dX7_dry_63 ?_
        refine jj_iconst (0) dX7_dry_66 rfl ?_
        refine jj_istore [(6, .int 0), (5, .int 8), (4, .int 0), (3, .ref (jj_ad g (5 + 4 + x1.toNatClampNeg))), (0, .ref (jj_ad g 0)), (1, .int x1), (2, .int x2)] dX7_dry_67 (by decide) rfl ?_
        refine jj_sub [4, 6, 3, 2, 1, 0] rfl ?_
        exact t_wnf_dry_L69 d  (jk_10 (k := 5) rfl g4) hF  _ _ _ _ _ h
      · replace h := (if_neg c5).symm.trans h
        refine jj_aload_n dX7_dry_40 1 rfl ?_
        refine jj_iconst (3) dX7_dry_41 rfl ?_
        obtain ⟨q7, e7, h⟩ := jj_be h
        refine jj_callVi [.int 3] [] (c_wnf_refuse (d + 4)  e7) jm_wnf_refuse lk_7_59 (b := 0) rfl (by decide) (jj_E7 rfl) rfl rfl rfl (by omega) rfl (Nat.le_of_ble_eq_true rfl) dX7_dry_42 ?_
        exact jj_iret2 hF dX7_dry_45 (Option.some.inj h)
    · replace h := (if_pos c3).symm.trans h
      refine jj_aload_n dX7_dry_17 0 rfl ?_
      refine jj_iconst (1) dX7_dry_18 rfl ?_
      obtain ⟨q8, e8, h⟩ := jj_be h
      refine jj_callVi [.int 1] [] (c_wnf_refuse (d + 4)  e8) jm_wnf_refuse lk_7_59 (b := 0) rfl (by decide) (jj_E7 rfl) rfl rfl rfl (by omega) rfl (Nat.le_of_ble_eq_true rfl) dX7_dry_19 ?_
      exact jj_iret2 hF dX7_dry_22 (Option.some.inj h)
def wyf_nearestOutside_L4 (N : Nat)  (x1 : Int32) (μ : jj_M) : Nat → Int32 → Int32 → Option (Int32)
  | 0, _, _ => none
  | n + 1, x2, x3 => if 8 ≤ x3 then some x2 else if (wyf_isIn x1 x3) = 0 then if jj_i x3 8 then if 1000000 ≤ (μ 43 x3.toNatClampNeg) then wyf_nearestOutside_L4 N x1 μ n x2 (x3 + 1) else if x2 < 0 then wyf_nearestOutside_L4 N x1 μ n x3 (x3 + 1) else if jj_i x3 8 then if jj_i x2 8 then if (μ 43 x2.toNatClampNeg) ≤ (μ 43 x3.toNatClampNeg) then wyf_nearestOutside_L4 N x1 μ n x2 (x3 + 1) else wyf_nearestOutside_L4 N x1 μ n x3 (x3 + 1) else none else none else none else wyf_nearestOutside_L4 N x1 μ n x2 (x3 + 1)
set_option maxRecDepth 100000 in
theorem t_wyf_nearestOutside_L4 {g : jj_G} (d : Nat) {N : Nat}  {x1 : Int32} {μ : jj_M}  {r : Int32} {X : jj_X}   (hF : jj_F g (some .int) (some (.int r)) μ X)  : ∀ (n : Nat) (x2 : Int32) (x3 : Int32), wyf_nearestOutside_L4 N x1 μ n x2 x3 = some r → jj_V g X RX5 cX5_nearestOutside 4 (d + 1) 4 [(0, .ref (jj_ad g 41)), (1, .int x1), (2, .int x2), (3, .int x3)] [] μ := by
  intro n
  induction n with
  | zero =>
    intro x2 x3 h
    exact (jj_no h).elim
  | succ n ih =>
    intro x2 x3 h
    rw [wyf_nearestOutside_L4] at h
    refine jj_iload_n dX5_nearestOutside_4 3 rfl ?_
    refine jj_bipush (8) dX5_nearestOutside_5 rfl ?_
    refine jj_icmp_ge 56 dX5_nearestOutside_7 (by decide) (fun c1 => ?_) (fun c1 => ?_)
    · replace h := (if_pos c1).symm.trans h
      refine jj_iload_n dX5_nearestOutside_56 2 rfl ?_
      exact jj_iret1 hF dX5_nearestOutside_57 (Option.some.inj h)
    · replace h := (if_neg c1).symm.trans h
      refine jj_iload_n dX5_nearestOutside_10 1 rfl ?_
      refine jj_iload_n dX5_nearestOutside_11 3 rfl ?_
      refine jj_callSi [.int x1, .int x3] [] (c_wyf_isIn (d + 0)  rfl) jm_wyf_isIn lk_5_80 rfl (by omega) rfl (Nat.le_of_ble_eq_true rfl) dX5_nearestOutside_12 ?_
      refine jj_if_ne 50 dX5_nearestOutside_15 (by decide) (fun c2 => ?_) (fun c2 => ?_)
      · replace h := (if_neg c2).symm.trans h
        refine jj_iinc (x3 + 1) [(3, .int (x3 + 1)), (0, .ref (jj_ad g 41)), (1, .int x1), (2, .int x2)] dX5_nearestOutside_50 3 rfl rfl (by decide) rfl ?_
        refine jj_goto 4 dX5_nearestOutside_53 (by decide) ?_
        refine jj_sub [1, 2, 3, 0] rfl ?_
        exact ih _ _ h
      · replace h := (if_pos c2).symm.trans h
        refine jj_aload_n dX5_nearestOutside_18 0 rfl ?_
        refine jg_5_5 (k := 41) rfl lk_5_18 dX5_nearestOutside_19 ?_
        show jj_V g X _ _ _ _ _ _ (.ref (jj_ad g 43) :: _) _
        refine jj_iload_n dX5_nearestOutside_22 3 rfl ?_
        obtain ⟨g3, h⟩ := jj_ge h
        refine jj_iaload (k := 43) (n := 8) rfl g3 dX5_nearestOutside_23 ?_
        refine jj_ldc (1000000) lk_5_59 dX5_nearestOutside_24 ?_
        refine jj_icmp_ge 50 dX5_nearestOutside_26 (by decide) (fun c4 => ?_) (fun c4 => ?_)
        · replace h := (if_pos c4).symm.trans h
          refine jj_iinc (x3 + 1) [(3, .int (x3 + 1)), (0, .ref (jj_ad g 41)), (1, .int x1), (2, .int x2)] dX5_nearestOutside_50 3 rfl rfl (by decide) rfl ?_
          refine jj_goto 4 dX5_nearestOutside_53 (by decide) ?_
          refine jj_sub [1, 2, 3, 0] rfl ?_
          exact ih _ _ h
        · replace h := (if_neg c4).symm.trans h
          refine jj_iload_n dX5_nearestOutside_29 2 rfl ?_
          refine jj_if_lt 48 dX5_nearestOutside_30 (by decide) (fun c5 => ?_) (fun c5 => ?_)
          · replace h := (if_pos c5).symm.trans h
            refine jj_iload_n dX5_nearestOutside_48 3 rfl ?_
            refine jj_istore_n [(2, .int x3), (0, .ref (jj_ad g 41)), (1, .int x1), (3, .int x3)] dX5_nearestOutside_49 (by decide) rfl ?_
            refine jj_iinc (x3 + 1) [(3, .int (x3 + 1)), (2, .int x3), (0, .ref (jj_ad g 41)), (1, .int x1)] dX5_nearestOutside_50 3 rfl rfl (by decide) rfl ?_
            refine jj_goto 4 dX5_nearestOutside_53 (by decide) ?_
            refine jj_sub [2, 3, 1, 0] rfl ?_
            exact ih _ _ h
          · replace h := (if_neg c5).symm.trans h
            refine jj_aload_n dX5_nearestOutside_33 0 rfl ?_
            refine jg_5_5 (k := 41) rfl lk_5_18 dX5_nearestOutside_34 ?_
            show jj_V g X _ _ _ _ _ _ (.ref (jj_ad g 43) :: _) _
            refine jj_iload_n dX5_nearestOutside_37 3 rfl ?_
            obtain ⟨g6, h⟩ := jj_ge h
            refine jj_iaload (k := 43) (n := 8) rfl g6 dX5_nearestOutside_38 ?_
            refine jj_aload_n dX5_nearestOutside_39 0 rfl ?_
            refine jg_5_5 (k := 41) rfl lk_5_18 dX5_nearestOutside_40 ?_
            show jj_V g X _ _ _ _ _ _ (.ref (jj_ad g 43) :: _) _
            refine jj_iload_n dX5_nearestOutside_43 2 rfl ?_
            obtain ⟨g7, h⟩ := jj_ge h
            refine jj_iaload (k := 43) (n := 8) rfl g7 dX5_nearestOutside_44 ?_
            refine jj_icmp_ge 50 dX5_nearestOutside_45 (by decide) (fun c8 => ?_) (fun c8 => ?_)
            · replace h := (if_pos c8).symm.trans h
              refine jj_iinc (x3 + 1) [(3, .int (x3 + 1)), (0, .ref (jj_ad g 41)), (1, .int x1), (2, .int x2)] dX5_nearestOutside_50 3 rfl rfl (by decide) rfl ?_
              refine jj_goto 4 dX5_nearestOutside_53 (by decide) ?_
              refine jj_sub [1, 2, 3, 0] rfl ?_
              exact ih _ _ h
            · replace h := (if_neg c8).symm.trans h
              refine jj_iload_n dX5_nearestOutside_48 3 rfl ?_
              refine jj_istore_n [(2, .int x3), (0, .ref (jj_ad g 41)), (1, .int x1), (3, .int x3)] dX5_nearestOutside_49 (by decide) rfl ?_
              refine jj_iinc (x3 + 1) [(3, .int (x3 + 1)), (2, .int x3), (0, .ref (jj_ad g 41)), (1, .int x1)] dX5_nearestOutside_50 3 rfl rfl (by decide) rfl ?_
              refine jj_goto 4 dX5_nearestOutside_53 (by decide) ?_
              refine jj_sub [2, 3, 1, 0] rfl ?_
              exact ih _ _ h
def wyf_nearestOutside (N : Nat) (x1 : Int32) (μ : jj_M) : Option (Int32) := wyf_nearestOutside_L4 N x1 μ N (-1) 0
set_option maxRecDepth 100000 in
theorem c_wyf_nearestOutside {g : jj_G} (d : Nat) {N : Nat} {x1 : Int32} {μ : jj_M} {r : Int32}   (h : wyf_nearestOutside N x1 μ = some r) : jj_N g yX5_nearestOutside cX5_nearestOutside 4 (some .int) (d + 1) [.ref (jj_ad g 41), .int x1] μ (some (.int r)) μ := by
  refine jj_N_of jn_5 (Nat.le_of_ble_eq_true rfl) (fun X hF => ?_)
  unfold wyf_nearestOutside at h
  refine jj_sub (own := RX5) (lv2 := [(0, .ref (jj_ad g 41)), (1, .int x1)]) [0, 1] rfl ?_
  refine jj_iconst (-1) dX5_nearestOutside_0 rfl ?_
  refine jj_istore_n [(2, .int (-1)), (0, .ref (jj_ad g 41)), (1, .int x1)] dX5_nearestOutside_1 (by decide) rfl ?_
  refine jj_iconst (0) dX5_nearestOutside_2 rfl ?_
  refine jj_istore_n [(3, .int 0), (2, .int (-1)), (0, .ref (jj_ad g 41)), (1, .int x1)] dX5_nearestOutside_3 (by decide) rfl ?_
  refine jj_sub [2, 3, 1, 0] rfl ?_
  exact t_wyf_nearestOutside_L4 d   hF  _ _ _ h
def wyf_leastNet_L69 (N : Nat) (k28 : Int32 → Int32 → Int32 → jj_M → Option (Int32 × jj_M)) (x2 : Int32) (x3 : Int32) (x4 : Int32) (x5 : Int32) : Nat → Int32 → jj_M → Option (Int32 × jj_M)
  | 0, _, _ => none
  | n + 1, x6, μ => if 8 ≤ x6 then k28 x2 x3 (x4 + 1) μ else if jj_i ((x5 * 8) + x6) 64 then if (μ 72 ((x5 * 8) + x6).toNatClampNeg) ≤ 0 then wyf_leastNet_L69 N k28 x2 x3 x4 x5 n (x6 + 1) μ else if jj_i x6 8 then if jj_i x6 8 then (some (jj_u μ 43 x6.toNatClampNeg (jdf_min (μ 43 x6.toNatClampNeg) (μ 72 ((x5 * 8) + x6).toNatClampNeg)))).bind fun m6 => wyf_leastNet_L69 N k28 x2 x3 x4 x5 n (x6 + 1) m6 else none else none else none
set_option maxRecDepth 100000 in
theorem t_wyf_leastNet_L69 {g : jj_G} (d : Nat) {N : Nat} {k28 : Int32 → Int32 → Int32 → jj_M → Option (Int32 × jj_M)} {x2 : Int32} {x3 : Int32} {x4 : Int32} {x5 : Int32}  {r : Int32} {μ' : jj_M} {X : jj_X}   (hF : jj_F g (some .int) (some (.int r)) μ' X) (hk28 : ∀ (x2 : Int32) (x3 : Int32) (x4 : Int32) (μ : jj_M), k28 x2 x3 x4 μ = some (r, μ') → jj_V g X RX5 cX5_leastNet 8 (d + 2) 28 [(0, .ref (jj_ad g 41)), (2, .int x2), (3, .int x3), (4, .int x4)] [] μ) : ∀ (n : Nat) (x6 : Int32) (μ : jj_M), wyf_leastNet_L69 N k28 x2 x3 x4 x5 n x6 μ = some (r, μ') → jj_V g X RX5 cX5_leastNet 8 (d + 2) 69 [(0, .ref (jj_ad g 41)), (2, .int x2), (3, .int x3), (4, .int x4), (5, .int x5), (6, .int x6)] [] μ := by
  intro n
  induction n with
  | zero =>
    intro x6 μ h
    exact (jj_no h).elim
  | succ n ih =>
    intro x6 μ h
    rw [wyf_leastNet_L69] at h
    refine jj_iload dX5_leastNet_69 5 rfl ?_
    refine jj_bipush (8) dX5_leastNet_71 rfl ?_
    refine jj_icmp_ge 121 dX5_leastNet_73 (by decide) (fun c1 => ?_) (fun c1 => ?_)
    · replace h := (if_pos c1).symm.trans h
      refine jj_iinc (x4 + 1) [(4, .int (x4 + 1)), (0, .ref (jj_ad g 41)), (2, .int x2), (3, .int x3), (5, .int x5), (6, .int x6)] dX5_leastNet_121 3 rfl rfl (by decide) rfl ?_
      refine jj_goto 28 dX5_leastNet_124 (by decide) ?_
      refine jj_sub [1, 2, 3, 0] rfl ?_
      exact hk28 _ _ _ _ h
    · replace h := (if_neg c1).symm.trans h
      refine jj_aload_n dX5_leastNet_76 0 rfl ?_
      refine jg_5_3 (k := 41) rfl lk_5_9 dX5_leastNet_77 ?_
      refine jj_iload dX5_leastNet_80 4 rfl ?_
      refine jj_bipush (8) dX5_leastNet_82 rfl ?_
      refine jj_imul dX5_leastNet_84 ?_
      refine jj_iload dX5_leastNet_85 5 rfl ?_
      refine jj_iadd dX5_leastNet_87 ?_
      obtain ⟨g2, h⟩ := jj_ge h
      refine jj_iaload (k := 72) (n := 64) rfl g2 dX5_leastNet_88 ?_
      refine jj_istore [(7, .int (μ 72 ((x5 * 8) + x6).toNatClampNeg)), (0, .ref (jj_ad g 41)), (2, .int x2), (3, .int x3), (4, .int x4), (5, .int x5), (6, .int x6)] dX5_leastNet_89 (by decide) rfl ?_
      refine jj_iload dX5_leastNet_91 0 rfl ?_
      refine jj_if_le 115 dX5_leastNet_93 (by decide) (fun c3 => ?_) (fun c3 => ?_)
      · replace h := (if_pos c3).symm.trans h
        refine jj_iinc (x6 + 1) [(6, .int (x6 + 1)), (7, .int (μ 72 ((x5 * 8) + x6).toNatClampNeg)), (0, .ref (jj_ad g 41)), (2, .int x2), (3, .int x3), (4, .int x4), (5, .int x5)] dX5_leastNet_115 6 rfl rfl (by decide) rfl ?_
        refine jj_goto 69 dX5_leastNet_118 (by decide) ?_
        refine jj_sub [2, 3, 4, 5, 6, 0] rfl ?_
        exact ih _ _ h
      · replace h := (if_neg c3).symm.trans h
        refine jj_aload_n dX5_leastNet_96 1 rfl ?_
        refine jg_5_5 (k := 41) rfl lk_5_18 dX5_leastNet_97 ?_
        show jj_V g X _ _ _ _ _ _ (.ref (jj_ad g 43) :: _) _
        refine jj_iload dX5_leastNet_100 6 rfl ?_
        refine jj_aload_n dX5_leastNet_102 1 rfl ?_
        refine jg_5_5 (k := 41) rfl lk_5_18 dX5_leastNet_103 ?_
        show jj_V g X _ _ _ _ _ _ (.ref (jj_ad g 43) :: _) _
        refine jj_iload dX5_leastNet_106 6 rfl ?_
        obtain ⟨g4, h⟩ := jj_ge h
        refine jj_iaload (k := 43) (n := 8) rfl g4 dX5_leastNet_108 ?_
        refine jj_iload dX5_leastNet_109 0 rfl ?_
        refine jj_mmin lk_5_102 (by omega) (Nat.le_of_ble_eq_true rfl) dX5_leastNet_111 ?_
        obtain ⟨g5, h⟩ := jj_ge h
        refine jj_iastore (k := 43) (n := 8) rfl g5 dX5_leastNet_114 ?_
        obtain ⟨m6, em6, h⟩ := jj_be h
        refine jj_mu em6 ?_
        refine jj_iinc (x6 + 1) [(6, .int (x6 + 1)), (7, .int (μ 72 ((x5 * 8) + x6).toNatClampNeg)), (0, .ref (jj_ad g 41)), (2, .int x2), (3, .int x3), (4, .int x4), (5, .int x5)] dX5_leastNet_115 6 rfl rfl (by decide) rfl ?_
        refine jj_goto 69 dX5_leastNet_118 (by decide) ?_
        refine jj_sub [2, 3, 4, 5, 6, 0] rfl ?_
        exact ih _ _ h
def wyf_leastNet_L28 (N : Nat)   : Nat → Int32 → Int32 → Int32 → jj_M → Option (Int32 × jj_M)
  | 0, _, _, _, _ => none
  | n + 1, x2, x3, x4, μ => if 8 ≤ x4 then some ((x3, μ)) else (wyf_nearestOutside N x2 μ).bind fun q2 => if 0 ≤ q2 then if jj_i q2 8 then wyf_leastNet_L69 N (wyf_leastNet_L28 N n) (x2 ||| (1 <<< (q2 &&& 31))) (x3 + (μ 43 q2.toNatClampNeg)) x4 q2 N 0 μ else none else some ((-1, μ))
set_option maxRecDepth 100000 in
theorem t_wyf_leastNet_L28 {g : jj_G} (d : Nat) {N : Nat}    {r : Int32} {μ' : jj_M} {X : jj_X}   (hF : jj_F g (some .int) (some (.int r)) μ' X)  : ∀ (n : Nat) (x2 : Int32) (x3 : Int32) (x4 : Int32) (μ : jj_M), wyf_leastNet_L28 N n x2 x3 x4 μ = some (r, μ') → jj_V g X RX5 cX5_leastNet 8 (d + 2) 28 [(0, .ref (jj_ad g 41)), (2, .int x2), (3, .int x3), (4, .int x4)] [] μ := by
  intro n
  induction n with
  | zero =>
    intro x2 x3 x4 μ h
    exact (jj_no h).elim
  | succ n ih =>
    intro x2 x3 x4 μ h
    rw [wyf_leastNet_L28] at h
    refine jj_iload dX5_leastNet_28 3 rfl ?_
    refine jj_bipush (8) dX5_leastNet_30 rfl ?_
    refine jj_icmp_ge 127 dX5_leastNet_32 (by decide) (fun c1 => ?_) (fun c1 => ?_)
    · replace h := (if_pos c1).symm.trans h
      refine jj_iload_n dX5_leastNet_127 2 rfl ?_
      exact jj_iret2 hF dX5_leastNet_128 (Option.some.inj h)
    · replace h := (if_neg c1).symm.trans h
      refine jj_aload_n dX5_leastNet_35 0 rfl ?_
      refine jj_iload_n dX5_leastNet_36 1 rfl ?_
      obtain ⟨q2, e2, h⟩ := jj_be h
      refine jj_callVi [.int x2] [] (c_wyf_nearestOutside (d + 0)  e2) jm_wyf_nearestOutside lk_5_98 (b := 41) rfl (by decide) (jj_E5 rfl) rfl rfl rfl (by omega) rfl (Nat.le_of_ble_eq_true rfl) dX5_leastNet_37 ?_
      refine jj_istore [(5, .int q2), (0, .ref (jj_ad g 41)), (2, .int x2), (3, .int x3), (4, .int x4)] dX5_leastNet_40 (by decide) rfl ?_
      refine jj_iload dX5_leastNet_42 0 rfl ?_
      refine jj_if_ge 49 dX5_leastNet_44 (by decide) (fun c3 => ?_) (fun c3 => ?_)
      · replace h := (if_pos c3).symm.trans h
        refine jj_iload_n dX5_leastNet_49 2 rfl ?_
        refine jj_iconst (1) dX5_leastNet_50 rfl ?_
        refine jj_iload dX5_leastNet_51 0 rfl ?_
        refine jj_ishl dX5_leastNet_53 ?_
        refine jj_ior dX5_leastNet_54 ?_
        refine jj_istore_n [(2, .int (x2 ||| (1 <<< (q2 &&& 31)))), (5, .int q2), (0, .ref (jj_ad g 41)), (3, .int x3), (4, .int x4)] dX5_leastNet_55 (by decide) rfl ?_
        refine jj_iload_n dX5_leastNet_56 3 rfl ?_
        refine jj_aload_n dX5_leastNet_57 2 rfl ?_
        refine jg_5_5 (k := 41) rfl lk_5_18 dX5_leastNet_58 ?_
        show jj_V g X _ _ _ _ _ _ (.ref (jj_ad g 43) :: _) _
        refine jj_iload dX5_leastNet_61 1 rfl ?_
        obtain ⟨g4, h⟩ := jj_ge h
        refine jj_iaload (k := 43) (n := 8) rfl g4 dX5_leastNet_63 ?_
        refine jj_iadd dX5_leastNet_64 ?_
        refine jj_istore_n [(3, .int (x3 + (μ 43 q2.toNatClampNeg))), (2, .int (x2 ||| (1 <<< (q2 &&& 31)))), (5, .int q2), (0, .ref (jj_ad g 41)), (4, .int x4)] dX5_leastNet_65 (by decide) rfl ?_
        refine jj_iconst (0) dX5_leastNet_66 rfl ?_
        refine jj_istore [(6, .int 0), (3, .int (x3 + (μ 43 q2.toNatClampNeg))), (2, .int (x2 ||| (1 <<< (q2 &&& 31)))), (5, .int q2), (0, .ref (jj_ad g 41)), (4, .int x4)] dX5_leastNet_67 (by decide) rfl ?_
        refine jj_sub [4, 2, 1, 5, 3, 0] rfl ?_
        exact t_wyf_leastNet_L69 d   hF ih _ _ _ h
      · replace h := (if_neg c3).symm.trans h
        refine jj_iconst (-1) dX5_leastNet_47 rfl ?_
        exact jj_iret2 hF dX5_leastNet_48 (Option.some.inj h)
def wyf_leastNet (N : Nat)  (μ : jj_M) : Option (Int32 × jj_M) := (wyf_lookAtRoads μ).bind fun q1 => (jdf_fill N 43 8 1000000 q1).bind fun q2 => wyf_leastNet_L28 N N 0 0 0 (jj_u q2 43 0 0)
set_option maxRecDepth 100000 in
theorem c_wyf_leastNet {g : jj_G} (d : Nat) {N : Nat}  {μ : jj_M} {r : Int32} {μ' : jj_M}   (h : wyf_leastNet N μ = some (r, μ')) : jj_N g yX5_leastNet cX5_leastNet 8 (some .int) (d + 2) [.ref (jj_ad g 41), .ref (jj_ad g 1)] μ (some (.int r)) μ' := by
  refine jj_N_of jn_5 (Nat.le_of_ble_eq_true rfl) (fun X hF => ?_)
  unfold wyf_leastNet at h
  refine jj_sub (own := RX5) (lv2 := [(0, .ref (jj_ad g 41)), (1, .ref (jj_ad g 1))]) [0, 1] rfl ?_
  refine jj_aload_n dX5_leastNet_0 0 rfl ?_
  refine jj_aload_n dX5_leastNet_1 1 rfl ?_
  obtain ⟨q1, e1, h⟩ := jj_be h
  refine jj_callVv [.ref (jj_ad g 1)] [] (c_wyf_lookAtRoads (d + 0)  e1) jm_wyf_lookAtRoads lk_5_24 (b := 41) rfl (by decide) (jj_E5 rfl) rfl rfl rfl (by omega) rfl (Nat.le_of_ble_eq_true rfl) dX5_leastNet_2 ?_
  refine jj_aload_n dX5_leastNet_5 0 rfl ?_
  refine jg_5_5 (k := 41) rfl lk_5_18 dX5_leastNet_6 ?_
  show jj_V g X _ _ _ _ _ _ (.ref (jj_ad g 43) :: _) _
  refine jj_ldc (1000000) lk_5_59 dX5_leastNet_9 ?_
  obtain ⟨q2, e2, h⟩ := jj_be h
  refine jj_callSv [.ref (jj_ad g 43), .int 1000000] [] (c_jdf_fill (d + 1) rfl e2) jm_jdf_fill lk_5_60 rfl (by omega) rfl (Nat.le_of_ble_eq_true rfl) dX5_leastNet_11 ?_
  refine jj_aload_n dX5_leastNet_14 0 rfl ?_
  refine jg_5_5 (k := 41) rfl lk_5_18 dX5_leastNet_15 ?_
  show jj_V g X _ _ _ _ _ _ (.ref (jj_ad g 43) :: _) _
  refine jj_iconst (0) dX5_leastNet_18 rfl ?_
  refine jj_iconst (0) dX5_leastNet_19 rfl ?_
  refine jj_iastore (k := 43) (n := 8) rfl (show jj_i 0 8 by decide) dX5_leastNet_20 ?_
  show jj_V g X _ _ _ _ _ _ _ (jj_u q2 43 0 0)
  refine jj_iconst (0) dX5_leastNet_21 rfl ?_
  refine jj_istore_n [(2, .int 0), (0, .ref (jj_ad g 41)), (1, .ref (jj_ad g 1))] dX5_leastNet_22 (by decide) rfl ?_
  refine jj_iconst (0) dX5_leastNet_23 rfl ?_
  refine jj_istore_n [(3, .int 0), (2, .int 0), (0, .ref (jj_ad g 41)), (1, .ref (jj_ad g 1))] dX5_leastNet_24 (by decide) rfl ?_
  refine jj_iconst (0) dX5_leastNet_25 rfl ?_
  refine jj_istore [(4, .int 0), (3, .int 0), (2, .int 0), (0, .ref (jj_ad g 41)), (1, .ref (jj_ad g 1))] dX5_leastNet_26 (by decide) rfl ?_
  refine jj_sub [3, 2, 1, 0] rfl ?_
  exact t_wyf_leastNet_L28 d   hF  _ _ _ _ _ h
def wnf_net (N : Nat)  (μ : jj_M) : Option (Int32 × jj_M) := (wyf_leastNet N μ).bind fun q1 => if 0 ≤ q1.1 then some ((q1.1, q1.2)) else (wnf_refuse 2 q1.2).bind fun q3 => some ((q3.1, q3.2))
set_option maxRecDepth 100000 in
theorem c_wnf_net {g : jj_G} (d : Nat) {N : Nat}  {μ : jj_M} {r : Int32} {μ' : jj_M}   (h : wnf_net N μ = some (r, μ')) : jj_N g yX7_net cX7_net 2 (some .int) (d + 3) [.ref (jj_ad g 0)] μ (some (.int r)) μ' := by
  refine jj_N_of jn_7 (Nat.le_of_ble_eq_true rfl) (fun X hF => ?_)
  unfold wnf_net at h
  refine jj_sub (own := RX7) (lv2 := [(0, .ref (jj_ad g 0))]) [0] rfl ?_
  refine jj_aload_n dX7_net_0 0 rfl ?_
  refine jg_7_2 (k := 0) rfl lk_7_22 dX7_net_1 ?_
  show jj_V g X _ _ _ _ _ _ (.ref (jj_ad g 41) :: _) _
  refine jj_aload_n dX7_net_4 0 rfl ?_
  refine jg_7_0 (k := 0) rfl lk_7_10 dX7_net_5 ?_
  show jj_V g X _ _ _ _ _ _ (.ref (jj_ad g 1) :: _) _
  obtain ⟨q1, e1, h⟩ := jj_be h
  refine jj_callVi [.ref (jj_ad g 1)] [] (c_wyf_leastNet (d + 0)  e1) jm_wyf_leastNet lk_7_221 (b := 41) rfl (by decide) (jj_E5 rfl) rfl rfl rfl (by omega) rfl (Nat.le_of_ble_eq_true rfl) dX7_net_8 ?_
  refine jj_istore_n [(1, .int q1.1), (0, .ref (jj_ad g 0))] dX7_net_11 (by decide) rfl ?_
  refine jj_iload_n dX7_net_12 0 rfl ?_
  refine jj_if_ge 24 dX7_net_13 (by decide) (fun c2 => ?_) (fun c2 => ?_)
  · replace h := (if_pos c2).symm.trans h
    refine jj_iload_n dX7_net_24 0 rfl ?_
    exact jj_iret2 hF dX7_net_25 (Option.some.inj h)
  · replace h := (if_neg c2).symm.trans h
    refine jj_aload_n dX7_net_16 1 rfl ?_
    refine jj_iconst (2) dX7_net_17 rfl ?_
    obtain ⟨q3, e3, h⟩ := jj_be h
    refine jj_callVi [.int 2] [] (c_wnf_refuse (d + 2)  e3) jm_wnf_refuse lk_7_59 (b := 0) rfl (by decide) (jj_E7 rfl) rfl rfl rfl (by omega) rfl (Nat.le_of_ble_eq_true rfl) dX7_net_18 ?_
    refine jj_goto 25 dX7_net_21 (by decide) ?_
    exact jj_iret2 hF dX7_net_25 (Option.some.inj h)
def wyf_shortestWay_L14 (N : Nat)  (x2 : Int32) (x3 : Int32) : Nat → Int32 → jj_M → Option (Int32 × jj_M)
  | 0, _, _ => none
  | n + 1, x4, μ => if 20 < x4 then (jdf_fill N 43 8 1000000 μ).bind fun q2 => if jj_i x2 8 then (wyf_spread N 0 (jj_u q2 43 x2.toNatClampNeg 0)).bind fun q4 => if jj_i x3 8 then if 1000000 ≤ (q4 43 x3.toNatClampNeg) then some ((-1, q4)) else if jj_i x3 8 then some ((q4 43 x3.toNatClampNeg, q4)) else none else none else none else if jj_i x4 21 then wyf_shortestWay_L14 N x2 x3 n (x4 + 1) (jj_u μ 42 x4.toNatClampNeg x4) else none
set_option maxRecDepth 100000 in
theorem t_wyf_shortestWay_L14 {g : jj_G} (d : Nat) {N : Nat}  {x2 : Int32} {x3 : Int32}  {r : Int32} {μ' : jj_M} {X : jj_X}   (hF : jj_F g (some .int) (some (.int r)) μ' X)  : ∀ (n : Nat) (x4 : Int32) (μ : jj_M), wyf_shortestWay_L14 N x2 x3 n x4 μ = some (r, μ') → jj_V g X RX5 cX5_shortestWay 5 (d + 3) 14 [(0, .ref (jj_ad g 41)), (2, .int x2), (3, .int x3), (4, .int x4)] [] μ := by
  intro n
  induction n with
  | zero =>
    intro x4 μ h
    exact (jj_no h).elim
  | succ n ih =>
    intro x4 μ h
    rw [wyf_shortestWay_L14] at h
    refine jj_iload dX5_shortestWay_14 3 rfl ?_
    refine jj_bipush (20) dX5_shortestWay_16 rfl ?_
    refine jj_icmp_gt 36 dX5_shortestWay_18 (by decide) (fun c1 => ?_) (fun c1 => ?_)
    · replace h := (if_pos c1).symm.trans h
      refine jj_aload_n dX5_shortestWay_36 0 rfl ?_
      refine jg_5_5 (k := 41) rfl lk_5_18 dX5_shortestWay_37 ?_
      show jj_V g X _ _ _ _ _ _ (.ref (jj_ad g 43) :: _) _
      refine jj_ldc (1000000) lk_5_59 dX5_shortestWay_40 ?_
      obtain ⟨q2, e2, h⟩ := jj_be h
      refine jj_callSv [.ref (jj_ad g 43), .int 1000000] [] (c_jdf_fill (d + 2) rfl e2) jm_jdf_fill lk_5_60 rfl (by omega) rfl (Nat.le_of_ble_eq_true rfl) dX5_shortestWay_42 ?_
      refine jj_aload_n dX5_shortestWay_45 0 rfl ?_
      refine jg_5_5 (k := 41) rfl lk_5_18 dX5_shortestWay_46 ?_
      show jj_V g X _ _ _ _ _ _ (.ref (jj_ad g 43) :: _) _
      refine jj_iload_n dX5_shortestWay_49 1 rfl ?_
      refine jj_iconst (0) dX5_shortestWay_50 rfl ?_
      obtain ⟨g3, h⟩ := jj_ge h
      refine jj_iastore (k := 43) (n := 8) rfl g3 dX5_shortestWay_51 ?_
      refine jj_aload_n dX5_shortestWay_52 0 rfl ?_
      refine jj_iconst (0) dX5_shortestWay_53 rfl ?_
      obtain ⟨q4, e4, h⟩ := jj_be h
      refine jj_callVv [.int 0] [] (c_wyf_spread (d + 0)  e4) jm_wyf_spread lk_5_76 (b := 41) rfl (by decide) (jj_E5 rfl) rfl rfl rfl (by omega) rfl (Nat.le_of_ble_eq_true rfl) dX5_shortestWay_54 ?_
      refine jj_aload_n dX5_shortestWay_57 0 rfl ?_
      refine jg_5_5 (k := 41) rfl lk_5_18 dX5_shortestWay_58 ?_
      show jj_V g X _ _ _ _ _ _ (.ref (jj_ad g 43) :: _) _
      refine jj_iload_n dX5_shortestWay_61 2 rfl ?_
      obtain ⟨g5, h⟩ := jj_ge h
      refine jj_iaload (k := 43) (n := 8) rfl g5 dX5_shortestWay_62 ?_
      refine jj_ldc (1000000) lk_5_59 dX5_shortestWay_63 ?_
      refine jj_icmp_ge 77 dX5_shortestWay_65 (by decide) (fun c6 => ?_) (fun c6 => ?_)
      · replace h := (if_pos c6).symm.trans h
        refine jj_iconst (-1) dX5_shortestWay_77 rfl ?_
        exact jj_iret2 hF dX5_shortestWay_78 (Option.some.inj h)
      · replace h := (if_neg c6).symm.trans h
        refine jj_aload_n dX5_shortestWay_68 0 rfl ?_
        refine jg_5_5 (k := 41) rfl lk_5_18 dX5_shortestWay_69 ?_
        show jj_V g X _ _ _ _ _ _ (.ref (jj_ad g 43) :: _) _
        refine jj_iload_n dX5_shortestWay_72 2 rfl ?_
        obtain ⟨g7, h⟩ := jj_ge h
        refine jj_iaload (k := 43) (n := 8) rfl g7 dX5_shortestWay_73 ?_
        refine jj_goto 78 dX5_shortestWay_74 (by decide) ?_
        exact jj_iret2 hF dX5_shortestWay_78 (Option.some.inj h)
    · replace h := (if_neg c1).symm.trans h
      refine jj_aload_n dX5_shortestWay_21 0 rfl ?_
      refine jg_5_4 (k := 41) rfl lk_5_15 dX5_shortestWay_22 ?_
      show jj_V g X _ _ _ _ _ _ (.ref (jj_ad g 42) :: _) _
      refine jj_iload dX5_shortestWay_25 3 rfl ?_
      refine jj_iload dX5_shortestWay_27 3 rfl ?_
      obtain ⟨g8, h⟩ := jj_ge h
      refine jj_iastore (k := 42) (n := 21) rfl g8 dX5_shortestWay_29 ?_
      refine jj_iinc (x4 + 1) [(4, .int (x4 + 1)), (0, .ref (jj_ad g 41)), (2, .int x2), (3, .int x3)] dX5_shortestWay_30 3 rfl rfl (by decide) rfl ?_
      refine jj_goto 14 dX5_shortestWay_33 (by decide) ?_
      refine jj_sub [1, 2, 3, 0] rfl ?_
      exact ih _ _ h
def wyf_shortestWay (N : Nat) (x2 : Int32) (x3 : Int32) (μ : jj_M) : Option (Int32 × jj_M) := (wyf_lookAtRoads μ).bind fun q1 => wyf_shortestWay_L14 N x2 x3 N 0 (jj_u q1 41 1 999999)
set_option maxRecDepth 100000 in
theorem c_wyf_shortestWay {g : jj_G} (d : Nat) {N : Nat} {x2 : Int32} {x3 : Int32} {μ : jj_M} {r : Int32} {μ' : jj_M}   (h : wyf_shortestWay N x2 x3 μ = some (r, μ')) : jj_N g yX5_shortestWay cX5_shortestWay 5 (some .int) (d + 3) [.ref (jj_ad g 41), .ref (jj_ad g 1), .int x2, .int x3] μ (some (.int r)) μ' := by
  refine jj_N_of jn_5 (Nat.le_of_ble_eq_true rfl) (fun X hF => ?_)
  unfold wyf_shortestWay at h
  refine jj_sub (own := RX5) (lv2 := [(0, .ref (jj_ad g 41)), (1, .ref (jj_ad g 1)), (2, .int x2), (3, .int x3)]) [0, 1, 2, 3] rfl ?_
  refine jj_aload_n dX5_shortestWay_0 0 rfl ?_
  refine jj_aload_n dX5_shortestWay_1 1 rfl ?_
  obtain ⟨q1, e1, h⟩ := jj_be h
  refine jj_callVv [.ref (jj_ad g 1)] [] (c_wyf_lookAtRoads (d + 1)  e1) jm_wyf_lookAtRoads lk_5_24 (b := 41) rfl (by decide) (jj_E5 rfl) rfl rfl rfl (by omega) rfl (Nat.le_of_ble_eq_true rfl) dX5_shortestWay_2 ?_
  refine jj_aload_n dX5_shortestWay_5 0 rfl ?_
  refine jj_ldc (999999) lk_5_97 dX5_shortestWay_6 ?_
  refine jp_5_1 (k := 41) rfl lk_5_34 dX5_shortestWay_8 ?_
  refine jj_iconst (0) dX5_shortestWay_11 rfl ?_
  refine jj_istore [(4, .int 0), (0, .ref (jj_ad g 41)), (1, .ref (jj_ad g 1)), (2, .int x2), (3, .int x3)] dX5_shortestWay_12 (by decide) rfl ?_
  refine jj_sub [1, 3, 4, 0] rfl ?_
  exact t_wyf_shortestWay_L14 d   hF  _ _ _ h
def wnf_shortest (N : Nat) (x1 : Int32) (x2 : Int32) (μ : jj_M) : Option (Int32 × jj_M) := if (wnf_isWell x1) = 0 then (wnf_refuse 1 μ).bind fun q2 => some ((q2.1, q2.2)) else if (wnf_isWell x2) = 0 then (wnf_refuse 1 μ).bind fun q7 => some ((q7.1, q7.2)) else (wyf_shortestWay N x1 x2 μ).bind fun q4 => if 0 ≤ q4.1 then some ((q4.1, q4.2)) else (wnf_refuse 2 q4.2).bind fun q6 => some ((q6.1, q6.2))
set_option maxRecDepth 100000 in
theorem c_wnf_shortest {g : jj_G} (d : Nat) {N : Nat} {x1 : Int32} {x2 : Int32} {μ : jj_M} {r : Int32} {μ' : jj_M}   (h : wnf_shortest N x1 x2 μ = some (r, μ')) : jj_N g yX7_shortest cX7_shortest 4 (some .int) (d + 4) [.ref (jj_ad g 0), .int x1, .int x2] μ (some (.int r)) μ' := by
  refine jj_N_of jn_7 (Nat.le_of_ble_eq_true rfl) (fun X hF => ?_)
  unfold wnf_shortest at h
  refine jj_sub (own := RX7) (lv2 := [(0, .ref (jj_ad g 0)), (1, .int x1), (2, .int x2)]) [0, 1, 2] rfl ?_
  refine jj_iload_n dX7_shortest_0 1 rfl ?_
  refine jj_callSi [.int x1] [] (c_wnf_isWell (d + 2)  rfl) jm_wnf_isWell lk_7_51 rfl (by omega) rfl (Nat.le_of_ble_eq_true rfl) dX7_shortest_1 ?_
  refine jj_if_eq 14 dX7_shortest_4 (by decide) (fun c1 => ?_) (fun c1 => ?_)
  · replace h := (if_pos c1).symm.trans h
    refine jj_aload_n dX7_shortest_14 0 rfl ?_
    refine jj_iconst (1) dX7_shortest_15 rfl ?_
    obtain ⟨q2, e2, h⟩ := jj_be h
    refine jj_callVi [.int 1] [] (c_wnf_refuse (d + 3)  e2) jm_wnf_refuse lk_7_59 (b := 0) rfl (by decide) (jj_E7 rfl) rfl rfl rfl (by omega) rfl (Nat.le_of_ble_eq_true rfl) dX7_shortest_16 ?_
    exact jj_iret2 hF dX7_shortest_19 (Option.some.inj h)
  · replace h := (if_neg c1).symm.trans h
    refine jj_iload_n dX7_shortest_7 2 rfl ?_
    refine jj_callSi [.int x2] [] (c_wnf_isWell (d + 2)  rfl) jm_wnf_isWell lk_7_51 rfl (by omega) rfl (Nat.le_of_ble_eq_true rfl) dX7_shortest_8 ?_
    refine jj_if_ne 20 dX7_shortest_11 (by decide) (fun c3 => ?_) (fun c3 => ?_)
    · replace h := (if_neg c3).symm.trans h
      refine jj_aload_n dX7_shortest_20 0 rfl ?_
      refine jg_7_2 (k := 0) rfl lk_7_22 dX7_shortest_21 ?_
      show jj_V g X _ _ _ _ _ _ (.ref (jj_ad g 41) :: _) _
      refine jj_aload_n dX7_shortest_24 0 rfl ?_
      refine jg_7_0 (k := 0) rfl lk_7_10 dX7_shortest_25 ?_
      show jj_V g X _ _ _ _ _ _ (.ref (jj_ad g 1) :: _) _
      refine jj_iload_n dX7_shortest_28 1 rfl ?_
      refine jj_iload_n dX7_shortest_29 2 rfl ?_
      obtain ⟨q4, e4, h⟩ := jj_be h
      refine jj_callVi [.ref (jj_ad g 1), .int x1, .int x2] [] (c_wyf_shortestWay (d + 0)  e4) jm_wyf_shortestWay lk_7_225 (b := 41) rfl (by decide) (jj_E5 rfl) rfl rfl rfl (by omega) rfl (Nat.le_of_ble_eq_true rfl) dX7_shortest_30 ?_
      refine jj_istore_n [(3, .int q4.1), (0, .ref (jj_ad g 0)), (1, .int x1), (2, .int x2)] dX7_shortest_33 (by decide) rfl ?_
      refine jj_iload_n dX7_shortest_34 0 rfl ?_
      refine jj_if_ge 46 dX7_shortest_35 (by decide) (fun c5 => ?_) (fun c5 => ?_)
      · replace h := (if_pos c5).symm.trans h
        refine jj_iload_n dX7_shortest_46 0 rfl ?_
        exact jj_iret2 hF dX7_shortest_47 (Option.some.inj h)
      · replace h := (if_neg c5).symm.trans h
        refine jj_aload_n dX7_shortest_38 1 rfl ?_
        refine jj_iconst (2) dX7_shortest_39 rfl ?_
        obtain ⟨q6, e6, h⟩ := jj_be h
        refine jj_callVi [.int 2] [] (c_wnf_refuse (d + 3)  e6) jm_wnf_refuse lk_7_59 (b := 0) rfl (by decide) (jj_E7 rfl) rfl rfl rfl (by omega) rfl (Nat.le_of_ble_eq_true rfl) dX7_shortest_40 ?_
        refine jj_goto 47 dX7_shortest_43 (by decide) ?_
        exact jj_iret2 hF dX7_shortest_47 (Option.some.inj h)
    · replace h := (if_pos c3).symm.trans h
      refine jj_aload_n dX7_shortest_14 0 rfl ?_
      refine jj_iconst (1) dX7_shortest_15 rfl ?_
      obtain ⟨q7, e7, h⟩ := jj_be h
      refine jj_callVi [.int 1] [] (c_wnf_refuse (d + 3)  e7) jm_wnf_refuse lk_7_59 (b := 0) rfl (by decide) (jj_E7 rfl) rfl rfl rfl (by omega) rfl (Nat.le_of_ble_eq_true rfl) dX7_shortest_16 ?_
      exact jj_iret2 hF dX7_shortest_19 (Option.some.inj h)
def wnf_isSheet  (x0 : Int32)  : Int32 := wnf_within x0 0 3
theorem z_wnf_isSheet (x0 : Int32)  : wnf_isSheet x0 = 0 ∨ wnf_isSheet x0 = 1 := by
  unfold wnf_isSheet
  first | (first | exact Or.inl rfl | exact Or.inr rfl | apply z_wnf_within) | ((repeat' split) <;> first | exact Or.inl rfl | exact Or.inr rfl | apply z_wnf_within)
set_option maxRecDepth 100000 in
theorem c_wnf_isSheet {g : jj_G} (d : Nat)  {x0 : Int32} {μ : jj_M} {r : Int32}   (h : wnf_isSheet x0 = r) : jj_N g yX7_isSheet cX7_isSheet 1 (some .boolean) (d + 1) [.int x0] μ (some (.int r)) μ := by
  refine jj_N_of jn_7 (Nat.le_of_ble_eq_true rfl) (fun X hF => ?_)
  unfold wnf_isSheet at h
  refine jj_sub (own := RX7) (lv2 := [(0, .int x0)]) [0] rfl ?_
  refine jj_iload_n dX7_isSheet_0 0 rfl ?_
  refine jj_iconst (0) dX7_isSheet_1 rfl ?_
  refine jj_iconst (3) dX7_isSheet_2 rfl ?_
  refine jj_callSi [.int x0, .int 0, .int 3] [] (c_wnf_within (d + 0)  rfl) jm_wnf_within lk_7_55 rfl (by omega) rfl (Nat.le_of_ble_eq_true rfl) dX7_isSheet_3 ?_
  exact jj_zret1 hF dX7_isSheet_6 (z_wnf_within _ _ _) h
def wyf_walkedHours_L4 (N : Nat)  (p1 : Nat) (μ : jj_M) : Nat → Int32 → Int32 → Option (Int32)
  | 0, _, _ => none
  | n + 1, x2, x3 => if (μ p1 2) ≤ x3 then if (μ p1 2) = 0 then some (-1) else some x2 else if jj_i x3 40 then if jj_i (jdf_max 0 (x3 - 1)) 40 then if (wnf_isWell (μ (p1 + 1) x3.toNatClampNeg)) = 0 then some (-1) else if (wnf_isWell (μ (p1 + 1) (jdf_max 0 (x3 - 1)).toNatClampNeg)) = 0 then some (-1) else if jj_i (((μ (p1 + 1) (jdf_max 0 (x3 - 1)).toNatClampNeg) * 8) + (μ (p1 + 1) x3.toNatClampNeg)) 64 then if (μ (p1 + 1) x3.toNatClampNeg) = (μ (p1 + 1) (jdf_max 0 (x3 - 1)).toNatClampNeg) then wyf_walkedHours_L4 N p1 μ n (x2 + (μ 3 (((μ (p1 + 1) (jdf_max 0 (x3 - 1)).toNatClampNeg) * 8) + (μ (p1 + 1) x3.toNatClampNeg)).toNatClampNeg)) (x3 + 1) else if (μ 3 (((μ (p1 + 1) (jdf_max 0 (x3 - 1)).toNatClampNeg) * 8) + (μ (p1 + 1) x3.toNatClampNeg)).toNatClampNeg) = 0 then some (-1) else wyf_walkedHours_L4 N p1 μ n (x2 + (μ 3 (((μ (p1 + 1) (jdf_max 0 (x3 - 1)).toNatClampNeg) * 8) + (μ (p1 + 1) x3.toNatClampNeg)).toNatClampNeg)) (x3 + 1) else none else none else none
set_option maxRecDepth 100000 in
theorem t_wyf_walkedHours_L4 {g : jj_G} (d : Nat) {N : Nat}  {p1 : Nat} {μ : jj_M}  {r : Int32} {X : jj_X}  (hp1 : jj_kd p1 = 3) (hF : jj_F g (some .int) (some (.int r)) μ X)  : ∀ (n : Nat) (x2 : Int32) (x3 : Int32), wyf_walkedHours_L4 N p1 μ n x2 x3 = some r → jj_V g X RX5 cX5_walkedHours 7 (d + 2) 4 [(0, .ref (jj_ad g 1)), (1, .ref (jj_ad g p1)), (2, .int x2), (3, .int x3)] [] μ := by
  intro n
  induction n with
  | zero =>
    intro x2 x3 h
    exact (jj_no h).elim
  | succ n ih =>
    intro x2 x3 h
    rw [wyf_walkedHours_L4] at h
    refine jj_iload_n dX5_walkedHours_4 3 rfl ?_
    refine jj_aload_n dX5_walkedHours_5 1 rfl ?_
    refine jg_3_2 (k := p1) hp1 lk_5_108 dX5_walkedHours_6 ?_
    refine jj_icmp_ge 92 dX5_walkedHours_9 (by decide) (fun c1 => ?_) (fun c1 => ?_)
    · replace h := (if_pos c1).symm.trans h
      refine jj_aload_n dX5_walkedHours_92 1 rfl ?_
      refine jg_3_2 (k := p1) hp1 lk_5_108 dX5_walkedHours_93 ?_
      refine jj_if_ne 103 dX5_walkedHours_96 (by decide) (fun c2 => ?_) (fun c2 => ?_)
      · replace h := (if_neg c2).symm.trans h
        refine jj_iload_n dX5_walkedHours_103 2 rfl ?_
        exact jj_iret1 hF dX5_walkedHours_104 (Option.some.inj h)
      · replace h := (if_pos c2).symm.trans h
        refine jj_iconst (-1) dX5_walkedHours_99 rfl ?_
        refine jj_goto 104 dX5_walkedHours_100 (by decide) ?_
        exact jj_iret1 hF dX5_walkedHours_104 (Option.some.inj h)
    · replace h := (if_neg c1).symm.trans h
      refine jj_aload_n dX5_walkedHours_12 1 rfl ?_
      refine jg_3_0 (k := p1) hp1 lk_5_113 dX5_walkedHours_13 ?_
      refine jj_iload_n dX5_walkedHours_16 3 rfl ?_
      obtain ⟨g3, h⟩ := jj_ge h
      refine jj_iaload (k := p1 + 1) (n := 40) (jk_3_0 hp1) g3 dX5_walkedHours_17 ?_
      refine jj_istore [(4, .int (μ (p1 + 1) x3.toNatClampNeg)), (0, .ref (jj_ad g 1)), (1, .ref (jj_ad g p1)), (2, .int x2), (3, .int x3)] dX5_walkedHours_18 (by decide) rfl ?_
      refine jj_aload_n dX5_walkedHours_20 2 rfl ?_
      refine jg_3_0 (k := p1) hp1 lk_5_113 dX5_walkedHours_21 ?_
      refine jj_iconst (0) dX5_walkedHours_24 rfl ?_
      refine jj_iload_n dX5_walkedHours_25 4 rfl ?_
      refine jj_iconst (1) dX5_walkedHours_26 rfl ?_
      refine jj_isub dX5_walkedHours_27 ?_
      refine jj_mmax lk_5_116 (by omega) (Nat.le_of_ble_eq_true rfl) dX5_walkedHours_28 ?_
      obtain ⟨g4, h⟩ := jj_ge h
      refine jj_iaload (k := p1 + 1) (n := 40) (jk_3_0 hp1) g4 dX5_walkedHours_31 ?_
      refine jj_istore [(5, .int (μ (p1 + 1) (jdf_max 0 (x3 - 1)).toNatClampNeg)), (4, .int (μ (p1 + 1) x3.toNatClampNeg)), (0, .ref (jj_ad g 1)), (1, .ref (jj_ad g p1)), (2, .int x2), (3, .int x3)] dX5_walkedHours_32 (by decide) rfl ?_
      refine jj_iload dX5_walkedHours_34 1 rfl ?_
      refine jj_callNi [.int (μ (p1 + 1) x3.toNatClampNeg)] [] (c_wnf_isWell (d + 0)  rfl) jm_wnf_isWell (host := RX7) (fun w => w.2.2.1) rfl (by omega) rfl (Nat.le_of_ble_eq_true rfl) dX5_walkedHours_36 ?_
      refine jj_if_eq 50 dX5_walkedHours_39 (by decide) (fun c5 => ?_) (fun c5 => ?_)
      · replace h := (if_pos c5).symm.trans h
        refine jj_iconst (-1) dX5_walkedHours_50 rfl ?_
        exact jj_iret1 hF dX5_walkedHours_51 (Option.some.inj h)
      · replace h := (if_neg c5).symm.trans h
        refine jj_iload dX5_walkedHours_42 0 rfl ?_
        refine jj_callNi [.int (μ (p1 + 1) (jdf_max 0 (x3 - 1)).toNatClampNeg)] [] (c_wnf_isWell (d + 0)  rfl) jm_wnf_isWell (host := RX7) (fun w => w.2.2.1) rfl (by omega) rfl (Nat.le_of_ble_eq_true rfl) dX5_walkedHours_44 ?_
        refine jj_if_ne 52 dX5_walkedHours_47 (by decide) (fun c6 => ?_) (fun c6 => ?_)
        · replace h := (if_neg c6).symm.trans h
          refine jj_aload_n dX5_walkedHours_52 2 rfl ?_
          refine jg_6_1 (k := 1) rfl lk_5_123 dX5_walkedHours_53 ?_
          show jj_V g X _ _ _ _ _ _ (.ref (jj_ad g 3) :: _) _
          refine jj_iload dX5_walkedHours_56 0 rfl ?_
          refine jj_bipush (8) dX5_walkedHours_58 rfl ?_
          refine jj_imul dX5_walkedHours_60 ?_
          refine jj_iload dX5_walkedHours_61 1 rfl ?_
          refine jj_iadd dX5_walkedHours_63 ?_
          obtain ⟨g7, h⟩ := jj_ge h
          refine jj_iaload (k := 3) (n := 64) rfl g7 dX5_walkedHours_64 ?_
          refine jj_istore [(6, .int (μ 3 (((μ (p1 + 1) (jdf_max 0 (x3 - 1)).toNatClampNeg) * 8) + (μ (p1 + 1) x3.toNatClampNeg)).toNatClampNeg)), (5, .int (μ (p1 + 1) (jdf_max 0 (x3 - 1)).toNatClampNeg)), (4, .int (μ (p1 + 1) x3.toNatClampNeg)), (0, .ref (jj_ad g 1)), (1, .ref (jj_ad g p1)), (2, .int x2), (3, .int x3)] dX5_walkedHours_65 (by decide) rfl ?_
          refine jj_iload dX5_walkedHours_67 2 rfl ?_
          refine jj_iload dX5_walkedHours_69 1 rfl ?_
          refine jj_icmp_eq 81 dX5_walkedHours_71 (by decide) (fun c8 => ?_) (fun c8 => ?_)
          · replace h := (if_pos c8).symm.trans h
            refine jj_iload_n dX5_walkedHours_81 5 rfl ?_
            refine jj_iload dX5_walkedHours_82 0 rfl ?_
            refine jj_iadd dX5_walkedHours_84 ?_
            refine jj_istore_n [(2, .int (x2 + (μ 3 (((μ (p1 + 1) (jdf_max 0 (x3 - 1)).toNatClampNeg) * 8) + (μ (p1 + 1) x3.toNatClampNeg)).toNatClampNeg))), (6, .int (μ 3 (((μ (p1 + 1) (jdf_max 0 (x3 - 1)).toNatClampNeg) * 8) + (μ (p1 + 1) x3.toNatClampNeg)).toNatClampNeg)), (5, .int (μ (p1 + 1) (jdf_max 0 (x3 - 1)).toNatClampNeg)), (4, .int (μ (p1 + 1) x3.toNatClampNeg)), (0, .ref (jj_ad g 1)), (1, .ref (jj_ad g p1)), (3, .int x3)] dX5_walkedHours_85 (by decide) rfl ?_
            refine jj_iinc (x3 + 1) [(3, .int (x3 + 1)), (2, .int (x2 + (μ 3 (((μ (p1 + 1) (jdf_max 0 (x3 - 1)).toNatClampNeg) * 8) + (μ (p1 + 1) x3.toNatClampNeg)).toNatClampNeg))), (6, .int (μ 3 (((μ (p1 + 1) (jdf_max 0 (x3 - 1)).toNatClampNeg) * 8) + (μ (p1 + 1) x3.toNatClampNeg)).toNatClampNeg)), (5, .int (μ (p1 + 1) (jdf_max 0 (x3 - 1)).toNatClampNeg)), (4, .int (μ (p1 + 1) x3.toNatClampNeg)), (0, .ref (jj_ad g 1)), (1, .ref (jj_ad g p1))] dX5_walkedHours_86 6 rfl rfl (by decide) rfl ?_
            refine jj_goto 4 dX5_walkedHours_89 (by decide) ?_
            refine jj_sub [5, 6, 1, 0] rfl ?_
            exact ih _ _ h
          · replace h := (if_neg c8).symm.trans h
            refine jj_iload dX5_walkedHours_74 0 rfl ?_
            refine jj_if_ne 81 dX5_walkedHours_76 (by decide) (fun c9 => ?_) (fun c9 => ?_)
            · replace h := (if_neg c9).symm.trans h
              refine jj_iload_n dX5_walkedHours_81 5 rfl ?_
              refine jj_iload dX5_walkedHours_82 0 rfl ?_
              refine jj_iadd dX5_walkedHours_84 ?_
              refine jj_istore_n [(2, .int (x2 + (μ 3 (((μ (p1 + 1) (jdf_max 0 (x3 - 1)).toNatClampNeg) * 8) + (μ (p1 + 1) x3.toNatClampNeg)).toNatClampNeg))), (6, .int (μ 3 (((μ (p1 + 1) (jdf_max 0 (x3 - 1)).toNatClampNeg) * 8) + (μ (p1 + 1) x3.toNatClampNeg)).toNatClampNeg)), (5, .int (μ (p1 + 1) (jdf_max 0 (x3 - 1)).toNatClampNeg)), (4, .int (μ (p1 + 1) x3.toNatClampNeg)), (0, .ref (jj_ad g 1)), (1, .ref (jj_ad g p1)), (3, .int x3)] dX5_walkedHours_85 (by decide) rfl ?_
              refine jj_iinc (x3 + 1) [(3, .int (x3 + 1)), (2, .int (x2 + (μ 3 (((μ (p1 + 1) (jdf_max 0 (x3 - 1)).toNatClampNeg) * 8) + (μ (p1 + 1) x3.toNatClampNeg)).toNatClampNeg))), (6, .int (μ 3 (((μ (p1 + 1) (jdf_max 0 (x3 - 1)).toNatClampNeg) * 8) + (μ (p1 + 1) x3.toNatClampNeg)).toNatClampNeg)), (5, .int (μ (p1 + 1) (jdf_max 0 (x3 - 1)).toNatClampNeg)), (4, .int (μ (p1 + 1) x3.toNatClampNeg)), (0, .ref (jj_ad g 1)), (1, .ref (jj_ad g p1))] dX5_walkedHours_86 6 rfl rfl (by decide) rfl ?_
              refine jj_goto 4 dX5_walkedHours_89 (by decide) ?_
              refine jj_sub [5, 6, 1, 0] rfl ?_
              exact ih _ _ h
            · replace h := (if_pos c9).symm.trans h
              refine jj_iconst (-1) dX5_walkedHours_79 rfl ?_
              exact jj_iret1 hF dX5_walkedHours_80 (Option.some.inj h)
        · replace h := (if_pos c6).symm.trans h
          refine jj_iconst (-1) dX5_walkedHours_50 rfl ?_
          exact jj_iret1 hF dX5_walkedHours_51 (Option.some.inj h)
def wyf_walkedHours (N : Nat) (p1 : Nat) (μ : jj_M) : Option (Int32) := wyf_walkedHours_L4 N p1 μ N 0 0
set_option maxRecDepth 100000 in
theorem c_wyf_walkedHours {g : jj_G} (d : Nat) {N : Nat} {p1 : Nat} {μ : jj_M} {r : Int32}  (hp1 : jj_kd p1 = 3) (h : wyf_walkedHours N p1 μ = some r) : jj_N g yX5_walkedHours cX5_walkedHours 7 (some .int) (d + 2) [.ref (jj_ad g 1), .ref (jj_ad g p1)] μ (some (.int r)) μ := by
  refine jj_N_of jn_5 (Nat.le_of_ble_eq_true rfl) (fun X hF => ?_)
  unfold wyf_walkedHours at h
  refine jj_sub (own := RX5) (lv2 := [(0, .ref (jj_ad g 1)), (1, .ref (jj_ad g p1))]) [0, 1] rfl ?_
  refine jj_iconst (0) dX5_walkedHours_0 rfl ?_
  refine jj_istore_n [(2, .int 0), (0, .ref (jj_ad g 1)), (1, .ref (jj_ad g p1))] dX5_walkedHours_1 (by decide) rfl ?_
  refine jj_iconst (0) dX5_walkedHours_2 rfl ?_
  refine jj_istore_n [(3, .int 0), (2, .int 0), (0, .ref (jj_ad g 1)), (1, .ref (jj_ad g p1))] dX5_walkedHours_3 (by decide) rfl ?_
  refine jj_sub [2, 3, 1, 0] rfl ?_
  exact t_wyf_walkedHours_L4 d  hp1 hF  _ _ _ h
def wnf_walked (N : Nat) (x1 : Int32) (μ : jj_M) : Option (Int32 × jj_M) := if (wnf_isSheet x1) = 0 then (wnf_refuse 1 μ).bind fun q6 => some ((q6.1, q6.2)) else if jj_i x1 4 then (wyf_walkedHours N (50 + 1 + 2 * x1.toNatClampNeg) μ).bind fun q3 => if 0 ≤ q3 then some ((q3, μ)) else (wnf_refuse 2 μ).bind fun q5 => some ((q5.1, q5.2)) else none
set_option maxRecDepth 100000 in
theorem c_wnf_walked {g : jj_G} (d : Nat) {N : Nat} {x1 : Int32} {μ : jj_M} {r : Int32} {μ' : jj_M}   (h : wnf_walked N x1 μ = some (r, μ')) : jj_N g yX7_walked cX7_walked 3 (some .int) (d + 3) [.ref (jj_ad g 0), .int x1] μ (some (.int r)) μ' := by
  refine jj_N_of jn_7 (Nat.le_of_ble_eq_true rfl) (fun X hF => ?_)
  unfold wnf_walked at h
  refine jj_sub (own := RX7) (lv2 := [(0, .ref (jj_ad g 0)), (1, .int x1)]) [0, 1] rfl ?_
  refine jj_iload_n dX7_walked_0 1 rfl ?_
  refine jj_callSi [.int x1] [] (c_wnf_isSheet (d + 1)  rfl) jm_wnf_isSheet lk_7_229 rfl (by omega) rfl (Nat.le_of_ble_eq_true rfl) dX7_walked_1 ?_
  refine jj_if_ne 13 dX7_walked_4 (by decide) (fun c1 => ?_) (fun c1 => ?_)
  · replace h := (if_neg c1).symm.trans h
    refine jj_aload_n dX7_walked_13 0 rfl ?_
    refine jg_7_0 (k := 0) rfl lk_7_10 dX7_walked_14 ?_
    show jj_V g X _ _ _ _ _ _ (.ref (jj_ad g 1) :: _) _
    refine jj_aload_n dX7_walked_17 0 rfl ?_
    refine jg_7_5 (k := 0) rfl lk_7_42 dX7_walked_18 ?_
    show jj_V g X _ _ _ _ _ _ (.ref (jj_ad g 50) :: _) _
    refine jj_iload_n dX7_walked_21 1 rfl ?_
    obtain ⟨g2, h⟩ := jj_ge h
    refine jj_aaload12 (k := 50) rfl g2 dX7_walked_22 ?_
    obtain ⟨q3, e3, h⟩ := jj_be h
    refine jj_callSi [.ref (jj_ad g 1), .ref (jj_ad g (50 + 1 + 2 * x1.toNatClampNeg))] [] (c_wyf_walkedHours (d + 0) (jk_12 (k := 50) rfl g2) e3) jm_wyf_walkedHours lk_7_232 rfl (by omega) rfl (Nat.le_of_ble_eq_true rfl) dX7_walked_23 ?_
    refine jj_istore_n [(2, .int q3), (0, .ref (jj_ad g 0)), (1, .int x1)] dX7_walked_26 (by decide) rfl ?_
    refine jj_iload_n dX7_walked_27 0 rfl ?_
    refine jj_if_ge 39 dX7_walked_28 (by decide) (fun c4 => ?_) (fun c4 => ?_)
    · replace h := (if_pos c4).symm.trans h
      refine jj_iload_n dX7_walked_39 0 rfl ?_
      exact jj_iret2 hF dX7_walked_40 (Option.some.inj h)
    · replace h := (if_neg c4).symm.trans h
      refine jj_aload_n dX7_walked_31 1 rfl ?_
      refine jj_iconst (2) dX7_walked_32 rfl ?_
      obtain ⟨q5, e5, h⟩ := jj_be h
      refine jj_callVi [.int 2] [] (c_wnf_refuse (d + 2)  e5) jm_wnf_refuse lk_7_59 (b := 0) rfl (by decide) (jj_E7 rfl) rfl rfl rfl (by omega) rfl (Nat.le_of_ble_eq_true rfl) dX7_walked_33 ?_
      refine jj_goto 40 dX7_walked_36 (by decide) ?_
      exact jj_iret2 hF dX7_walked_40 (Option.some.inj h)
  · replace h := (if_pos c1).symm.trans h
    refine jj_aload_n dX7_walked_7 0 rfl ?_
    refine jj_iconst (1) dX7_walked_8 rfl ?_
    obtain ⟨q6, e6, h⟩ := jj_be h
    refine jj_callVi [.int 1] [] (c_wnf_refuse (d + 2)  e6) jm_wnf_refuse lk_7_59 (b := 0) rfl (by decide) (jj_E7 rfl) rfl rfl rfl (by omega) rfl (Nat.le_of_ble_eq_true rfl) dX7_walked_9 ?_
    exact jj_iret2 hF dX7_walked_12 (Option.some.inj h)
def wyf_comesAlive_B87 (N : Nat) (k12 : Int32 → Int32 → jj_M → Option (Int32 × jj_M)) (p1 : Nat) (p2 : Nat) (x3 : Int32) (x4 : Int32) (x5 : Int32) (x6 : Int32) (x7 : Int32) (μ : jj_M) : Option (Int32 × jj_M) := if x4 ≤ x5 then if (wyf_isIn x3 x7) = 0 then k12 x4 (x6 + 1) μ else k12 0 (x6 + 1) μ else some ((0, μ))
set_option maxRecDepth 100000 in
theorem t_wyf_comesAlive_B87 {g : jj_G} (d : Nat) {N : Nat} {k12 : Int32 → Int32 → jj_M → Option (Int32 × jj_M)} {p1 : Nat} {p2 : Nat} {x3 : Int32} {x4 : Int32} {x5 : Int32} {x6 : Int32} {x7 : Int32} {μ : jj_M}  {r : Int32} {μ' : jj_M} {X : jj_X}  (hp1 : jj_kd p1 = 3) (hp2 : jj_kd p2 = 1) (hF : jj_F g (some .boolean) (some (.int r)) μ' X) (hk12 : ∀ (x4 : Int32) (x6 : Int32) (μ : jj_M), k12 x4 x6 μ = some (r, μ') → jj_V g X RX5 cX5_comesAlive 9 (d + 4) 12 [(0, .ref (jj_ad g 1)), (1, .ref (jj_ad g p1)), (2, .ref (jj_ad g p2)), (3, .int x3), (4, .int x4), (5, .int x5), (6, .int x6)] [] μ) (h : wyf_comesAlive_B87 N k12 p1 p2 x3 x4 x5 x6 x7 μ = some (r, μ')) : jj_V g X RX5 cX5_comesAlive 9 (d + 4) 87 [(0, .ref (jj_ad g 1)), (1, .ref (jj_ad g p1)), (2, .ref (jj_ad g p2)), (3, .int x3), (4, .int x4), (5, .int x5), (6, .int x6), (7, .int x7)] [] μ := by
  unfold wyf_comesAlive_B87 at h
  refine jj_iload dX5_comesAlive_87 4 rfl ?_
  refine jj_iload dX5_comesAlive_89 5 rfl ?_
  refine jj_icmp_le 96 dX5_comesAlive_91 (by decide) (fun c1 => ?_) (fun c1 => ?_)
  · replace h := (if_pos c1).symm.trans h
    refine jj_iload_n dX5_comesAlive_96 3 rfl ?_
    refine jj_iload dX5_comesAlive_97 7 rfl ?_
    refine jj_callSi [.int x3, .int x7] [] (c_wyf_isIn (d + 3)  rfl) jm_wyf_isIn lk_5_80 rfl (by omega) rfl (Nat.le_of_ble_eq_true rfl) dX5_comesAlive_99 ?_
    refine jj_if_eq 108 dX5_comesAlive_102 (by decide) (fun c2 => ?_) (fun c2 => ?_)
    · replace h := (if_pos c2).symm.trans h
      refine jj_iinc (x6 + 1) [(6, .int (x6 + 1)), (0, .ref (jj_ad g 1)), (1, .ref (jj_ad g p1)), (2, .ref (jj_ad g p2)), (3, .int x3), (4, .int x4), (5, .int x5), (7, .int x7)] dX5_comesAlive_108 6 rfl rfl (by decide) rfl ?_
      refine jj_goto 12 dX5_comesAlive_111 (by decide) ?_
      refine jj_sub [1, 2, 3, 4, 5, 6, 0] rfl ?_
      exact hk12 _ _ _ h
    · replace h := (if_neg c2).symm.trans h
      refine jj_iconst (0) dX5_comesAlive_105 rfl ?_
      refine jj_istore [(4, .int 0), (0, .ref (jj_ad g 1)), (1, .ref (jj_ad g p1)), (2, .ref (jj_ad g p2)), (3, .int x3), (5, .int x5), (6, .int x6), (7, .int x7)] dX5_comesAlive_106 (by decide) rfl ?_
      refine jj_iinc (x6 + 1) [(6, .int (x6 + 1)), (4, .int 0), (0, .ref (jj_ad g 1)), (1, .ref (jj_ad g p1)), (2, .ref (jj_ad g p2)), (3, .int x3), (5, .int x5), (7, .int x7)] dX5_comesAlive_108 6 rfl rfl (by decide) rfl ?_
      refine jj_goto 12 dX5_comesAlive_111 (by decide) ?_
      refine jj_sub [2, 3, 4, 5, 1, 6, 0] rfl ?_
      exact hk12 _ _ _ h
  · replace h := (if_neg c1).symm.trans h
    refine jj_iconst (0) dX5_comesAlive_94 rfl ?_
    exact jj_zret2 hF dX5_comesAlive_95 (Or.inl rfl) (Option.some.inj h)
def wyf_comesAlive_L12 (N : Nat)  (p1 : Nat) (p2 : Nat) (x3 : Int32) (x5 : Int32) : Nat → Int32 → Int32 → jj_M → Option (Int32 × jj_M)
  | 0, _, _, _ => none
  | n + 1, x4, x6, μ => if (μ p1 2) ≤ x6 then some ((1, μ)) else if jj_i x6 40 then if jj_i (x6 - 1) 40 then if (wnf_isWell (μ (p1 + 1) x6.toNatClampNeg)) = 0 then wyf_comesAlive_B87 N (wyf_comesAlive_L12 N p1 p2 x3 x5 n) p1 p2 x3 x4 x5 x6 (μ (p1 + 1) x6.toNatClampNeg) μ else if (wnf_isWell (μ (p1 + 1) (x6 - 1).toNatClampNeg)) = 0 then wyf_comesAlive_B87 N (wyf_comesAlive_L12 N p1 p2 x3 x5 n) p1 p2 x3 x4 x5 x6 (μ (p1 + 1) x6.toNatClampNeg) μ else if (μ (p1 + 1) x6.toNatClampNeg) = (μ (p1 + 1) (x6 - 1).toNatClampNeg) then wyf_comesAlive_B87 N (wyf_comesAlive_L12 N p1 p2 x3 x5 n) p1 p2 x3 x4 x5 x6 (μ (p1 + 1) x6.toNatClampNeg) μ else if jj_i (((μ (p1 + 1) (x6 - 1).toNatClampNeg) * 8) + (μ (p1 + 1) x6.toNatClampNeg)) 64 then (wof_parched N 1 p2 (μ 3 (((μ (p1 + 1) (x6 - 1).toNatClampNeg) * 8) + (μ (p1 + 1) x6.toNatClampNeg)).toNatClampNeg) μ).bind fun q8 => wyf_comesAlive_B87 N (wyf_comesAlive_L12 N p1 p2 x3 x5 n) p1 p2 x3 (x4 + q8.1) x5 x6 (μ (p1 + 1) x6.toNatClampNeg) q8.2 else none else none else none
set_option maxRecDepth 100000 in
theorem t_wyf_comesAlive_L12 {g : jj_G} (d : Nat) {N : Nat}  {p1 : Nat} {p2 : Nat} {x3 : Int32} {x5 : Int32}  {r : Int32} {μ' : jj_M} {X : jj_X}  (hp1 : jj_kd p1 = 3) (hp2 : jj_kd p2 = 1) (hF : jj_F g (some .boolean) (some (.int r)) μ' X)  : ∀ (n : Nat) (x4 : Int32) (x6 : Int32) (μ : jj_M), wyf_comesAlive_L12 N p1 p2 x3 x5 n x4 x6 μ = some (r, μ') → jj_V g X RX5 cX5_comesAlive 9 (d + 4) 12 [(0, .ref (jj_ad g 1)), (1, .ref (jj_ad g p1)), (2, .ref (jj_ad g p2)), (3, .int x3), (4, .int x4), (5, .int x5), (6, .int x6)] [] μ := by
  intro n
  induction n with
  | zero =>
    intro x4 x6 μ h
    exact (jj_no h).elim
  | succ n ih =>
    intro x4 x6 μ h
    rw [wyf_comesAlive_L12] at h
    refine jj_iload dX5_comesAlive_12 6 rfl ?_
    refine jj_aload_n dX5_comesAlive_14 1 rfl ?_
    refine jg_3_2 (k := p1) hp1 lk_5_108 dX5_comesAlive_15 ?_
    refine jj_icmp_ge 114 dX5_comesAlive_18 (by decide) (fun c1 => ?_) (fun c1 => ?_)
    · replace h := (if_pos c1).symm.trans h
      refine jj_iconst (1) dX5_comesAlive_114 rfl ?_
      exact jj_zret2 hF dX5_comesAlive_115 (Or.inr rfl) (Option.some.inj h)
    · replace h := (if_neg c1).symm.trans h
      refine jj_aload_n dX5_comesAlive_21 1 rfl ?_
      refine jg_3_0 (k := p1) hp1 lk_5_113 dX5_comesAlive_22 ?_
      refine jj_iload dX5_comesAlive_25 6 rfl ?_
      obtain ⟨g2, h⟩ := jj_ge h
      refine jj_iaload (k := p1 + 1) (n := 40) (jk_3_0 hp1) g2 dX5_comesAlive_27 ?_
      refine jj_istore [(7, .int (μ (p1 + 1) x6.toNatClampNeg)), (0, .ref (jj_ad g 1)), (1, .ref (jj_ad g p1)), (2, .ref (jj_ad g p2)), (3, .int x3), (4, .int x4), (5, .int x5), (6, .int x6)] dX5_comesAlive_28 (by decide) rfl ?_
      refine jj_aload_n dX5_comesAlive_30 2 rfl ?_
      refine jg_3_0 (k := p1) hp1 lk_5_113 dX5_comesAlive_31 ?_
      refine jj_iload dX5_comesAlive_34 7 rfl ?_
      refine jj_iconst (1) dX5_comesAlive_36 rfl ?_
      refine jj_isub dX5_comesAlive_37 ?_
      obtain ⟨g3, h⟩ := jj_ge h
      refine jj_iaload (k := p1 + 1) (n := 40) (jk_3_0 hp1) g3 dX5_comesAlive_38 ?_
      refine jj_istore [(8, .int (μ (p1 + 1) (x6 - 1).toNatClampNeg)), (7, .int (μ (p1 + 1) x6.toNatClampNeg)), (0, .ref (jj_ad g 1)), (1, .ref (jj_ad g p1)), (2, .ref (jj_ad g p2)), (3, .int x3), (4, .int x4), (5, .int x5), (6, .int x6)] dX5_comesAlive_39 (by decide) rfl ?_
      refine jj_iload dX5_comesAlive_41 1 rfl ?_
      refine jj_callNi [.int (μ (p1 + 1) x6.toNatClampNeg)] [] (c_wnf_isWell (d + 2)  rfl) jm_wnf_isWell (host := RX7) (fun w => w.2.2.1) rfl (by omega) rfl (Nat.le_of_ble_eq_true rfl) dX5_comesAlive_43 ?_
      refine jj_if_eq 87 dX5_comesAlive_46 (by decide) (fun c4 => ?_) (fun c4 => ?_)
      · replace h := (if_pos c4).symm.trans h
        refine jj_sub [2, 3, 4, 5, 6, 7, 8, 1] rfl ?_
        exact t_wyf_comesAlive_B87 d  hp1 hp2 hF ih h
      · replace h := (if_neg c4).symm.trans h
        refine jj_iload dX5_comesAlive_49 0 rfl ?_
        refine jj_callNi [.int (μ (p1 + 1) (x6 - 1).toNatClampNeg)] [] (c_wnf_isWell (d + 2)  rfl) jm_wnf_isWell (host := RX7) (fun w => w.2.2.1) rfl (by omega) rfl (Nat.le_of_ble_eq_true rfl) dX5_comesAlive_51 ?_
        refine jj_if_eq 87 dX5_comesAlive_54 (by decide) (fun c5 => ?_) (fun c5 => ?_)
        · replace h := (if_pos c5).symm.trans h
          refine jj_sub [2, 3, 4, 5, 6, 7, 8, 1] rfl ?_
          exact t_wyf_comesAlive_B87 d  hp1 hp2 hF ih h
        · replace h := (if_neg c5).symm.trans h
          refine jj_iload dX5_comesAlive_57 1 rfl ?_
          refine jj_iload dX5_comesAlive_59 0 rfl ?_
          refine jj_icmp_eq 87 dX5_comesAlive_61 (by decide) (fun c6 => ?_) (fun c6 => ?_)
          · replace h := (if_pos c6).symm.trans h
            refine jj_sub [2, 3, 4, 5, 6, 7, 8, 1] rfl ?_
            exact t_wyf_comesAlive_B87 d  hp1 hp2 hF ih h
          · replace h := (if_neg c6).symm.trans h
            refine jj_iload dX5_comesAlive_64 6 rfl ?_
            refine jj_aload_n dX5_comesAlive_66 2 rfl ?_
            refine jj_aload_n dX5_comesAlive_67 4 rfl ?_
            refine jj_aload_n dX5_comesAlive_68 2 rfl ?_
            refine jg_6_1 (k := 1) rfl lk_5_123 dX5_comesAlive_69 ?_
            show jj_V g X _ _ _ _ _ _ (.ref (jj_ad g 3) :: _) _
            refine jj_iload dX5_comesAlive_72 0 rfl ?_
            refine jj_bipush (8) dX5_comesAlive_74 rfl ?_
            refine jj_imul dX5_comesAlive_76 ?_
            refine jj_iload dX5_comesAlive_77 1 rfl ?_
            refine jj_iadd dX5_comesAlive_79 ?_
            obtain ⟨g7, h⟩ := jj_ge h
            refine jj_iaload (k := 3) (n := 64) rfl g7 dX5_comesAlive_80 ?_
            obtain ⟨q8, e8, h⟩ := jj_be h
            refine jj_callVi [.ref (jj_ad g p2), .int (μ 3 (((μ (p1 + 1) (x6 - 1).toNatClampNeg) * 8) + (μ (p1 + 1) x6.toNatClampNeg)).toNatClampNeg)] [.int x4] (c_wof_parched (d + 0) rfl hp2 e8) jm_wof_parched lk_5_37 (b := 1) rfl (by decide) (jj_E6 rfl) rfl rfl rfl (by omega) rfl (Nat.le_of_ble_eq_true rfl) dX5_comesAlive_81 ?_
            refine jj_iadd dX5_comesAlive_84 ?_
            refine jj_istore [(4, .int (x4 + q8.1)), (8, .int (μ (p1 + 1) (x6 - 1).toNatClampNeg)), (7, .int (μ (p1 + 1) x6.toNatClampNeg)), (0, .ref (jj_ad g 1)), (1, .ref (jj_ad g p1)), (2, .ref (jj_ad g p2)), (3, .int x3), (5, .int x5), (6, .int x6)] dX5_comesAlive_85 (by decide) rfl ?_
            refine jj_sub [3, 4, 5, 6, 0, 7, 8, 2] rfl ?_
            exact t_wyf_comesAlive_B87 d  hp1 hp2 hF ih h
def wyf_comesAlive (N : Nat) (p1 : Nat) (p2 : Nat) (x3 : Int32) (μ : jj_M) : Option (Int32 × jj_M) := wyf_comesAlive_L12 N p1 p2 x3 (pef_limit p2 μ) N 0 1 μ
set_option maxRecDepth 100000 in
theorem c_wyf_comesAlive {g : jj_G} (d : Nat) {N : Nat} {p1 : Nat} {p2 : Nat} {x3 : Int32} {μ : jj_M} {r : Int32} {μ' : jj_M}  (hp1 : jj_kd p1 = 3) (hp2 : jj_kd p2 = 1) (h : wyf_comesAlive N p1 p2 x3 μ = some (r, μ')) : jj_N g yX5_comesAlive cX5_comesAlive 9 (some .boolean) (d + 4) [.ref (jj_ad g 1), .ref (jj_ad g p1), .ref (jj_ad g p2), .int x3] μ (some (.int r)) μ' := by
  refine jj_N_of jn_5 (Nat.le_of_ble_eq_true rfl) (fun X hF => ?_)
  unfold wyf_comesAlive at h
  refine jj_sub (own := RX5) (lv2 := [(0, .ref (jj_ad g 1)), (1, .ref (jj_ad g p1)), (2, .ref (jj_ad g p2)), (3, .int x3)]) [0, 1, 2, 3] rfl ?_
  refine jj_iconst (0) dX5_comesAlive_0 rfl ?_
  refine jj_istore [(4, .int 0), (0, .ref (jj_ad g 1)), (1, .ref (jj_ad g p1)), (2, .ref (jj_ad g p2)), (3, .int x3)] dX5_comesAlive_1 (by decide) rfl ?_
  refine jj_aload_n dX5_comesAlive_3 3 rfl ?_
  refine jj_callVi [] [] (c_pef_limit (d + 3) hp2 rfl) jm_pef_limit lk_5_28 (b := p2) hp2 (by decide) (jj_E1 hp2) rfl rfl rfl (by omega) rfl (Nat.le_of_ble_eq_true rfl) dX5_comesAlive_4 ?_
  refine jj_istore [(5, .int (pef_limit p2 μ)), (4, .int 0), (0, .ref (jj_ad g 1)), (1, .ref (jj_ad g p1)), (2, .ref (jj_ad g p2)), (3, .int x3)] dX5_comesAlive_7 (by decide) rfl ?_
  refine jj_iconst (1) dX5_comesAlive_9 rfl ?_
  refine jj_istore [(6, .int 1), (5, .int (pef_limit p2 μ)), (4, .int 0), (0, .ref (jj_ad g 1)), (1, .ref (jj_ad g p1)), (2, .ref (jj_ad g p2)), (3, .int x3)] dX5_comesAlive_10 (by decide) rfl ?_
  refine jj_sub [3, 4, 5, 6, 2, 1, 0] rfl ?_
  exact t_wyf_comesAlive_L12 d  hp1 hp2 hF  _ _ _ _ h
def wnf_alive (N : Nat) (x1 : Int32) (x2 : Int32) (x3 : Int32) (μ : jj_M) : Option (Int32 × jj_M) := if (wnf_isSheet x1) = 0 then (wnf_refuse 1 μ).bind fun q2 => some ((q2.1, q2.2)) else if (wnf_isPerson x2 μ) = 0 then (wnf_refuse 1 μ).bind fun q4 => some ((q4.1, q4.2)) else if (wnf_areWells x3) = 0 then (wnf_refuse 1 μ).bind fun q14 => some ((q14.1, q14.2)) else if jj_i x1 4 then (wyf_walkedHours N (50 + 1 + 2 * x1.toNatClampNeg) μ).bind fun q7 => if 0 ≤ q7 then if jj_i x1 4 then if jj_i x2 6 then (wyf_comesAlive N (50 + 1 + 2 * x1.toNatClampNeg) (5 + 4 + x2.toNatClampNeg) x3 μ).bind fun q11 => if q11.1 = 0 then some ((0, q11.2)) else some ((1, q11.2)) else none else none else (wnf_refuse 2 μ).bind fun q13 => some ((q13.1, q13.2)) else none
set_option maxRecDepth 100000 in
theorem c_wnf_alive {g : jj_G} (d : Nat) {N : Nat} {x1 : Int32} {x2 : Int32} {x3 : Int32} {μ : jj_M} {r : Int32} {μ' : jj_M}   (h : wnf_alive N x1 x2 x3 μ = some (r, μ')) : jj_N g yX7_alive cX7_alive 4 (some .int) (d + 5) [.ref (jj_ad g 0), .int x1, .int x2, .int x3] μ (some (.int r)) μ' := by
  refine jj_N_of jn_7 (Nat.le_of_ble_eq_true rfl) (fun X hF => ?_)
  unfold wnf_alive at h
  refine jj_sub (own := RX7) (lv2 := [(0, .ref (jj_ad g 0)), (1, .int x1), (2, .int x2), (3, .int x3)]) [0, 1, 2, 3] rfl ?_
  refine jj_iload_n dX7_alive_0 1 rfl ?_
  refine jj_callSi [.int x1] [] (c_wnf_isSheet (d + 3)  rfl) jm_wnf_isSheet lk_7_229 rfl (by omega) rfl (Nat.le_of_ble_eq_true rfl) dX7_alive_1 ?_
  refine jj_if_eq 22 dX7_alive_4 (by decide) (fun c1 => ?_) (fun c1 => ?_)
  · replace h := (if_pos c1).symm.trans h
    refine jj_aload_n dX7_alive_22 0 rfl ?_
    refine jj_iconst (1) dX7_alive_23 rfl ?_
    obtain ⟨q2, e2, h⟩ := jj_be h
    refine jj_callVi [.int 1] [] (c_wnf_refuse (d + 4)  e2) jm_wnf_refuse lk_7_59 (b := 0) rfl (by decide) (jj_E7 rfl) rfl rfl rfl (by omega) rfl (Nat.le_of_ble_eq_true rfl) dX7_alive_24 ?_
    exact jj_iret2 hF dX7_alive_27 (Option.some.inj h)
  · replace h := (if_neg c1).symm.trans h
    refine jj_aload_n dX7_alive_7 0 rfl ?_
    refine jj_iload_n dX7_alive_8 2 rfl ?_
    refine jj_callVi [.int x2] [] (c_wnf_isPerson (d + 3)  rfl) jm_wnf_isPerson lk_7_108 (b := 0) rfl (by decide) (jj_E7 rfl) rfl rfl rfl (by omega) rfl (Nat.le_of_ble_eq_true rfl) dX7_alive_9 ?_
    refine jj_if_eq 22 dX7_alive_12 (by decide) (fun c3 => ?_) (fun c3 => ?_)
    · replace h := (if_pos c3).symm.trans h
      refine jj_aload_n dX7_alive_22 0 rfl ?_
      refine jj_iconst (1) dX7_alive_23 rfl ?_
      obtain ⟨q4, e4, h⟩ := jj_be h
      refine jj_callVi [.int 1] [] (c_wnf_refuse (d + 4)  e4) jm_wnf_refuse lk_7_59 (b := 0) rfl (by decide) (jj_E7 rfl) rfl rfl rfl (by omega) rfl (Nat.le_of_ble_eq_true rfl) dX7_alive_24 ?_
      exact jj_iret2 hF dX7_alive_27 (Option.some.inj h)
    · replace h := (if_neg c3).symm.trans h
      refine jj_iload_n dX7_alive_15 3 rfl ?_
      refine jj_callSi [.int x3] [] (c_wnf_areWells (d + 3)  rfl) jm_wnf_areWells lk_7_199 rfl (by omega) rfl (Nat.le_of_ble_eq_true rfl) dX7_alive_16 ?_
      refine jj_if_ne 28 dX7_alive_19 (by decide) (fun c5 => ?_) (fun c5 => ?_)
      · replace h := (if_neg c5).symm.trans h
        refine jj_aload_n dX7_alive_28 0 rfl ?_
        refine jg_7_0 (k := 0) rfl lk_7_10 dX7_alive_29 ?_
        show jj_V g X _ _ _ _ _ _ (.ref (jj_ad g 1) :: _) _
        refine jj_aload_n dX7_alive_32 0 rfl ?_
        refine jg_7_5 (k := 0) rfl lk_7_42 dX7_alive_33 ?_
        show jj_V g X _ _ _ _ _ _ (.ref (jj_ad g 50) :: _) _
        refine jj_iload_n dX7_alive_36 1 rfl ?_
        obtain ⟨g6, h⟩ := jj_ge h
        refine jj_aaload12 (k := 50) rfl g6 dX7_alive_37 ?_
        obtain ⟨q7, e7, h⟩ := jj_be h
        refine jj_callSi [.ref (jj_ad g 1), .ref (jj_ad g (50 + 1 + 2 * x1.toNatClampNeg))] [] (c_wyf_walkedHours (d + 2) (jk_12 (k := 50) rfl g6) e7) jm_wyf_walkedHours lk_7_232 rfl (by omega) rfl (Nat.le_of_ble_eq_true rfl) dX7_alive_38 ?_
        refine jj_if_ge 50 dX7_alive_41 (by decide) (fun c8 => ?_) (fun c8 => ?_)
        · replace h := (if_pos c8).symm.trans h
          refine jj_aload_n dX7_alive_50 0 rfl ?_
          refine jg_7_0 (k := 0) rfl lk_7_10 dX7_alive_51 ?_
          show jj_V g X _ _ _ _ _ _ (.ref (jj_ad g 1) :: _) _
          refine jj_aload_n dX7_alive_54 0 rfl ?_
          refine jg_7_5 (k := 0) rfl lk_7_42 dX7_alive_55 ?_
          show jj_V g X _ _ _ _ _ _ (.ref (jj_ad g 50) :: _) _
          refine jj_iload_n dX7_alive_58 1 rfl ?_
          obtain ⟨g9, h⟩ := jj_ge h
          refine jj_aaload12 (k := 50) rfl g9 dX7_alive_59 ?_
          refine jj_aload_n dX7_alive_60 0 rfl ?_
          refine jg_7_0 (k := 0) rfl lk_7_10 dX7_alive_61 ?_
          show jj_V g X _ _ _ _ _ _ (.ref (jj_ad g 1) :: _) _
          refine jg_6_3 (k := 1) rfl lk_7_98 dX7_alive_64 ?_
          show jj_V g X _ _ _ _ _ _ (.ref (jj_ad g 5) :: _) _
          refine jj_iload_n dX7_alive_67 2 rfl ?_
          obtain ⟨g10, h⟩ := jj_ge h
          refine jj_aaload10 (k := 5) rfl g10 dX7_alive_68 ?_
          refine jj_iload_n dX7_alive_69 3 rfl ?_
          obtain ⟨q11, e11, h⟩ := jj_be h
          refine jj_callSi [.ref (jj_ad g 1), .ref (jj_ad g (50 + 1 + 2 * x1.toNatClampNeg)), .ref (jj_ad g (5 + 4 + x2.toNatClampNeg)), .int x3] [] (c_wyf_comesAlive (d + 0) (jk_12 (k := 50) rfl g9) (jk_10 (k := 5) rfl g10) e11) jm_wyf_comesAlive lk_7_236 rfl (by omega) rfl (Nat.le_of_ble_eq_true rfl) dX7_alive_70 ?_
          refine jj_if_eq 80 dX7_alive_73 (by decide) (fun c12 => ?_) (fun c12 => ?_)
          · replace h := (if_pos c12).symm.trans h
            refine jj_iconst (0) dX7_alive_80 rfl ?_
            exact jj_iret2 hF dX7_alive_81 (Option.some.inj h)
          · replace h := (if_neg c12).symm.trans h
            refine jj_iconst (1) dX7_alive_76 rfl ?_
            refine jj_goto 81 dX7_alive_77 (by decide) ?_
            exact jj_iret2 hF dX7_alive_81 (Option.some.inj h)
        · replace h := (if_neg c8).symm.trans h
          refine jj_aload_n dX7_alive_44 0 rfl ?_
          refine jj_iconst (2) dX7_alive_45 rfl ?_
          obtain ⟨q13, e13, h⟩ := jj_be h
          refine jj_callVi [.int 2] [] (c_wnf_refuse (d + 4)  e13) jm_wnf_refuse lk_7_59 (b := 0) rfl (by decide) (jj_E7 rfl) rfl rfl rfl (by omega) rfl (Nat.le_of_ble_eq_true rfl) dX7_alive_46 ?_
          exact jj_iret2 hF dX7_alive_49 (Option.some.inj h)
      · replace h := (if_pos c5).symm.trans h
        refine jj_aload_n dX7_alive_22 0 rfl ?_
        refine jj_iconst (1) dX7_alive_23 rfl ?_
        obtain ⟨q14, e14, h⟩ := jj_be h
        refine jj_callVi [.int 1] [] (c_wnf_refuse (d + 4)  e14) jm_wnf_refuse lk_7_59 (b := 0) rfl (by decide) (jj_E7 rfl) rfl rfl rfl (by omega) rfl (Nat.le_of_ble_eq_true rfl) dX7_alive_24 ?_
        exact jj_iret2 hF dX7_alive_27 (Option.some.inj h)
def wnf_grown (N : Nat) (x1 : Int32) (x2 : Int32) (x3 : Int32) (μ : jj_M) : Option (Int32 × jj_M) := if (wnf_isWell x1) = 0 then (wnf_refuse 1 μ).bind fun q2 => some ((q2.1, q2.2)) else if (wnf_within x2 0 100) = 0 then (wnf_refuse 1 μ).bind fun q4 => some ((q4.1, q4.2)) else if (wnf_within x3 0 20) = 0 then (wnf_refuse 1 μ).bind fun q7 => some ((q7.1, q7.2)) else (wof_debtBehind N 1 x1 x2 x3 μ).bind fun q6 => some ((q6, μ))
set_option maxRecDepth 100000 in
theorem c_wnf_grown {g : jj_G} (d : Nat) {N : Nat} {x1 : Int32} {x2 : Int32} {x3 : Int32} {μ : jj_M} {r : Int32} {μ' : jj_M}   (h : wnf_grown N x1 x2 x3 μ = some (r, μ')) : jj_N g yX7_grown cX7_grown 4 (some .int) (d + 3) [.ref (jj_ad g 0), .int x1, .int x2, .int x3] μ (some (.int r)) μ' := by
  refine jj_N_of jn_7 (Nat.le_of_ble_eq_true rfl) (fun X hF => ?_)
  unfold wnf_grown at h
  refine jj_sub (own := RX7) (lv2 := [(0, .ref (jj_ad g 0)), (1, .int x1), (2, .int x2), (3, .int x3)]) [0, 1, 2, 3] rfl ?_
  refine jj_iload_n dX7_grown_0 1 rfl ?_
  refine jj_callSi [.int x1] [] (c_wnf_isWell (d + 1)  rfl) jm_wnf_isWell lk_7_51 rfl (by omega) rfl (Nat.le_of_ble_eq_true rfl) dX7_grown_1 ?_
  refine jj_if_eq 27 dX7_grown_4 (by decide) (fun c1 => ?_) (fun c1 => ?_)
  · replace h := (if_pos c1).symm.trans h
    refine jj_aload_n dX7_grown_27 0 rfl ?_
    refine jj_iconst (1) dX7_grown_28 rfl ?_
    obtain ⟨q2, e2, h⟩ := jj_be h
    refine jj_callVi [.int 1] [] (c_wnf_refuse (d + 2)  e2) jm_wnf_refuse lk_7_59 (b := 0) rfl (by decide) (jj_E7 rfl) rfl rfl rfl (by omega) rfl (Nat.le_of_ble_eq_true rfl) dX7_grown_29 ?_
    exact jj_iret2 hF dX7_grown_32 (Option.some.inj h)
  · replace h := (if_neg c1).symm.trans h
    refine jj_iload_n dX7_grown_7 2 rfl ?_
    refine jj_iconst (0) dX7_grown_8 rfl ?_
    refine jj_bipush (100) dX7_grown_9 rfl ?_
    refine jj_callSi [.int x2, .int 0, .int 100] [] (c_wnf_within (d + 2)  rfl) jm_wnf_within lk_7_55 rfl (by omega) rfl (Nat.le_of_ble_eq_true rfl) dX7_grown_11 ?_
    refine jj_if_eq 27 dX7_grown_14 (by decide) (fun c3 => ?_) (fun c3 => ?_)
    · replace h := (if_pos c3).symm.trans h
      refine jj_aload_n dX7_grown_27 0 rfl ?_
      refine jj_iconst (1) dX7_grown_28 rfl ?_
      obtain ⟨q4, e4, h⟩ := jj_be h
      refine jj_callVi [.int 1] [] (c_wnf_refuse (d + 2)  e4) jm_wnf_refuse lk_7_59 (b := 0) rfl (by decide) (jj_E7 rfl) rfl rfl rfl (by omega) rfl (Nat.le_of_ble_eq_true rfl) dX7_grown_29 ?_
      exact jj_iret2 hF dX7_grown_32 (Option.some.inj h)
    · replace h := (if_neg c3).symm.trans h
      refine jj_iload_n dX7_grown_17 3 rfl ?_
      refine jj_iconst (0) dX7_grown_18 rfl ?_
      refine jj_bipush (20) dX7_grown_19 rfl ?_
      refine jj_callSi [.int x3, .int 0, .int 20] [] (c_wnf_within (d + 2)  rfl) jm_wnf_within lk_7_55 rfl (by omega) rfl (Nat.le_of_ble_eq_true rfl) dX7_grown_21 ?_
      refine jj_if_ne 33 dX7_grown_24 (by decide) (fun c5 => ?_) (fun c5 => ?_)
      · replace h := (if_neg c5).symm.trans h
        refine jj_aload_n dX7_grown_33 0 rfl ?_
        refine jg_7_0 (k := 0) rfl lk_7_10 dX7_grown_34 ?_
        show jj_V g X _ _ _ _ _ _ (.ref (jj_ad g 1) :: _) _
        refine jj_iload_n dX7_grown_37 1 rfl ?_
        refine jj_iload_n dX7_grown_38 2 rfl ?_
        refine jj_iload_n dX7_grown_39 3 rfl ?_
        obtain ⟨q6, e6, h⟩ := jj_be h
        refine jj_callVi [.int x1, .int x2, .int x3] [] (c_wof_debtBehind (d + 0) rfl e6) jm_wof_debtBehind lk_7_240 (b := 1) rfl (by decide) (jj_E6 rfl) rfl rfl rfl (by omega) rfl (Nat.le_of_ble_eq_true rfl) dX7_grown_40 ?_
        exact jj_iret2 hF dX7_grown_43 (Option.some.inj h)
      · replace h := (if_pos c5).symm.trans h
        refine jj_aload_n dX7_grown_27 0 rfl ?_
        refine jj_iconst (1) dX7_grown_28 rfl ?_
        obtain ⟨q7, e7, h⟩ := jj_be h
        refine jj_callVi [.int 1] [] (c_wnf_refuse (d + 2)  e7) jm_wnf_refuse lk_7_59 (b := 0) rfl (by decide) (jj_E7 rfl) rfl rfl rfl (by omega) rfl (Nat.le_of_ble_eq_true rfl) dX7_grown_29 ?_
        exact jj_iret2 hF dX7_grown_32 (Option.some.inj h)
def wnf_seed  (x1 : Int32) (μ : jj_M) : Int32 × jj_M := (μ 1 13, jj_u μ 1 13 x1)
set_option maxRecDepth 100000 in
theorem c_wnf_seed {g : jj_G} (d : Nat)  {x1 : Int32} {μ : jj_M} {r : Int32} {μ' : jj_M}   (h : wnf_seed x1 μ = (r, μ')) : jj_N g yX7_seed cX7_seed 3 (some .int) (d + 0) [.ref (jj_ad g 0), .int x1] μ (some (.int r)) μ' := by
  refine jj_N_of jn_7 (Nat.le_of_ble_eq_true rfl) (fun X hF => ?_)
  unfold wnf_seed at h
  refine jj_sub (own := RX7) (lv2 := [(0, .ref (jj_ad g 0)), (1, .int x1)]) [0, 1] rfl ?_
  refine jj_aload_n dX7_seed_0 0 rfl ?_
  refine jg_7_0 (k := 0) rfl lk_7_10 dX7_seed_1 ?_
  show jj_V g X _ _ _ _ _ _ (.ref (jj_ad g 1) :: _) _
  refine jg_6_13 (k := 1) rfl lk_7_243 dX7_seed_4 ?_
  refine jj_istore_n [(2, .int (μ 1 13)), (0, .ref (jj_ad g 0)), (1, .int x1)] dX7_seed_7 (by decide) rfl ?_
  refine jj_aload_n dX7_seed_8 1 rfl ?_
  refine jg_7_0 (k := 0) rfl lk_7_10 dX7_seed_9 ?_
  show jj_V g X _ _ _ _ _ _ (.ref (jj_ad g 1) :: _) _
  refine jj_iload_n dX7_seed_12 2 rfl ?_
  refine jp_6_13 (k := 1) rfl lk_7_243 dX7_seed_13 ?_
  refine jj_iload_n dX7_seed_16 0 rfl ?_
  exact jj_iret2 hF dX7_seed_17 h
def vof_note  (x1 : Int32) (μ : jj_M) : Option (jj_M) := if 40 ≤ (μ 48 1) then some μ else if jj_i (μ 48 1) 40 then (some (jj_u (jj_u μ 49 (μ 48 1).toNatClampNeg x1) 48 1 (((jj_u μ 49 (μ 48 1).toNatClampNeg x1) 48 1) + 1))).bind fun m3 => some m3 else none
set_option maxRecDepth 100000 in
theorem c_vof_note {g : jj_G} (d : Nat)  {x1 : Int32} {μ : jj_M} {μ' : jj_M}   (h : vof_note x1 μ = some μ') : jj_N g yX4_note cX4_note 2 none (d + 0) [.ref (jj_ad g 48), .int x1] μ none μ' := by
  refine jj_N_of jn_4 (Nat.le_of_ble_eq_true rfl) (fun X hF => ?_)
  unfold vof_note at h
  refine jj_sub (own := RX4) (lv2 := [(0, .ref (jj_ad g 48)), (1, .int x1)]) [0, 1] rfl ?_
  refine jj_aload_n dX4_note_0 0 rfl ?_
  refine jg_4_1 (k := 48) rfl lk_4_29 dX4_note_1 ?_
  refine jj_bipush (40) dX4_note_4 rfl ?_
  refine jj_icmp_ge 29 dX4_note_6 (by decide) (fun c1 => ?_) (fun c1 => ?_)
  · replace h := (if_pos c1).symm.trans h
    exact jj_vret1 hF dX4_note_29 (Option.some.inj h)
  · replace h := (if_neg c1).symm.trans h
    refine jj_aload_n dX4_note_9 0 rfl ?_
    refine jg_4_0 (k := 48) rfl lk_4_11 dX4_note_10 ?_
    show jj_V g X _ _ _ _ _ _ (.ref (jj_ad g 49) :: _) _
    refine jj_aload_n dX4_note_13 0 rfl ?_
    refine jg_4_1 (k := 48) rfl lk_4_29 dX4_note_14 ?_
    refine jj_iload_n dX4_note_17 1 rfl ?_
    obtain ⟨g2, h⟩ := jj_ge h
    refine jj_iastore (k := 49) (n := 40) rfl g2 dX4_note_18 ?_
    refine jj_aload_n dX4_note_19 0 rfl ?_
    refine jj_dup dX4_note_20 rfl ?_
    refine jg_4_1 (k := 48) rfl lk_4_29 dX4_note_21 ?_
    refine jj_iconst (1) dX4_note_24 rfl ?_
    refine jj_iadd dX4_note_25 ?_
    refine jp_4_1 (k := 48) rfl lk_4_29 dX4_note_26 ?_
    obtain ⟨m3, em3, h⟩ := jj_be h
    refine jj_mu em3 ?_
    exact jj_vret1 hF dX4_note_29 (Option.some.inj h)
def vof_run (N : Nat) (f_vof_say : Int32 → Int32 → Int32 → Int32 → jj_M → Option (Int32 × jj_M)) (x1 : Int32) (x2 : Int32) (x3 : Int32) (x4 : Int32) (μ : jj_M) : Option (Int32 × jj_M) := (vof_note x1 μ).bind fun q1 => if x1 = 10 then some ((x3 + (q1 48 2), q1)) else if x1 = 11 then (f_vof_say (q1 48 4) 0 x3 x4 q1).bind fun q4 => some ((q4.1 * 2, q4.2)) else if x1 = 12 then some ((x3 - (q1 48 3), q1)) else if x1 = 13 then (f_vof_say (q1 48 4) 1 x3 x4 q1).bind fun q7 => (f_vof_say (q7.2 48 4) 2 x3 x4 q7.2).bind fun q8 => some ((q7.1 ^^^ q8.1, q8.2)) else if x1 = 20 then (f_vof_say x2 0 x3 x4 q1).bind fun q10 => some ((q10.1 * 3, q10.2)) else if x1 = 30 then (f_vof_say x2 1 x3 x4 q1).bind fun q12 => (f_vof_say (q12.2 48 4) 2 1 x4 q12.2).bind fun q13 => some ((q12.1 - q13.1, q13.2)) else if x1 = 40 then (f_vof_say x2 2 x3 x4 q1).bind fun q15 => some ((-q15.1, q15.2)) else if x1 = 50 then (f_vof_say x2 3 x3 x4 q1).bind fun q17 => (f_vof_say (q17.2 48 4) 0 2 x4 q17.2).bind fun q18 => some ((q17.1 - q18.1, q18.2)) else if x1 = 60 then (f_vof_say x2 1 (x3 + 1) x4 q1).bind fun q20 => some ((q20.1, q20.2)) else if x1 = 70 then (f_vof_say x2 2 x3 x4 q1).bind fun q22 => some ((q22.1 ^^^ (q22.2 48 2), q22.2)) else if x1 = 71 then (f_vof_say (q1 48 4) 1 x3 x4 q1).bind fun q24 => (f_vof_say x2 3 x3 x4 q24.2).bind fun q25 => some ((q24.1 - q25.1, q25.2)) else some ((0, q1))
set_option maxRecDepth 100000 in
theorem c_vof_run {g : jj_G} (d : Nat) {N : Nat} {f_vof_say : Int32 → Int32 → Int32 → Int32 → jj_M → Option (Int32 × jj_M)} {x1 : Int32} {x2 : Int32} {x3 : Int32} {x4 : Int32} {μ : jj_M} {r : Int32} {μ' : jj_M} (h_vof_say : ∀ {x1 : Int32} {x2 : Int32} {x3 : Int32} {x4 : Int32} {μ : jj_M} {r : Int32} {μ' : jj_M} , f_vof_say x1 x2 x3 x4 μ = some (r, μ') → jj_N g yX4_say cX4_say 8 (some .int) (d + 0) [.ref (jj_ad g 48), .int x1, .int x2, .int x3, .int x4] μ (some (.int r)) μ')  (h : vof_run N f_vof_say x1 x2 x3 x4 μ = some (r, μ')) : jj_N g yX4_run cX4_run 5 (some .int) (d + 1) [.ref (jj_ad g 48), .int x1, .int x2, .int x3, .int x4] μ (some (.int r)) μ' := by
  refine jj_N_of jn_4 (Nat.le_of_ble_eq_true rfl) (fun X hF => ?_)
  unfold vof_run at h
  refine jj_sub (own := RX4) (lv2 := [(0, .ref (jj_ad g 48)), (1, .int x1), (2, .int x2), (3, .int x3), (4, .int x4)]) [0, 1, 2, 3, 4] rfl ?_
  refine jj_aload_n dX4_run_0 0 rfl ?_
  refine jj_iload_n dX4_run_1 1 rfl ?_
  obtain ⟨q1, e1, h⟩ := jj_be h
  refine jj_callVv [.int x1] [] (c_vof_note (d + 0)  e1) jm_vof_note lk_4_49 (b := 48) rfl (by decide) (jj_E4 rfl) rfl rfl rfl (by omega) rfl (Nat.le_of_ble_eq_true rfl) dX4_run_2 ?_
  refine jj_iload_n dX4_run_5 1 rfl ?_
  by_cases c2 : x1 = 10
  · replace h := (if_pos c2).symm.trans h
    refine jj_lookup 104 dX4_run_6 (by decide +kernel) (by rw [c2]; rfl) (show (6 : Int) + 98 = (104 : Nat) by decide) ?_
    refine jj_iload_n dX4_run_104 3 rfl ?_
    refine jj_aload_n dX4_run_105 0 rfl ?_
    refine jg_4_2 (k := 48) rfl lk_4_15 dX4_run_106 ?_
    refine jj_iadd dX4_run_109 ?_
    exact jj_iret2 hF dX4_run_110 (Option.some.inj h)
  replace h := (if_neg c2).symm.trans h
  by_cases c3 : x1 = 11
  · replace h := (if_pos c3).symm.trans h
    refine jj_lookup 111 dX4_run_6 (by decide +kernel) (by rw [c3]; rfl) (show (6 : Int) + 105 = (111 : Nat) by decide) ?_
    refine jj_aload_n dX4_run_111 0 rfl ?_
    refine jj_aload_n dX4_run_112 0 rfl ?_
    refine jg_4_4 (k := 48) rfl lk_4_28 dX4_run_113 ?_
    refine jj_iconst (0) dX4_run_116 rfl ?_
    refine jj_iload_n dX4_run_117 3 rfl ?_
    refine jj_iload dX4_run_118 4 rfl ?_
    obtain ⟨q4, e4, h⟩ := jj_be h
    refine jj_callVi [.int (q1 48 4), .int 0, .int x3, .int x4] [] (h_vof_say  e4) jm_vof_say lk_4_32 (b := 48) rfl (by decide) (jj_E4 rfl) rfl rfl rfl (by omega) rfl (Nat.le_of_ble_eq_true rfl) dX4_run_120 ?_
    refine jj_iconst (2) dX4_run_123 rfl ?_
    refine jj_imul dX4_run_124 ?_
    exact jj_iret2 hF dX4_run_125 (Option.some.inj h)
  replace h := (if_neg c3).symm.trans h
  by_cases c5 : x1 = 12
  · replace h := (if_pos c5).symm.trans h
    refine jj_lookup 126 dX4_run_6 (by decide +kernel) (by rw [c5]; rfl) (show (6 : Int) + 120 = (126 : Nat) by decide) ?_
    refine jj_iload_n dX4_run_126 3 rfl ?_
    refine jj_aload_n dX4_run_127 0 rfl ?_
    refine jg_4_3 (k := 48) rfl lk_4_24 dX4_run_128 ?_
    refine jj_isub dX4_run_131 ?_
    exact jj_iret2 hF dX4_run_132 (Option.some.inj h)
  replace h := (if_neg c5).symm.trans h
  by_cases c6 : x1 = 13
  · replace h := (if_pos c6).symm.trans h
    refine jj_lookup 133 dX4_run_6 (by decide +kernel) (by rw [c6]; rfl) (show (6 : Int) + 127 = (133 : Nat) by decide) ?_
    refine jj_aload_n dX4_run_133 0 rfl ?_
    refine jj_aload_n dX4_run_134 0 rfl ?_
    refine jg_4_4 (k := 48) rfl lk_4_28 dX4_run_135 ?_
    refine jj_iconst (1) dX4_run_138 rfl ?_
    refine jj_iload_n dX4_run_139 3 rfl ?_
    refine jj_iload dX4_run_140 4 rfl ?_
    obtain ⟨q7, e7, h⟩ := jj_be h
    refine jj_callVi [.int (q1 48 4), .int 1, .int x3, .int x4] [] (h_vof_say  e7) jm_vof_say lk_4_32 (b := 48) rfl (by decide) (jj_E4 rfl) rfl rfl rfl (by omega) rfl (Nat.le_of_ble_eq_true rfl) dX4_run_142 ?_
    refine jj_aload_n dX4_run_145 0 rfl ?_
    refine jj_aload_n dX4_run_146 0 rfl ?_
    refine jg_4_4 (k := 48) rfl lk_4_28 dX4_run_147 ?_
    refine jj_iconst (2) dX4_run_150 rfl ?_
    refine jj_iload_n dX4_run_151 3 rfl ?_
    refine jj_iload dX4_run_152 4 rfl ?_
    obtain ⟨q8, e8, h⟩ := jj_be h
    refine jj_callVi [.int (q7.2 48 4), .int 2, .int x3, .int x4] [.int q7.1] (h_vof_say  e8) jm_vof_say lk_4_32 (b := 48) rfl (by decide) (jj_E4 rfl) rfl rfl rfl (by omega) rfl (Nat.le_of_ble_eq_true rfl) dX4_run_154 ?_
    refine jj_ixor dX4_run_157 ?_
    exact jj_iret2 hF dX4_run_158 (Option.some.inj h)
  replace h := (if_neg c6).symm.trans h
  by_cases c9 : x1 = 20
  · replace h := (if_pos c9).symm.trans h
    refine jj_lookup 159 dX4_run_6 (by decide +kernel) (by rw [c9]; rfl) (show (6 : Int) + 153 = (159 : Nat) by decide) ?_
    refine jj_aload_n dX4_run_159 0 rfl ?_
    refine jj_iload_n dX4_run_160 2 rfl ?_
    refine jj_iconst (0) dX4_run_161 rfl ?_
    refine jj_iload_n dX4_run_162 3 rfl ?_
    refine jj_iload dX4_run_163 4 rfl ?_
    obtain ⟨q10, e10, h⟩ := jj_be h
    refine jj_callVi [.int x2, .int 0, .int x3, .int x4] [] (h_vof_say  e10) jm_vof_say lk_4_32 (b := 48) rfl (by decide) (jj_E4 rfl) rfl rfl rfl (by omega) rfl (Nat.le_of_ble_eq_true rfl) dX4_run_165 ?_
    refine jj_iconst (3) dX4_run_168 rfl ?_
    refine jj_imul dX4_run_169 ?_
    exact jj_iret2 hF dX4_run_170 (Option.some.inj h)
  replace h := (if_neg c9).symm.trans h
  by_cases c11 : x1 = 30
  · replace h := (if_pos c11).symm.trans h
    refine jj_lookup 171 dX4_run_6 (by decide +kernel) (by rw [c11]; rfl) (show (6 : Int) + 165 = (171 : Nat) by decide) ?_
    refine jj_aload_n dX4_run_171 0 rfl ?_
    refine jj_iload_n dX4_run_172 2 rfl ?_
    refine jj_iconst (1) dX4_run_173 rfl ?_
    refine jj_iload_n dX4_run_174 3 rfl ?_
    refine jj_iload dX4_run_175 4 rfl ?_
    obtain ⟨q12, e12, h⟩ := jj_be h
    refine jj_callVi [.int x2, .int 1, .int x3, .int x4] [] (h_vof_say  e12) jm_vof_say lk_4_32 (b := 48) rfl (by decide) (jj_E4 rfl) rfl rfl rfl (by omega) rfl (Nat.le_of_ble_eq_true rfl) dX4_run_177 ?_
    refine jj_aload_n dX4_run_180 0 rfl ?_
    refine jj_aload_n dX4_run_181 0 rfl ?_
    refine jg_4_4 (k := 48) rfl lk_4_28 dX4_run_182 ?_
    refine jj_iconst (2) dX4_run_185 rfl ?_
    refine jj_iconst (1) dX4_run_186 rfl ?_
    refine jj_iload dX4_run_187 4 rfl ?_
    obtain ⟨q13, e13, h⟩ := jj_be h
    refine jj_callVi [.int (q12.2 48 4), .int 2, .int 1, .int x4] [.int q12.1] (h_vof_say  e13) jm_vof_say lk_4_32 (b := 48) rfl (by decide) (jj_E4 rfl) rfl rfl rfl (by omega) rfl (Nat.le_of_ble_eq_true rfl) dX4_run_189 ?_
    refine jj_isub dX4_run_192 ?_
    exact jj_iret2 hF dX4_run_193 (Option.some.inj h)
  replace h := (if_neg c11).symm.trans h
  by_cases c14 : x1 = 40
  · replace h := (if_pos c14).symm.trans h
    refine jj_lookup 194 dX4_run_6 (by decide +kernel) (by rw [c14]; rfl) (show (6 : Int) + 188 = (194 : Nat) by decide) ?_
    refine jj_aload_n dX4_run_194 0 rfl ?_
    refine jj_iload_n dX4_run_195 2 rfl ?_
    refine jj_iconst (2) dX4_run_196 rfl ?_
    refine jj_iload_n dX4_run_197 3 rfl ?_
    refine jj_iload dX4_run_198 4 rfl ?_
    obtain ⟨q15, e15, h⟩ := jj_be h
    refine jj_callVi [.int x2, .int 2, .int x3, .int x4] [] (h_vof_say  e15) jm_vof_say lk_4_32 (b := 48) rfl (by decide) (jj_E4 rfl) rfl rfl rfl (by omega) rfl (Nat.le_of_ble_eq_true rfl) dX4_run_200 ?_
    refine jj_ineg dX4_run_203 ?_
    exact jj_iret2 hF dX4_run_204 (Option.some.inj h)
  replace h := (if_neg c14).symm.trans h
  by_cases c16 : x1 = 50
  · replace h := (if_pos c16).symm.trans h
    refine jj_lookup 205 dX4_run_6 (by decide +kernel) (by rw [c16]; rfl) (show (6 : Int) + 199 = (205 : Nat) by decide) ?_
    refine jj_aload_n dX4_run_205 0 rfl ?_
    refine jj_iload_n dX4_run_206 2 rfl ?_
    refine jj_iconst (3) dX4_run_207 rfl ?_
    refine jj_iload_n dX4_run_208 3 rfl ?_
    refine jj_iload dX4_run_209 4 rfl ?_
    obtain ⟨q17, e17, h⟩ := jj_be h
    refine jj_callVi [.int x2, .int 3, .int x3, .int x4] [] (h_vof_say  e17) jm_vof_say lk_4_32 (b := 48) rfl (by decide) (jj_E4 rfl) rfl rfl rfl (by omega) rfl (Nat.le_of_ble_eq_true rfl) dX4_run_211 ?_
    refine jj_aload_n dX4_run_214 0 rfl ?_
    refine jj_aload_n dX4_run_215 0 rfl ?_
    refine jg_4_4 (k := 48) rfl lk_4_28 dX4_run_216 ?_
    refine jj_iconst (0) dX4_run_219 rfl ?_
    refine jj_iconst (2) dX4_run_220 rfl ?_
    refine jj_iload dX4_run_221 4 rfl ?_
    obtain ⟨q18, e18, h⟩ := jj_be h
    refine jj_callVi [.int (q17.2 48 4), .int 0, .int 2, .int x4] [.int q17.1] (h_vof_say  e18) jm_vof_say lk_4_32 (b := 48) rfl (by decide) (jj_E4 rfl) rfl rfl rfl (by omega) rfl (Nat.le_of_ble_eq_true rfl) dX4_run_223 ?_
    refine jj_isub dX4_run_226 ?_
    exact jj_iret2 hF dX4_run_227 (Option.some.inj h)
  replace h := (if_neg c16).symm.trans h
  by_cases c19 : x1 = 60
  · replace h := (if_pos c19).symm.trans h
    refine jj_lookup 228 dX4_run_6 (by decide +kernel) (by rw [c19]; rfl) (show (6 : Int) + 222 = (228 : Nat) by decide) ?_
    refine jj_aload_n dX4_run_228 0 rfl ?_
    refine jj_iload_n dX4_run_229 2 rfl ?_
    refine jj_iconst (1) dX4_run_230 rfl ?_
    refine jj_iload_n dX4_run_231 3 rfl ?_
    refine jj_iconst (1) dX4_run_232 rfl ?_
    refine jj_iadd dX4_run_233 ?_
    refine jj_iload dX4_run_234 4 rfl ?_
    obtain ⟨q20, e20, h⟩ := jj_be h
    refine jj_callVi [.int x2, .int 1, .int (x3 + 1), .int x4] [] (h_vof_say  e20) jm_vof_say lk_4_32 (b := 48) rfl (by decide) (jj_E4 rfl) rfl rfl rfl (by omega) rfl (Nat.le_of_ble_eq_true rfl) dX4_run_236 ?_
    exact jj_iret2 hF dX4_run_239 (Option.some.inj h)
  replace h := (if_neg c19).symm.trans h
  by_cases c21 : x1 = 70
  · replace h := (if_pos c21).symm.trans h
    refine jj_lookup 240 dX4_run_6 (by decide +kernel) (by rw [c21]; rfl) (show (6 : Int) + 234 = (240 : Nat) by decide) ?_
    refine jj_aload_n dX4_run_240 0 rfl ?_
    refine jj_iload_n dX4_run_241 2 rfl ?_
    refine jj_iconst (2) dX4_run_242 rfl ?_
    refine jj_iload_n dX4_run_243 3 rfl ?_
    refine jj_iload dX4_run_244 4 rfl ?_
    obtain ⟨q22, e22, h⟩ := jj_be h
    refine jj_callVi [.int x2, .int 2, .int x3, .int x4] [] (h_vof_say  e22) jm_vof_say lk_4_32 (b := 48) rfl (by decide) (jj_E4 rfl) rfl rfl rfl (by omega) rfl (Nat.le_of_ble_eq_true rfl) dX4_run_246 ?_
    refine jj_aload_n dX4_run_249 0 rfl ?_
    refine jg_4_2 (k := 48) rfl lk_4_15 dX4_run_250 ?_
    refine jj_ixor dX4_run_253 ?_
    exact jj_iret2 hF dX4_run_254 (Option.some.inj h)
  replace h := (if_neg c21).symm.trans h
  by_cases c23 : x1 = 71
  · replace h := (if_pos c23).symm.trans h
    refine jj_lookup 255 dX4_run_6 (by decide +kernel) (by rw [c23]; rfl) (show (6 : Int) + 249 = (255 : Nat) by decide) ?_
    refine jj_aload_n dX4_run_255 0 rfl ?_
    refine jj_aload_n dX4_run_256 0 rfl ?_
    refine jg_4_4 (k := 48) rfl lk_4_28 dX4_run_257 ?_
    refine jj_iconst (1) dX4_run_260 rfl ?_
    refine jj_iload_n dX4_run_261 3 rfl ?_
    refine jj_iload dX4_run_262 4 rfl ?_
    obtain ⟨q24, e24, h⟩ := jj_be h
    refine jj_callVi [.int (q1 48 4), .int 1, .int x3, .int x4] [] (h_vof_say  e24) jm_vof_say lk_4_32 (b := 48) rfl (by decide) (jj_E4 rfl) rfl rfl rfl (by omega) rfl (Nat.le_of_ble_eq_true rfl) dX4_run_264 ?_
    refine jj_aload_n dX4_run_267 0 rfl ?_
    refine jj_iload_n dX4_run_268 2 rfl ?_
    refine jj_iconst (3) dX4_run_269 rfl ?_
    refine jj_iload_n dX4_run_270 3 rfl ?_
    refine jj_iload dX4_run_271 4 rfl ?_
    obtain ⟨q25, e25, h⟩ := jj_be h
    refine jj_callVi [.int x2, .int 3, .int x3, .int x4] [.int q24.1] (h_vof_say  e25) jm_vof_say lk_4_32 (b := 48) rfl (by decide) (jj_E4 rfl) rfl rfl rfl (by omega) rfl (Nat.le_of_ble_eq_true rfl) dX4_run_273 ?_
    refine jj_isub dX4_run_276 ?_
    exact jj_iret2 hF dX4_run_277 (Option.some.inj h)
  replace h := (if_neg c23).symm.trans h
  have c2 : ¬ Int32.toInt x1 = 10 := fun w => c2 (Int32.toInt_inj.mp (w.trans (by decide)))
  have c3 : ¬ Int32.toInt x1 = 11 := fun w => c3 (Int32.toInt_inj.mp (w.trans (by decide)))
  have c5 : ¬ Int32.toInt x1 = 12 := fun w => c5 (Int32.toInt_inj.mp (w.trans (by decide)))
  have c6 : ¬ Int32.toInt x1 = 13 := fun w => c6 (Int32.toInt_inj.mp (w.trans (by decide)))
  have c9 : ¬ Int32.toInt x1 = 20 := fun w => c9 (Int32.toInt_inj.mp (w.trans (by decide)))
  have c11 : ¬ Int32.toInt x1 = 30 := fun w => c11 (Int32.toInt_inj.mp (w.trans (by decide)))
  have c14 : ¬ Int32.toInt x1 = 40 := fun w => c14 (Int32.toInt_inj.mp (w.trans (by decide)))
  have c16 : ¬ Int32.toInt x1 = 50 := fun w => c16 (Int32.toInt_inj.mp (w.trans (by decide)))
  have c19 : ¬ Int32.toInt x1 = 60 := fun w => c19 (Int32.toInt_inj.mp (w.trans (by decide)))
  have c21 : ¬ Int32.toInt x1 = 70 := fun w => c21 (Int32.toInt_inj.mp (w.trans (by decide)))
  have c23 : ¬ Int32.toInt x1 = 71 := fun w => c23 (Int32.toInt_inj.mp (w.trans (by decide)))
  refine jj_lookup 278 dX4_run_6 (by decide +kernel) (show Op.lookupswitch.offset [(10, 98), (11, 105), (12, 120), (13, 127), (20, 153), (30, 165), (40, 188), (50, 199), (60, 222), (70, 234), (71, 249)] 272 (Int32.toInt x1) = 272 by rw [Op.lookupswitch.offset_cons, if_neg (Ne.symm c2), Op.lookupswitch.offset_cons, if_neg (Ne.symm c3), Op.lookupswitch.offset_cons, if_neg (Ne.symm c5), Op.lookupswitch.offset_cons, if_neg (Ne.symm c6), Op.lookupswitch.offset_cons, if_neg (Ne.symm c9), Op.lookupswitch.offset_cons, if_neg (Ne.symm c11), Op.lookupswitch.offset_cons, if_neg (Ne.symm c14), Op.lookupswitch.offset_cons, if_neg (Ne.symm c16), Op.lookupswitch.offset_cons, if_neg (Ne.symm c19), Op.lookupswitch.offset_cons, if_neg (Ne.symm c21), Op.lookupswitch.offset_cons, if_neg (Ne.symm c23), Op.lookupswitch.offset_nil]) (show (6 : Int) + 272 = (278 : Nat) by decide) ?_
  refine jj_iconst (0) dX4_run_278 rfl ?_
  exact jj_iret2 hF dX4_run_279 (Option.some.inj h)
def vof_say_L6 (N : Nat) (f_vof_run : Int32 → Int32 → Int32 → Int32 → jj_M → Option (Int32 × jj_M))  (x2 : Int32) (x3 : Int32) (x4 : Int32) (μ : jj_M) : Nat → Int32 → Int32 → Option (Int32 × jj_M)
  | 0, _, _ => none
  | n + 1, x5, x6 => if 7 ≤ x6 then some ((0, μ)) else if (wnf_within x5 0 6) = 0 then some ((0, μ)) else if jj_i ((x5 * 4) + x2) 28 then if (jj_BO ((x5 * 4) + x2).toNatClampNeg) = 0 then if jj_i x5 7 then vof_say_L6 N f_vof_run x2 x3 x4 μ n (jj_KA x5.toNatClampNeg) (x6 + 1) else none else if 30 ≤ x4 then some ((0, μ)) else if jj_i x5 7 then (f_vof_run (jj_BO ((x5 * 4) + x2).toNatClampNeg) (jj_KA x5.toNatClampNeg) x3 (x4 + 1) μ).bind fun q8 => some ((q8.1, q8.2)) else none else none
set_option maxRecDepth 100000 in
theorem t_vof_say_L6 {g : jj_G} (d : Nat) {N : Nat} {f_vof_run : Int32 → Int32 → Int32 → Int32 → jj_M → Option (Int32 × jj_M)}  {x2 : Int32} {x3 : Int32} {x4 : Int32} {μ : jj_M}  {r : Int32} {μ' : jj_M} {X : jj_X} (h_vof_run : ∀ {x1 : Int32} {x2 : Int32} {x3 : Int32} {x4 : Int32} {μ : jj_M} {r : Int32} {μ' : jj_M} , f_vof_run x1 x2 x3 x4 μ = some (r, μ') → jj_N g yX4_run cX4_run 5 (some .int) (d + 0) [.ref (jj_ad g 48), .int x1, .int x2, .int x3, .int x4] μ (some (.int r)) μ')  (hF : jj_F g (some .int) (some (.int r)) μ' X)  : ∀ (n : Nat) (x5 : Int32) (x6 : Int32), vof_say_L6 N f_vof_run x2 x3 x4 μ n x5 x6 = some (r, μ') → jj_V g X RX4 cX4_say 8 (d + 1) 6 [(0, .ref (jj_ad g 48)), (2, .int x2), (3, .int x3), (4, .int x4), (5, .int x5), (6, .int x6)] [] μ := by
  intro n
  induction n with
  | zero =>
    intro x5 x6 h
    exact (jj_no h).elim
  | succ n ih =>
    intro x5 x6 h
    rw [vof_say_L6] at h
    refine jj_iload dX4_say_6 5 rfl ?_
    refine jj_bipush (7) dX4_say_8 rfl ?_
    refine jj_icmp_ge 84 dX4_say_10 (by decide) (fun c1 => ?_) (fun c1 => ?_)
    · replace h := (if_pos c1).symm.trans h
      refine jj_iconst (0) dX4_say_84 rfl ?_
      exact jj_iret2 hF dX4_say_85 (Option.some.inj h)
    · replace h := (if_neg c1).symm.trans h
      refine jj_iload dX4_say_13 4 rfl ?_
      refine jj_iconst (0) dX4_say_15 rfl ?_
      refine jj_bipush (6) dX4_say_16 rfl ?_
      refine jj_callNi [.int x5, .int 0, .int 6] [] (c_wnf_within (d + 0)  rfl) jm_wnf_within (host := RX7) (fun w => w.2.2.2.1) rfl (by omega) rfl (Nat.le_of_ble_eq_true rfl) dX4_say_18 ?_
      refine jj_if_eq 84 dX4_say_21 (by decide) (fun c2 => ?_) (fun c2 => ?_)
      · replace h := (if_pos c2).symm.trans h
        refine jj_iconst (0) dX4_say_84 rfl ?_
        exact jj_iret2 hF dX4_say_85 (Option.some.inj h)
      · replace h := (if_neg c2).symm.trans h
        refine jj_gsBO rfl lk_4_40 dX4_say_24 ?_
        refine jj_iload dX4_say_27 4 rfl ?_
        refine jj_iconst (4) dX4_say_29 rfl ?_
        refine jj_imul dX4_say_30 ?_
        refine jj_iload_n dX4_say_31 1 rfl ?_
        refine jj_iadd dX4_say_32 ?_
        obtain ⟨g3, h⟩ := jj_ge h
        refine jj_ldBO g3 dX4_say_33 ?_
        refine jj_istore [(7, .int (jj_BO ((x5 * 4) + x2).toNatClampNeg)), (0, .ref (jj_ad g 48)), (2, .int x2), (3, .int x3), (4, .int x4), (5, .int x5), (6, .int x6)] dX4_say_34 (by decide) rfl ?_
        refine jj_iload dX4_say_36 0 rfl ?_
        refine jj_if_eq 70 dX4_say_38 (by decide) (fun c4 => ?_) (fun c4 => ?_)
        · replace h := (if_pos c4).symm.trans h
          refine jj_gsKA4 dX4_say_70 ?_
          refine jj_iload dX4_say_73 5 rfl ?_
          obtain ⟨g5, h⟩ := jj_ge h
          refine jj_ldKA g5 dX4_say_75 ?_
          refine jj_istore [(5, .int (jj_KA x5.toNatClampNeg)), (7, .int (jj_BO ((x5 * 4) + x2).toNatClampNeg)), (0, .ref (jj_ad g 48)), (2, .int x2), (3, .int x3), (4, .int x4), (6, .int x6)] dX4_say_76 (by decide) rfl ?_
          refine jj_iinc (x6 + 1) [(6, .int (x6 + 1)), (5, .int (jj_KA x5.toNatClampNeg)), (7, .int (jj_BO ((x5 * 4) + x2).toNatClampNeg)), (0, .ref (jj_ad g 48)), (2, .int x2), (3, .int x3), (4, .int x4)] dX4_say_78 6 rfl rfl (by decide) rfl ?_
          refine jj_goto 6 dX4_say_81 (by decide) ?_
          refine jj_sub [3, 4, 5, 6, 1, 0] rfl ?_
          exact ih _ _ h
        · replace h := (if_neg c4).symm.trans h
          refine jj_iload dX4_say_41 4 rfl ?_
          refine jj_bipush (30) dX4_say_43 rfl ?_
          refine jj_icmp_ge 68 dX4_say_45 (by decide) (fun c6 => ?_) (fun c6 => ?_)
          · replace h := (if_pos c6).symm.trans h
            refine jj_iconst (0) dX4_say_68 rfl ?_
            exact jj_iret2 hF dX4_say_69 (Option.some.inj h)
          · replace h := (if_neg c6).symm.trans h
            refine jj_aload_n dX4_say_48 1 rfl ?_
            refine jj_iload dX4_say_49 0 rfl ?_
            refine jj_gsKA4 dX4_say_51 ?_
            refine jj_iload dX4_say_54 5 rfl ?_
            obtain ⟨g7, h⟩ := jj_ge h
            refine jj_ldKA g7 dX4_say_56 ?_
            refine jj_iload_n dX4_say_57 3 rfl ?_
            refine jj_iload dX4_say_58 4 rfl ?_
            refine jj_iconst (1) dX4_say_60 rfl ?_
            refine jj_iadd dX4_say_61 ?_
            obtain ⟨q8, e8, h⟩ := jj_be h
            refine jj_callVi [.int (jj_BO ((x5 * 4) + x2).toNatClampNeg), .int (jj_KA x5.toNatClampNeg), .int x3, .int (x4 + 1)] [] (h_vof_run  e8) jm_vof_run lk_4_46 (b := 48) rfl (by decide) (jj_E4 rfl) rfl rfl rfl (by omega) rfl (Nat.le_of_ble_eq_true rfl) dX4_say_62 ?_
            refine jj_goto 69 dX4_say_65 (by decide) ?_
            exact jj_iret2 hF dX4_say_69 (Option.some.inj h)
def vof_say (N : Nat) (f_vof_run : Int32 → Int32 → Int32 → Int32 → jj_M → Option (Int32 × jj_M)) (x1 : Int32) (x2 : Int32) (x3 : Int32) (x4 : Int32) (μ : jj_M) : Option (Int32 × jj_M) := vof_say_L6 N f_vof_run x2 x3 x4 μ N x1 0
set_option maxRecDepth 100000 in
theorem c_vof_say {g : jj_G} (d : Nat) {N : Nat} {f_vof_run : Int32 → Int32 → Int32 → Int32 → jj_M → Option (Int32 × jj_M)} {x1 : Int32} {x2 : Int32} {x3 : Int32} {x4 : Int32} {μ : jj_M} {r : Int32} {μ' : jj_M} (h_vof_run : ∀ {x1 : Int32} {x2 : Int32} {x3 : Int32} {x4 : Int32} {μ : jj_M} {r : Int32} {μ' : jj_M} , f_vof_run x1 x2 x3 x4 μ = some (r, μ') → jj_N g yX4_run cX4_run 5 (some .int) (d + 0) [.ref (jj_ad g 48), .int x1, .int x2, .int x3, .int x4] μ (some (.int r)) μ')  (h : vof_say N f_vof_run x1 x2 x3 x4 μ = some (r, μ')) : jj_N g yX4_say cX4_say 8 (some .int) (d + 1) [.ref (jj_ad g 48), .int x1, .int x2, .int x3, .int x4] μ (some (.int r)) μ' := by
  refine jj_N_of jn_4 (Nat.le_of_ble_eq_true rfl) (fun X hF => ?_)
  unfold vof_say at h
  refine jj_sub (own := RX4) (lv2 := [(0, .ref (jj_ad g 48)), (1, .int x1), (2, .int x2), (3, .int x3), (4, .int x4)]) [0, 1, 2, 3, 4] rfl ?_
  refine jj_iload_n dX4_say_0 1 rfl ?_
  refine jj_istore [(5, .int x1), (0, .ref (jj_ad g 48)), (1, .int x1), (2, .int x2), (3, .int x3), (4, .int x4)] dX4_say_1 (by decide) rfl ?_
  refine jj_iconst (0) dX4_say_3 rfl ?_
  refine jj_istore [(6, .int 0), (5, .int x1), (0, .ref (jj_ad g 48)), (1, .int x1), (2, .int x2), (3, .int x3), (4, .int x4)] dX4_say_4 (by decide) rfl ?_
  refine jj_sub [2, 4, 5, 6, 1, 0] rfl ?_
  exact t_vof_say_L6 d h_vof_run  hF  _ _ _ h
/-- the group of methods that call one another, by depth -/
def vof_grp (N : Nat) : Nat → Nat → Int32 → Int32 → Int32 → Int32 → jj_M → Option (Int32 × jj_M)
  | 0, _, _, _, _, _, _ => none
  | k + 1, mode, a1, a2, a3, a4, μ => if mode = 0 then vof_run N (fun a1 a2 a3 a4 μ => vof_grp N k 1 a1 a2 a3 a4 μ) a1 a2 a3 a4 μ else if mode = 1 then vof_say N (fun a1 a2 a3 a4 μ => vof_grp N k 0 a1 a2 a3 a4 μ) a1 a2 a3 a4 μ else none
theorem t_vof_grp {g : jj_G} (d N : Nat) : ∀ k : Nat, (∀ (x1 : Int32) (x2 : Int32) (x3 : Int32) (x4 : Int32) (μ : jj_M) (r : Int32) (μ' : jj_M), vof_grp N k 0 x1 x2 x3 x4 μ = some (r, μ') → jj_N g yX4_run cX4_run 5 (some .int) (d + k + 0) [.ref (jj_ad g 48), .int x1, .int x2, .int x3, .int x4] μ (some (.int r)) μ') ∧ (∀ (x1 : Int32) (x2 : Int32) (x3 : Int32) (x4 : Int32) (μ : jj_M) (r : Int32) (μ' : jj_M), vof_grp N k 1 x1 x2 x3 x4 μ = some (r, μ') → jj_N g yX4_say cX4_say 8 (some .int) (d + k + 0) [.ref (jj_ad g 48), .int x1, .int x2, .int x3, .int x4] μ (some (.int r)) μ') := by
  intro k
  induction k with
  | zero => exact ⟨fun _ _ _ _ _ _ _ h => (jj_no h).elim, fun _ _ _ _ _ _ _ h => (jj_no h).elim⟩
  | succ k ih =>
    obtain ⟨ih0, ih1⟩ := ih
    refine ⟨?_, ?_⟩
    · intro b0 b1 b2 b3 μ r μ' h
      rw [vof_grp, if_pos rfl] at h
      exact c_vof_run (d + k) (fun h => ih1 _ _ _ _ _ _ _ h) h
    · intro b0 b1 b2 b3 μ r μ' h
      rw [vof_grp, if_neg (show ¬ ((1 : Nat) = 0) by decide), if_pos rfl] at h
      exact c_vof_say (d + k) (fun h => ih0 _ _ _ _ _ _ _ h) h
def vof_run_G (N : Nat) (x1 : Int32) (x2 : Int32) (x3 : Int32) (x4 : Int32) (μ : jj_M) : Option (Int32 × jj_M) := vof_grp N 20 0 x1 x2 x3 x4 μ
theorem c_vof_run_G {g : jj_G} (d : Nat) {N : Nat} {x1 : Int32} {x2 : Int32} {x3 : Int32} {x4 : Int32} {μ : jj_M} {r : Int32} {μ' : jj_M} (h : vof_run_G N x1 x2 x3 x4 μ = some (r, μ')) : jj_N g yX4_run cX4_run 5 (some .int) (d + 20) [.ref (jj_ad g 48), .int x1, .int x2, .int x3, .int x4] μ (some (.int r)) μ' :=
  (t_vof_grp d N 20).1 _ _ _ _ _ _ _ h
def vof_say_G (N : Nat) (x1 : Int32) (x2 : Int32) (x3 : Int32) (x4 : Int32) (μ : jj_M) : Option (Int32 × jj_M) := vof_grp N 20 1 x1 x2 x3 x4 μ
theorem c_vof_say_G {g : jj_G} (d : Nat) {N : Nat} {x1 : Int32} {x2 : Int32} {x3 : Int32} {x4 : Int32} {μ : jj_M} {r : Int32} {μ' : jj_M} (h : vof_say_G N x1 x2 x3 x4 μ = some (r, μ')) : jj_N g yX4_say cX4_say 8 (some .int) (d + 20) [.ref (jj_ad g 48), .int x1, .int x2, .int x3, .int x4] μ (some (.int r)) μ' :=
  (t_vof_grp d N 20).2 _ _ _ _ _ _ _ h
def vof_speak (N : Nat) (x1 : Int32) (p2 : Nat) (x3 : Int32) (x4 : Int32) (μ : jj_M) : Option (Int32 × jj_M) := (some (jj_u (jj_u (jj_u μ 48 2 x1) 48 3 ((jj_u μ 48 2 x1) p2 1)) 48 4 ((jj_u (jj_u μ 48 2 x1) 48 3 ((jj_u μ 48 2 x1) p2 1)) p2 0))).bind fun m1 => (vof_say_G N ((jj_u m1 48 1 0) 48 4) x3 x4 0 (jj_u m1 48 1 0)).bind fun q2 => some ((q2.1, q2.2))
set_option maxRecDepth 100000 in
theorem c_vof_speak {g : jj_G} (d : Nat) {N : Nat} {x1 : Int32} {p2 : Nat} {x3 : Int32} {x4 : Int32} {μ : jj_M} {r : Int32} {μ' : jj_M}  (hp2 : jj_kd p2 = 1) (h : vof_speak N x1 p2 x3 x4 μ = some (r, μ')) : jj_N g yX4_speak cX4_speak 5 (some .int) (d + 21) [.ref (jj_ad g 48), .int x1, .ref (jj_ad g p2), .int x3, .int x4] μ (some (.int r)) μ' := by
  refine jj_N_of jn_4 (Nat.le_of_ble_eq_true rfl) (fun X hF => ?_)
  unfold vof_speak at h
  refine jj_sub (own := RX4) (lv2 := [(0, .ref (jj_ad g 48)), (1, .int x1), (2, .ref (jj_ad g p2)), (3, .int x3), (4, .int x4)]) [0, 1, 2, 3, 4] rfl ?_
  refine jj_aload_n dX4_speak_0 0 rfl ?_
  refine jj_iload_n dX4_speak_1 1 rfl ?_
  refine jp_4_2 (k := 48) rfl lk_4_15 dX4_speak_2 ?_
  refine jj_aload_n dX4_speak_5 0 rfl ?_
  refine jj_aload_n dX4_speak_6 2 rfl ?_
  refine jg_1_1 (k := p2) hp2 lk_4_19 dX4_speak_7 ?_
  refine jp_4_3 (k := 48) rfl lk_4_24 dX4_speak_10 ?_
  refine jj_aload_n dX4_speak_13 0 rfl ?_
  refine jj_aload_n dX4_speak_14 2 rfl ?_
  refine jg_1_0 (k := p2) hp2 lk_4_25 dX4_speak_15 ?_
  refine jp_4_4 (k := 48) rfl lk_4_28 dX4_speak_18 ?_
  obtain ⟨m1, em1, h⟩ := jj_be h
  refine jj_mu em1 ?_
  refine jj_aload_n dX4_speak_21 0 rfl ?_
  refine jj_iconst (0) dX4_speak_22 rfl ?_
  refine jp_4_1 (k := 48) rfl lk_4_29 dX4_speak_23 ?_
  refine jj_aload_n dX4_speak_26 0 rfl ?_
  refine jj_aload_n dX4_speak_27 0 rfl ?_
  refine jg_4_4 (k := 48) rfl lk_4_28 dX4_speak_28 ?_
  refine jj_iload_n dX4_speak_31 3 rfl ?_
  refine jj_iload dX4_speak_32 4 rfl ?_
  refine jj_iconst (0) dX4_speak_34 rfl ?_
  obtain ⟨q2, e2, h⟩ := jj_be h
  refine jj_callVi [.int ((jj_u m1 48 1 0) 48 4), .int x3, .int x4, .int 0] [] (c_vof_say_G (d + 0)  e2) jm_vof_say lk_4_32 (b := 48) rfl (by decide) (jj_E4 rfl) rfl rfl rfl (by omega) rfl (Nat.le_of_ble_eq_true rfl) dX4_speak_35 ?_
  exact jj_iret2 hF dX4_speak_38 (Option.some.inj h)
def wnf_voice (N : Nat) (x1 : Int32) (x2 : Int32) (x3 : Int32) (μ : jj_M) : Option (Int32 × jj_M) := if (wnf_isPerson x1 μ) = 0 then (wnf_refuse 1 μ).bind fun q2 => some ((q2.1, q2.2)) else if (wnf_within x2 0 3) = 0 then (wnf_refuse 1 μ).bind fun q6 => some ((q6.1, q6.2)) else if jj_i x1 6 then (vof_speak N x1 (5 + 4 + x1.toNatClampNeg) x2 x3 μ).bind fun q5 => some ((q5.1, q5.2)) else none
set_option maxRecDepth 100000 in
theorem c_wnf_voice {g : jj_G} (d : Nat) {N : Nat} {x1 : Int32} {x2 : Int32} {x3 : Int32} {μ : jj_M} {r : Int32} {μ' : jj_M}   (h : wnf_voice N x1 x2 x3 μ = some (r, μ')) : jj_N g yX7_voice cX7_voice 4 (some .int) (d + 22) [.ref (jj_ad g 0), .int x1, .int x2, .int x3] μ (some (.int r)) μ' := by
  refine jj_N_of jn_7 (Nat.le_of_ble_eq_true rfl) (fun X hF => ?_)
  unfold wnf_voice at h
  refine jj_sub (own := RX7) (lv2 := [(0, .ref (jj_ad g 0)), (1, .int x1), (2, .int x2), (3, .int x3)]) [0, 1, 2, 3] rfl ?_
  refine jj_aload_n dX7_voice_0 0 rfl ?_
  refine jj_iload_n dX7_voice_1 1 rfl ?_
  refine jj_callVi [.int x1] [] (c_wnf_isPerson (d + 20)  rfl) jm_wnf_isPerson lk_7_108 (b := 0) rfl (by decide) (jj_E7 rfl) rfl rfl rfl (by omega) rfl (Nat.le_of_ble_eq_true rfl) dX7_voice_2 ?_
  refine jj_if_eq 17 dX7_voice_5 (by decide) (fun c1 => ?_) (fun c1 => ?_)
  · replace h := (if_pos c1).symm.trans h
    refine jj_aload_n dX7_voice_17 0 rfl ?_
    refine jj_iconst (1) dX7_voice_18 rfl ?_
    obtain ⟨q2, e2, h⟩ := jj_be h
    refine jj_callVi [.int 1] [] (c_wnf_refuse (d + 21)  e2) jm_wnf_refuse lk_7_59 (b := 0) rfl (by decide) (jj_E7 rfl) rfl rfl rfl (by omega) rfl (Nat.le_of_ble_eq_true rfl) dX7_voice_19 ?_
    exact jj_iret2 hF dX7_voice_22 (Option.some.inj h)
  · replace h := (if_neg c1).symm.trans h
    refine jj_iload_n dX7_voice_8 2 rfl ?_
    refine jj_iconst (0) dX7_voice_9 rfl ?_
    refine jj_iconst (3) dX7_voice_10 rfl ?_
    refine jj_callSi [.int x2, .int 0, .int 3] [] (c_wnf_within (d + 21)  rfl) jm_wnf_within lk_7_55 rfl (by omega) rfl (Nat.le_of_ble_eq_true rfl) dX7_voice_11 ?_
    refine jj_if_ne 23 dX7_voice_14 (by decide) (fun c3 => ?_) (fun c3 => ?_)
    · replace h := (if_neg c3).symm.trans h
      refine jj_aload_n dX7_voice_23 0 rfl ?_
      refine jg_7_4 (k := 0) rfl lk_7_36 dX7_voice_24 ?_
      show jj_V g X _ _ _ _ _ _ (.ref (jj_ad g 48) :: _) _
      refine jj_iload_n dX7_voice_27 1 rfl ?_
      refine jj_aload_n dX7_voice_28 0 rfl ?_
      refine jg_7_0 (k := 0) rfl lk_7_10 dX7_voice_29 ?_
      show jj_V g X _ _ _ _ _ _ (.ref (jj_ad g 1) :: _) _
      refine jg_6_3 (k := 1) rfl lk_7_98 dX7_voice_32 ?_
      show jj_V g X _ _ _ _ _ _ (.ref (jj_ad g 5) :: _) _
      refine jj_iload_n dX7_voice_35 1 rfl ?_
      obtain ⟨g4, h⟩ := jj_ge h
      refine jj_aaload10 (k := 5) rfl g4 dX7_voice_36 ?_
      refine jj_iload_n dX7_voice_37 2 rfl ?_
      refine jj_iload_n dX7_voice_38 3 rfl ?_
      obtain ⟨q5, e5, h⟩ := jj_be h
      refine jj_callVi [.int x1, .ref (jj_ad g (5 + 4 + x1.toNatClampNeg)), .int x2, .int x3] [] (c_vof_speak (d + 0) (jk_10 (k := 5) rfl g4) e5) jm_vof_speak lk_7_246 (b := 48) rfl (by decide) (jj_E4 rfl) rfl rfl rfl (by omega) rfl (Nat.le_of_ble_eq_true rfl) dX7_voice_39 ?_
      exact jj_iret2 hF dX7_voice_42 (Option.some.inj h)
    · replace h := (if_pos c3).symm.trans h
      refine jj_aload_n dX7_voice_17 0 rfl ?_
      refine jj_iconst (1) dX7_voice_18 rfl ?_
      obtain ⟨q6, e6, h⟩ := jj_be h
      refine jj_callVi [.int 1] [] (c_wnf_refuse (d + 21)  e6) jm_wnf_refuse lk_7_59 (b := 0) rfl (by decide) (jj_E7 rfl) rfl rfl rfl (by omega) rfl (Nat.le_of_ble_eq_true rfl) dX7_voice_19 ?_
      exact jj_iret2 hF dX7_voice_22 (Option.some.inj h)
def wnf_trace  (x1 : Int32) (μ : jj_M) : Option (Int32 × jj_M) := if (wnf_within x1 0 ((μ 48 1) - 1)) = 0 then (wnf_refuse 2 μ).bind fun q2 => some ((q2.1, q2.2)) else if jj_i x1 40 then some ((μ 49 x1.toNatClampNeg, μ)) else none
set_option maxRecDepth 100000 in
theorem c_wnf_trace {g : jj_G} (d : Nat)  {x1 : Int32} {μ : jj_M} {r : Int32} {μ' : jj_M}   (h : wnf_trace x1 μ = some (r, μ')) : jj_N g yX7_trace cX7_trace 2 (some .int) (d + 1) [.ref (jj_ad g 0), .int x1] μ (some (.int r)) μ' := by
  refine jj_N_of jn_7 (Nat.le_of_ble_eq_true rfl) (fun X hF => ?_)
  unfold wnf_trace at h
  refine jj_sub (own := RX7) (lv2 := [(0, .ref (jj_ad g 0)), (1, .int x1)]) [0, 1] rfl ?_
  refine jj_iload_n dX7_trace_0 1 rfl ?_
  refine jj_iconst (0) dX7_trace_1 rfl ?_
  refine jj_aload_n dX7_trace_2 0 rfl ?_
  refine jg_7_4 (k := 0) rfl lk_7_36 dX7_trace_3 ?_
  show jj_V g X _ _ _ _ _ _ (.ref (jj_ad g 48) :: _) _
  refine jg_4_1 (k := 48) rfl lk_7_250 dX7_trace_6 ?_
  refine jj_iconst (1) dX7_trace_9 rfl ?_
  refine jj_isub dX7_trace_10 ?_
  refine jj_callSi [.int x1, .int 0, .int ((μ 48 1) - 1)] [] (c_wnf_within (d + 0)  rfl) jm_wnf_within lk_7_55 rfl (by omega) rfl (Nat.le_of_ble_eq_true rfl) dX7_trace_11 ?_
  refine jj_if_eq 29 dX7_trace_14 (by decide) (fun c1 => ?_) (fun c1 => ?_)
  · replace h := (if_pos c1).symm.trans h
    refine jj_aload_n dX7_trace_29 0 rfl ?_
    refine jj_iconst (2) dX7_trace_30 rfl ?_
    obtain ⟨q2, e2, h⟩ := jj_be h
    refine jj_callVi [.int 2] [] (c_wnf_refuse (d + 0)  e2) jm_wnf_refuse lk_7_59 (b := 0) rfl (by decide) (jj_E7 rfl) rfl rfl rfl (by omega) rfl (Nat.le_of_ble_eq_true rfl) dX7_trace_31 ?_
    exact jj_iret2 hF dX7_trace_34 (Option.some.inj h)
  · replace h := (if_neg c1).symm.trans h
    refine jj_aload_n dX7_trace_17 0 rfl ?_
    refine jg_7_4 (k := 0) rfl lk_7_36 dX7_trace_18 ?_
    show jj_V g X _ _ _ _ _ _ (.ref (jj_ad g 48) :: _) _
    refine jg_4_0 (k := 48) rfl lk_7_253 dX7_trace_21 ?_
    show jj_V g X _ _ _ _ _ _ (.ref (jj_ad g 49) :: _) _
    refine jj_iload_n dX7_trace_24 1 rfl ?_
    obtain ⟨g3, h⟩ := jj_ge h
    refine jj_iaload (k := 49) (n := 40) rfl g3 dX7_trace_25 ?_
    refine jj_goto 34 dX7_trace_26 (by decide) ?_
    exact jj_iret2 hF dX7_trace_34 (Option.some.inj h)
def shf_begin (N : Nat) (p0 : Nat) (x1 : Int32) (x2 : Int32) (μ : jj_M) : Option (jj_M) := (jdf_fill N (p0 + 1) 40 0 (jj_u (jj_u μ p0 1 x1) p0 2 x2)).bind fun q1 => some q1
set_option maxRecDepth 100000 in
theorem c_shf_begin {g : jj_G} (d : Nat) {N : Nat} {p0 : Nat} {x1 : Int32} {x2 : Int32} {μ : jj_M} {μ' : jj_M}  (hp0 : jj_kd p0 = 3) (h : shf_begin N p0 x1 x2 μ = some μ') : jj_N g yX3_begin cX3_begin 3 none (d + 1) [.ref (jj_ad g p0), .int x1, .int x2] μ none μ' := by
  refine jj_N_of jn_3 (Nat.le_of_ble_eq_true rfl) (fun X hF => ?_)
  unfold shf_begin at h
  refine jj_sub (own := RX3) (lv2 := [(0, .ref (jj_ad g p0)), (1, .int x1), (2, .int x2)]) [0, 1, 2] rfl ?_
  refine jj_aload_n dX3_begin_0 0 rfl ?_
  refine jj_iload_n dX3_begin_1 1 rfl ?_
  refine jp_3_1 (k := p0) hp0 lk_3_15 dX3_begin_2 ?_
  refine jj_aload_n dX3_begin_5 0 rfl ?_
  refine jj_iload_n dX3_begin_6 2 rfl ?_
  refine jp_3_2 (k := p0) hp0 lk_3_19 dX3_begin_7 ?_
  refine jj_aload_n dX3_begin_10 0 rfl ?_
  refine jg_3_0 (k := p0) hp0 lk_3_9 dX3_begin_11 ?_
  refine jj_iconst (0) dX3_begin_14 rfl ?_
  obtain ⟨q1, e1, h⟩ := jj_be h
  refine jj_callSv [.ref (jj_ad g (p0 + 1)), .int 0] [] (c_jdf_fill (d + 0) (jk_3_0 hp0) e1) jm_jdf_fill lk_3_22 rfl (by omega) rfl (Nat.le_of_ble_eq_true rfl) dX3_begin_15 ?_
  exact jj_vret1 hF dX3_begin_18 (Option.some.inj h)
def wnf_sheet_B65 (N : Nat)  (x1 : Int32) (x2 : Int32) (x3 : Int32) (μ : jj_M) : Option (Int32 × jj_M) := if jj_i x1 4 then if x2 = 0 then (shf_begin N (50 + 1 + 2 * x1.toNatClampNeg) x2 0 μ).bind fun q4 => some ((1, q4)) else (shf_begin N (50 + 1 + 2 * x1.toNatClampNeg) x2 x3 μ).bind fun q3 => some ((1, q3)) else none
set_option maxRecDepth 100000 in
theorem t_wnf_sheet_B65 {g : jj_G} (d : Nat) {N : Nat}  {x1 : Int32} {x2 : Int32} {x3 : Int32} {μ : jj_M}  {r : Int32} {μ' : jj_M} {X : jj_X}   (hF : jj_F g (some .int) (some (.int r)) μ' X)  (h : wnf_sheet_B65 N x1 x2 x3 μ = some (r, μ')) : jj_V g X RX7 cX7_sheet 4 (d + 2) 65 [(0, .ref (jj_ad g 0)), (1, .int x1), (2, .int x2), (3, .int x3)] [] μ := by
  unfold wnf_sheet_B65 at h
  refine jj_aload_n dX7_sheet_65 0 rfl ?_
  refine jg_7_5 (k := 0) rfl lk_7_42 dX7_sheet_66 ?_
  show jj_V g X _ _ _ _ _ _ (.ref (jj_ad g 50) :: _) _
  refine jj_iload_n dX7_sheet_69 1 rfl ?_
  obtain ⟨g1, h⟩ := jj_ge h
  refine jj_aaload12 (k := 50) rfl g1 dX7_sheet_70 ?_
  refine jj_iload_n dX7_sheet_71 2 rfl ?_
  refine jj_iload_n dX7_sheet_72 2 rfl ?_
  refine jj_if_ne 80 dX7_sheet_73 (by decide) (fun c2 => ?_) (fun c2 => ?_)
  · replace h := (if_neg c2).symm.trans h
    refine jj_iload_n dX7_sheet_80 3 rfl ?_
    obtain ⟨q3, e3, h⟩ := jj_be h
    refine jj_callVv [.int x2, .int x3] [] (c_shf_begin (d + 0) (jk_12 (k := 50) rfl g1) e3) jm_shf_begin lk_7_256 (b := 50 + 1 + 2 * x1.toNatClampNeg) (jk_12 (k := 50) rfl g1) (by decide) (jj_E3 (jk_12 (k := 50) rfl g1)) rfl rfl rfl (by omega) rfl (Nat.le_of_ble_eq_true rfl) dX7_sheet_81 ?_
    refine jj_iconst (1) dX7_sheet_84 rfl ?_
    exact jj_iret2 hF dX7_sheet_85 (Option.some.inj h)
  · replace h := (if_pos c2).symm.trans h
    refine jj_iconst (0) dX7_sheet_76 rfl ?_
    refine jj_goto 81 dX7_sheet_77 (by decide) ?_
    obtain ⟨q4, e4, h⟩ := jj_be h
    refine jj_callVv [.int x2, .int 0] [] (c_shf_begin (d + 0) (jk_12 (k := 50) rfl g1) e4) jm_shf_begin lk_7_256 (b := 50 + 1 + 2 * x1.toNatClampNeg) (jk_12 (k := 50) rfl g1) (by decide) (jj_E3 (jk_12 (k := 50) rfl g1)) rfl rfl rfl (by omega) rfl (Nat.le_of_ble_eq_true rfl) dX7_sheet_81 ?_
    refine jj_iconst (1) dX7_sheet_84 rfl ?_
    exact jj_iret2 hF dX7_sheet_85 (Option.some.inj h)
def wnf_sheet_B35 (N : Nat)  (x1 : Int32) (x2 : Int32) (x3 : Int32) (μ : jj_M) : Option (Int32 × jj_M) := if x2 = 0 then if x2 = 0 then wnf_sheet_B65 N x1 x2 x3 μ else if x3 ≤ 40 then wnf_sheet_B65 N x1 x2 x3 μ else (wnf_refuse 1 μ).bind fun q4 => some ((q4.1, q4.2)) else if 0 ≤ x3 then if x2 = 0 then wnf_sheet_B65 N x1 x2 x3 μ else if x3 ≤ 40 then wnf_sheet_B65 N x1 x2 x3 μ else (wnf_refuse 1 μ).bind fun q8 => some ((q8.1, q8.2)) else (wnf_refuse 3 μ).bind fun q9 => some ((q9.1, q9.2))
set_option maxRecDepth 100000 in
theorem t_wnf_sheet_B35 {g : jj_G} (d : Nat) {N : Nat}  {x1 : Int32} {x2 : Int32} {x3 : Int32} {μ : jj_M}  {r : Int32} {μ' : jj_M} {X : jj_X}   (hF : jj_F g (some .int) (some (.int r)) μ' X)  (h : wnf_sheet_B35 N x1 x2 x3 μ = some (r, μ')) : jj_V g X RX7 cX7_sheet 4 (d + 2) 35 [(0, .ref (jj_ad g 0)), (1, .int x1), (2, .int x2), (3, .int x3)] [] μ := by
  unfold wnf_sheet_B35 at h
  refine jj_iload_n dX7_sheet_35 2 rfl ?_
  refine jj_if_eq 49 dX7_sheet_36 (by decide) (fun c1 => ?_) (fun c1 => ?_)
  · replace h := (if_pos c1).symm.trans h
    refine jj_iload_n dX7_sheet_49 2 rfl ?_
    refine jj_if_eq 65 dX7_sheet_50 (by decide) (fun c2 => ?_) (fun c2 => ?_)
    · replace h := (if_pos c2).symm.trans h
      refine jj_sub [0, 1, 2, 3] rfl ?_
      exact t_wnf_sheet_B65 d   hF  h
    · replace h := (if_neg c2).symm.trans h
      refine jj_iload_n dX7_sheet_53 3 rfl ?_
      refine jj_bipush (40) dX7_sheet_54 rfl ?_
      refine jj_icmp_le 65 dX7_sheet_56 (by decide) (fun c3 => ?_) (fun c3 => ?_)
      · replace h := (if_pos c3).symm.trans h
        refine jj_sub [0, 1, 2, 3] rfl ?_
        exact t_wnf_sheet_B65 d   hF  h
      · replace h := (if_neg c3).symm.trans h
        refine jj_aload_n dX7_sheet_59 0 rfl ?_
        refine jj_iconst (1) dX7_sheet_60 rfl ?_
        obtain ⟨q4, e4, h⟩ := jj_be h
        refine jj_callVi [.int 1] [] (c_wnf_refuse (d + 1)  e4) jm_wnf_refuse lk_7_59 (b := 0) rfl (by decide) (jj_E7 rfl) rfl rfl rfl (by omega) rfl (Nat.le_of_ble_eq_true rfl) dX7_sheet_61 ?_
        exact jj_iret2 hF dX7_sheet_64 (Option.some.inj h)
  · replace h := (if_neg c1).symm.trans h
    refine jj_iload_n dX7_sheet_39 3 rfl ?_
    refine jj_if_ge 49 dX7_sheet_40 (by decide) (fun c5 => ?_) (fun c5 => ?_)
    · replace h := (if_pos c5).symm.trans h
      refine jj_iload_n dX7_sheet_49 2 rfl ?_
      refine jj_if_eq 65 dX7_sheet_50 (by decide) (fun c6 => ?_) (fun c6 => ?_)
      · replace h := (if_pos c6).symm.trans h
        refine jj_sub [0, 1, 2, 3] rfl ?_
        exact t_wnf_sheet_B65 d   hF  h
      · replace h := (if_neg c6).symm.trans h
        refine jj_iload_n dX7_sheet_53 3 rfl ?_
        refine jj_bipush (40) dX7_sheet_54 rfl ?_
        refine jj_icmp_le 65 dX7_sheet_56 (by decide) (fun c7 => ?_) (fun c7 => ?_)
        · replace h := (if_pos c7).symm.trans h
          refine jj_sub [0, 1, 2, 3] rfl ?_
          exact t_wnf_sheet_B65 d   hF  h
        · replace h := (if_neg c7).symm.trans h
          refine jj_aload_n dX7_sheet_59 0 rfl ?_
          refine jj_iconst (1) dX7_sheet_60 rfl ?_
          obtain ⟨q8, e8, h⟩ := jj_be h
          refine jj_callVi [.int 1] [] (c_wnf_refuse (d + 1)  e8) jm_wnf_refuse lk_7_59 (b := 0) rfl (by decide) (jj_E7 rfl) rfl rfl rfl (by omega) rfl (Nat.le_of_ble_eq_true rfl) dX7_sheet_61 ?_
          exact jj_iret2 hF dX7_sheet_64 (Option.some.inj h)
    · replace h := (if_neg c5).symm.trans h
      refine jj_aload_n dX7_sheet_43 0 rfl ?_
      refine jj_iconst (3) dX7_sheet_44 rfl ?_
      obtain ⟨q9, e9, h⟩ := jj_be h
      refine jj_callVi [.int 3] [] (c_wnf_refuse (d + 1)  e9) jm_wnf_refuse lk_7_59 (b := 0) rfl (by decide) (jj_E7 rfl) rfl rfl rfl (by omega) rfl (Nat.le_of_ble_eq_true rfl) dX7_sheet_45 ?_
      exact jj_iret2 hF dX7_sheet_48 (Option.some.inj h)
def wnf_sheet (N : Nat) (x1 : Int32) (x2 : Int32) (x3 : Int32) (μ : jj_M) : Option (Int32 × jj_M) := if (wnf_isSheet x1) = 0 then (wnf_refuse 1 μ).bind fun q2 => some ((q2.1, q2.2)) else if x2 = 0 then wnf_sheet_B35 N x1 x2 x3 μ else if x2 = 8 then wnf_sheet_B35 N x1 x2 x3 μ else if x2 = 16 then wnf_sheet_B35 N x1 x2 x3 μ else if x2 = 32 then wnf_sheet_B35 N x1 x2 x3 μ else (wnf_refuse 1 μ).bind fun q7 => some ((q7.1, q7.2))
set_option maxRecDepth 100000 in
theorem c_wnf_sheet {g : jj_G} (d : Nat) {N : Nat} {x1 : Int32} {x2 : Int32} {x3 : Int32} {μ : jj_M} {r : Int32} {μ' : jj_M}   (h : wnf_sheet N x1 x2 x3 μ = some (r, μ')) : jj_N g yX7_sheet cX7_sheet 4 (some .int) (d + 2) [.ref (jj_ad g 0), .int x1, .int x2, .int x3] μ (some (.int r)) μ' := by
  refine jj_N_of jn_7 (Nat.le_of_ble_eq_true rfl) (fun X hF => ?_)
  unfold wnf_sheet at h
  refine jj_sub (own := RX7) (lv2 := [(0, .ref (jj_ad g 0)), (1, .int x1), (2, .int x2), (3, .int x3)]) [0, 1, 2, 3] rfl ?_
  refine jj_iload_n dX7_sheet_0 1 rfl ?_
  refine jj_callSi [.int x1] [] (c_wnf_isSheet (d + 0)  rfl) jm_wnf_isSheet lk_7_229 rfl (by omega) rfl (Nat.le_of_ble_eq_true rfl) dX7_sheet_1 ?_
  refine jj_if_eq 29 dX7_sheet_4 (by decide) (fun c1 => ?_) (fun c1 => ?_)
  · replace h := (if_pos c1).symm.trans h
    refine jj_aload_n dX7_sheet_29 0 rfl ?_
    refine jj_iconst (1) dX7_sheet_30 rfl ?_
    obtain ⟨q2, e2, h⟩ := jj_be h
    refine jj_callVi [.int 1] [] (c_wnf_refuse (d + 1)  e2) jm_wnf_refuse lk_7_59 (b := 0) rfl (by decide) (jj_E7 rfl) rfl rfl rfl (by omega) rfl (Nat.le_of_ble_eq_true rfl) dX7_sheet_31 ?_
    exact jj_iret2 hF dX7_sheet_34 (Option.some.inj h)
  · replace h := (if_neg c1).symm.trans h
    refine jj_iload_n dX7_sheet_7 2 rfl ?_
    refine jj_if_eq 35 dX7_sheet_8 (by decide) (fun c3 => ?_) (fun c3 => ?_)
    · replace h := (if_pos c3).symm.trans h
      refine jj_sub [0, 1, 2, 3] rfl ?_
      exact t_wnf_sheet_B35 d   hF  h
    · replace h := (if_neg c3).symm.trans h
      refine jj_iload_n dX7_sheet_11 2 rfl ?_
      refine jj_bipush (8) dX7_sheet_12 rfl ?_
      refine jj_icmp_eq 35 dX7_sheet_14 (by decide) (fun c4 => ?_) (fun c4 => ?_)
      · replace h := (if_pos c4).symm.trans h
        refine jj_sub [0, 1, 2, 3] rfl ?_
        exact t_wnf_sheet_B35 d   hF  h
      · replace h := (if_neg c4).symm.trans h
        refine jj_iload_n dX7_sheet_17 2 rfl ?_
        refine jj_bipush (16) dX7_sheet_18 rfl ?_
        refine jj_icmp_eq 35 dX7_sheet_20 (by decide) (fun c5 => ?_) (fun c5 => ?_)
        · replace h := (if_pos c5).symm.trans h
          refine jj_sub [0, 1, 2, 3] rfl ?_
          exact t_wnf_sheet_B35 d   hF  h
        · replace h := (if_neg c5).symm.trans h
          refine jj_iload_n dX7_sheet_23 2 rfl ?_
          refine jj_bipush (32) dX7_sheet_24 rfl ?_
          refine jj_icmp_eq 35 dX7_sheet_26 (by decide) (fun c6 => ?_) (fun c6 => ?_)
          · replace h := (if_pos c6).symm.trans h
            refine jj_sub [0, 1, 2, 3] rfl ?_
            exact t_wnf_sheet_B35 d   hF  h
          · replace h := (if_neg c6).symm.trans h
            refine jj_aload_n dX7_sheet_29 0 rfl ?_
            refine jj_iconst (1) dX7_sheet_30 rfl ?_
            obtain ⟨q7, e7, h⟩ := jj_be h
            refine jj_callVi [.int 1] [] (c_wnf_refuse (d + 1)  e7) jm_wnf_refuse lk_7_59 (b := 0) rfl (by decide) (jj_E7 rfl) rfl rfl rfl (by omega) rfl (Nat.le_of_ble_eq_true rfl) dX7_sheet_31 ?_
            exact jj_iret2 hF dX7_sheet_34 (Option.some.inj h)
def shf_isMissing  (p0 : Nat) (μ : jj_M) : Int32 := if (μ p0 1) = 0 then 1 else 0
theorem z_shf_isMissing (p0 : Nat) (μ : jj_M) : shf_isMissing p0 μ = 0 ∨ shf_isMissing p0 μ = 1 := by
  unfold shf_isMissing
  first | (first | exact Or.inl rfl | exact Or.inr rfl) | ((repeat' split) <;> first | exact Or.inl rfl | exact Or.inr rfl)
set_option maxRecDepth 100000 in
theorem c_shf_isMissing {g : jj_G} (d : Nat)  {p0 : Nat} {μ : jj_M} {r : Int32}  (hp0 : jj_kd p0 = 3) (h : shf_isMissing p0 μ = r) : jj_N g yX3_isMissing cX3_isMissing 1 (some .boolean) (d + 0) [.ref (jj_ad g p0)] μ (some (.int r)) μ := by
  refine jj_N_of jn_3 (Nat.le_of_ble_eq_true rfl) (fun X hF => ?_)
  unfold shf_isMissing at h
  refine jj_sub (own := RX3) (lv2 := [(0, .ref (jj_ad g p0))]) [0] rfl ?_
  refine jj_aload_n dX3_isMissing_0 0 rfl ?_
  refine jg_3_1 (k := p0) hp0 lk_3_15 dX3_isMissing_1 ?_
  refine jj_if_ne 11 dX3_isMissing_4 (by decide) (fun c1 => ?_) (fun c1 => ?_)
  · replace h := (if_neg c1).symm.trans h
    refine jj_iconst (0) dX3_isMissing_11 rfl ?_
    exact jj_zret1 hF dX3_isMissing_12 (Or.inl rfl) h
  · replace h := (if_pos c1).symm.trans h
    refine jj_iconst (1) dX3_isMissing_7 rfl ?_
    refine jj_goto 12 dX3_isMissing_8 (by decide) ?_
    exact jj_zret1 hF dX3_isMissing_12 (Or.inr rfl) h
def shf_set  (p0 : Nat) (x1 : Int32) (x2 : Int32) (μ : jj_M) : Option (jj_M) := if (μ p0 1) = 8 then if jj_i x1 40 then (some (jj_u μ (p0 + 1) x1.toNatClampNeg (Int8.toInt32 (Int32.toInt8 x2)))).bind fun m7 => some m7 else none else if (μ p0 1) = 16 then if jj_i x1 40 then (some (jj_u μ (p0 + 1) x1.toNatClampNeg (Int16.toInt32 (Int32.toInt16 x2)))).bind fun m5 => some m5 else none else if jj_i x1 40 then some (jj_u μ (p0 + 1) x1.toNatClampNeg x2) else none
set_option maxRecDepth 100000 in
theorem c_shf_set {g : jj_G} (d : Nat)  {p0 : Nat} {x1 : Int32} {x2 : Int32} {μ : jj_M} {μ' : jj_M}  (hp0 : jj_kd p0 = 3) (h : shf_set p0 x1 x2 μ = some μ') : jj_N g yX3_set cX3_set 3 none (d + 0) [.ref (jj_ad g p0), .int x1, .int x2] μ none μ' := by
  refine jj_N_of jn_3 (Nat.le_of_ble_eq_true rfl) (fun X hF => ?_)
  unfold shf_set at h
  refine jj_sub (own := RX3) (lv2 := [(0, .ref (jj_ad g p0)), (1, .int x1), (2, .int x2)]) [0, 1, 2] rfl ?_
  refine jj_aload_n dX3_set_0 0 rfl ?_
  refine jg_3_0 (k := p0) hp0 lk_3_9 dX3_set_1 ?_
  refine jj_iload_n dX3_set_4 1 rfl ?_
  refine jj_aload_n dX3_set_5 0 rfl ?_
  refine jg_3_1 (k := p0) hp0 lk_3_15 dX3_set_6 ?_
  refine jj_bipush (8) dX3_set_9 rfl ?_
  refine jj_icmp_ne 19 dX3_set_11 (by decide) (fun c1 => ?_) (fun c1 => ?_)
  · replace h := (if_neg c1).symm.trans h
    refine jj_aload_n dX3_set_19 0 rfl ?_
    refine jg_3_1 (k := p0) hp0 lk_3_15 dX3_set_20 ?_
    refine jj_bipush (16) dX3_set_23 rfl ?_
    refine jj_icmp_ne 33 dX3_set_25 (by decide) (fun c2 => ?_) (fun c2 => ?_)
    · replace h := (if_neg c2).symm.trans h
      refine jj_iload_n dX3_set_33 2 rfl ?_
      obtain ⟨g3, h⟩ := jj_ge h
      refine jj_iastore (k := p0 + 1) (n := 40) (jk_3_0 hp0) g3 dX3_set_34 ?_
      exact jj_vret1 hF dX3_set_35 (Option.some.inj h)
    · replace h := (if_pos c2).symm.trans h
      refine jj_iload_n dX3_set_28 2 rfl ?_
      refine jj_i2s dX3_set_29 ?_
      refine jj_goto 34 dX3_set_30 (by decide) ?_
      obtain ⟨g4, h⟩ := jj_ge h
      refine jj_iastore (k := p0 + 1) (n := 40) (jk_3_0 hp0) g4 dX3_set_34 ?_
      obtain ⟨m5, em5, h⟩ := jj_be h
      refine jj_mu em5 ?_
      exact jj_vret1 hF dX3_set_35 (Option.some.inj h)
  · replace h := (if_pos c1).symm.trans h
    refine jj_iload_n dX3_set_14 2 rfl ?_
    refine jj_i2b dX3_set_15 ?_
    refine jj_goto 34 dX3_set_16 (by decide) ?_
    obtain ⟨g6, h⟩ := jj_ge h
    refine jj_iastore (k := p0 + 1) (n := 40) (jk_3_0 hp0) g6 dX3_set_34 ?_
    obtain ⟨m7, em7, h⟩ := jj_be h
    refine jj_mu em7 ?_
    exact jj_vret1 hF dX3_set_35 (Option.some.inj h)
def wnf_put  (x1 : Int32) (x2 : Int32) (x3 : Int32) (μ : jj_M) : Option (Int32 × jj_M) := if (wnf_isSheet x1) = 0 then (wnf_refuse 1 μ).bind fun q8 => some ((q8.1, q8.2)) else if jj_i x1 4 then if (shf_isMissing (50 + 1 + 2 * x1.toNatClampNeg) μ) = 0 then if (wnf_within x2 0 ((μ (50 + 1 + 2 * x1.toNatClampNeg) 2) - 1)) = 0 then (wnf_refuse 1 μ).bind fun q6 => some ((q6.1, q6.2)) else (shf_set (50 + 1 + 2 * x1.toNatClampNeg) x2 x3 μ).bind fun q5 => some ((1, q5)) else (wnf_refuse 2 μ).bind fun q7 => some ((q7.1, q7.2)) else none
set_option maxRecDepth 100000 in
theorem c_wnf_put {g : jj_G} (d : Nat)  {x1 : Int32} {x2 : Int32} {x3 : Int32} {μ : jj_M} {r : Int32} {μ' : jj_M}   (h : wnf_put x1 x2 x3 μ = some (r, μ')) : jj_N g yX7_put cX7_put 5 (some .int) (d + 2) [.ref (jj_ad g 0), .int x1, .int x2, .int x3] μ (some (.int r)) μ' := by
  refine jj_N_of jn_7 (Nat.le_of_ble_eq_true rfl) (fun X hF => ?_)
  unfold wnf_put at h
  refine jj_sub (own := RX7) (lv2 := [(0, .ref (jj_ad g 0)), (1, .int x1), (2, .int x2), (3, .int x3)]) [0, 1, 2, 3] rfl ?_
  refine jj_iload_n dX7_put_0 1 rfl ?_
  refine jj_callSi [.int x1] [] (c_wnf_isSheet (d + 0)  rfl) jm_wnf_isSheet lk_7_229 rfl (by omega) rfl (Nat.le_of_ble_eq_true rfl) dX7_put_1 ?_
  refine jj_if_ne 13 dX7_put_4 (by decide) (fun c1 => ?_) (fun c1 => ?_)
  · replace h := (if_neg c1).symm.trans h
    refine jj_aload_n dX7_put_13 0 rfl ?_
    refine jg_7_5 (k := 0) rfl lk_7_42 dX7_put_14 ?_
    show jj_V g X _ _ _ _ _ _ (.ref (jj_ad g 50) :: _) _
    refine jj_iload_n dX7_put_17 1 rfl ?_
    obtain ⟨g2, h⟩ := jj_ge h
    refine jj_aaload12 (k := 50) rfl g2 dX7_put_18 ?_
    refine jj_astore [(4, .ref (jj_ad g (50 + 1 + 2 * x1.toNatClampNeg))), (0, .ref (jj_ad g 0)), (1, .int x1), (2, .int x2), (3, .int x3)] dX7_put_19 (by decide) rfl ?_
    refine jj_aload dX7_put_21 0 rfl ?_
    refine jj_callVi [] [] (c_shf_isMissing (d + 1) (jk_12 (k := 50) rfl g2) rfl) jm_shf_isMissing lk_7_259 (b := 50 + 1 + 2 * x1.toNatClampNeg) (jk_12 (k := 50) rfl g2) (by decide) (jj_E3 (jk_12 (k := 50) rfl g2)) rfl rfl rfl (by omega) rfl (Nat.le_of_ble_eq_true rfl) dX7_put_23 ?_
    refine jj_if_eq 35 dX7_put_26 (by decide) (fun c3 => ?_) (fun c3 => ?_)
    · replace h := (if_pos c3).symm.trans h
      refine jj_iload_n dX7_put_35 3 rfl ?_
      refine jj_iconst (0) dX7_put_36 rfl ?_
      refine jj_aload dX7_put_37 0 rfl ?_
      refine jg_3_2 (k := 50 + 1 + 2 * x1.toNatClampNeg) (jk_12 (k := 50) rfl g2) lk_7_263 dX7_put_39 ?_
      refine jj_iconst (1) dX7_put_42 rfl ?_
      refine jj_isub dX7_put_43 ?_
      refine jj_callSi [.int x2, .int 0, .int ((μ (50 + 1 + 2 * x1.toNatClampNeg) 2) - 1)] [] (c_wnf_within (d + 1)  rfl) jm_wnf_within lk_7_55 rfl (by omega) rfl (Nat.le_of_ble_eq_true rfl) dX7_put_44 ?_
      refine jj_if_ne 56 dX7_put_47 (by decide) (fun c4 => ?_) (fun c4 => ?_)
      · replace h := (if_neg c4).symm.trans h
        refine jj_aload dX7_put_56 0 rfl ?_
        refine jj_iload_n dX7_put_58 3 rfl ?_
        refine jj_iload_n dX7_put_59 4 rfl ?_
        obtain ⟨q5, e5, h⟩ := jj_be h
        refine jj_callVv [.int x2, .int x3] [] (c_shf_set (d + 1) (jk_12 (k := 50) rfl g2) e5) jm_shf_set lk_7_266 (b := 50 + 1 + 2 * x1.toNatClampNeg) (jk_12 (k := 50) rfl g2) (by decide) (jj_E3 (jk_12 (k := 50) rfl g2)) rfl rfl rfl (by omega) rfl (Nat.le_of_ble_eq_true rfl) dX7_put_60 ?_
        refine jj_iconst (1) dX7_put_63 rfl ?_
        exact jj_iret2 hF dX7_put_64 (Option.some.inj h)
      · replace h := (if_pos c4).symm.trans h
        refine jj_aload_n dX7_put_50 1 rfl ?_
        refine jj_iconst (1) dX7_put_51 rfl ?_
        obtain ⟨q6, e6, h⟩ := jj_be h
        refine jj_callVi [.int 1] [] (c_wnf_refuse (d + 1)  e6) jm_wnf_refuse lk_7_59 (b := 0) rfl (by decide) (jj_E7 rfl) rfl rfl rfl (by omega) rfl (Nat.le_of_ble_eq_true rfl) dX7_put_52 ?_
        exact jj_iret2 hF dX7_put_55 (Option.some.inj h)
    · replace h := (if_neg c3).symm.trans h
      refine jj_aload_n dX7_put_29 1 rfl ?_
      refine jj_iconst (2) dX7_put_30 rfl ?_
      obtain ⟨q7, e7, h⟩ := jj_be h
      refine jj_callVi [.int 2] [] (c_wnf_refuse (d + 1)  e7) jm_wnf_refuse lk_7_59 (b := 0) rfl (by decide) (jj_E7 rfl) rfl rfl rfl (by omega) rfl (Nat.le_of_ble_eq_true rfl) dX7_put_31 ?_
      exact jj_iret2 hF dX7_put_34 (Option.some.inj h)
  · replace h := (if_pos c1).symm.trans h
    refine jj_aload_n dX7_put_7 0 rfl ?_
    refine jj_iconst (1) dX7_put_8 rfl ?_
    obtain ⟨q8, e8, h⟩ := jj_be h
    refine jj_callVi [.int 1] [] (c_wnf_refuse (d + 1)  e8) jm_wnf_refuse lk_7_59 (b := 0) rfl (by decide) (jj_E7 rfl) rfl rfl rfl (by omega) rfl (Nat.le_of_ble_eq_true rfl) dX7_put_9 ?_
    exact jj_iret2 hF dX7_put_12 (Option.some.inj h)
def shf_holds  (p0 : Nat) (x1 : Int32) (x2 : Int32) (μ : jj_M) : Int32 := if x1 < 0 then 0 else if x2 < 0 then 0 else if (μ p0 2) < x1 then 0 else if ((μ p0 2) - x1) < x2 then 0 else 1
theorem z_shf_holds (p0 : Nat) (x1 : Int32) (x2 : Int32) (μ : jj_M) : shf_holds p0 x1 x2 μ = 0 ∨ shf_holds p0 x1 x2 μ = 1 := by
  unfold shf_holds
  first | (first | exact Or.inl rfl | exact Or.inr rfl) | ((repeat' split) <;> first | exact Or.inl rfl | exact Or.inr rfl)
set_option maxRecDepth 100000 in
theorem c_shf_holds {g : jj_G} (d : Nat)  {p0 : Nat} {x1 : Int32} {x2 : Int32} {μ : jj_M} {r : Int32}  (hp0 : jj_kd p0 = 3) (h : shf_holds p0 x1 x2 μ = r) : jj_N g yX3_holds cX3_holds 3 (some .boolean) (d + 0) [.ref (jj_ad g p0), .int x1, .int x2] μ (some (.int r)) μ := by
  refine jj_N_of jn_3 (Nat.le_of_ble_eq_true rfl) (fun X hF => ?_)
  unfold shf_holds at h
  refine jj_sub (own := RX3) (lv2 := [(0, .ref (jj_ad g p0)), (1, .int x1), (2, .int x2)]) [0, 1, 2] rfl ?_
  refine jj_iload_n dX3_holds_0 1 rfl ?_
  refine jj_if_lt 30 dX3_holds_1 (by decide) (fun c1 => ?_) (fun c1 => ?_)
  · replace h := (if_pos c1).symm.trans h
    refine jj_iconst (0) dX3_holds_30 rfl ?_
    exact jj_zret1 hF dX3_holds_31 (Or.inl rfl) h
  · replace h := (if_neg c1).symm.trans h
    refine jj_iload_n dX3_holds_4 2 rfl ?_
    refine jj_if_lt 30 dX3_holds_5 (by decide) (fun c2 => ?_) (fun c2 => ?_)
    · replace h := (if_pos c2).symm.trans h
      refine jj_iconst (0) dX3_holds_30 rfl ?_
      exact jj_zret1 hF dX3_holds_31 (Or.inl rfl) h
    · replace h := (if_neg c2).symm.trans h
      refine jj_iload_n dX3_holds_8 1 rfl ?_
      refine jj_aload_n dX3_holds_9 0 rfl ?_
      refine jg_3_2 (k := p0) hp0 lk_3_19 dX3_holds_10 ?_
      refine jj_icmp_gt 30 dX3_holds_13 (by decide) (fun c3 => ?_) (fun c3 => ?_)
      · replace h := (if_pos c3).symm.trans h
        refine jj_iconst (0) dX3_holds_30 rfl ?_
        exact jj_zret1 hF dX3_holds_31 (Or.inl rfl) h
      · replace h := (if_neg c3).symm.trans h
        refine jj_iload_n dX3_holds_16 2 rfl ?_
        refine jj_aload_n dX3_holds_17 0 rfl ?_
        refine jg_3_2 (k := p0) hp0 lk_3_19 dX3_holds_18 ?_
        refine jj_iload_n dX3_holds_21 1 rfl ?_
        refine jj_isub dX3_holds_22 ?_
        refine jj_icmp_gt 30 dX3_holds_23 (by decide) (fun c4 => ?_) (fun c4 => ?_)
        · replace h := (if_pos c4).symm.trans h
          refine jj_iconst (0) dX3_holds_30 rfl ?_
          exact jj_zret1 hF dX3_holds_31 (Or.inl rfl) h
        · replace h := (if_neg c4).symm.trans h
          refine jj_iconst (1) dX3_holds_26 rfl ?_
          refine jj_goto 31 dX3_holds_27 (by decide) ?_
          exact jj_zret1 hF dX3_holds_31 (Or.inr rfl) h
def wnf_move  (x1 : Int32) (x2 : Int32) (x3 : Int32) (x4 : Int32) (x5 : Int32) (μ : jj_M) : Option (Int32 × jj_M) := if (wnf_isSheet x1) = 0 then (wnf_refuse 1 μ).bind fun q2 => some ((q2.1, q2.2)) else if (wnf_isSheet x3) = 0 then (wnf_refuse 1 μ).bind fun q18 => some ((q18.1, q18.2)) else if jj_i x1 4 then if jj_i x3 4 then if (shf_isMissing (50 + 1 + 2 * x1.toNatClampNeg) μ) = 0 then if (shf_isMissing (50 + 1 + 2 * x3.toNatClampNeg) μ) = 0 then if (μ (50 + 1 + 2 * x1.toNatClampNeg) 1) = (μ (50 + 1 + 2 * x3.toNatClampNeg) 1) then if (shf_holds (50 + 1 + 2 * x1.toNatClampNeg) x2 x5 μ) = 0 then (wnf_refuse 1 μ).bind fun q11 => some ((q11.1, q11.2)) else if (shf_holds (50 + 1 + 2 * x3.toNatClampNeg) x4 x5 μ) = 0 then (wnf_refuse 1 μ).bind fun q15 => some ((q15.1, q15.2)) else if jj_cg x2 x4 x5 40 40 then (some (jj_uc μ (50 + 1 + 2 * x3.toNatClampNeg + 1) (va_cpy (μ (50 + 1 + 2 * x1.toNatClampNeg + 1)) (μ (50 + 1 + 2 * x3.toNatClampNeg + 1)) (Int32.toNatClampNeg x2) (Int32.toNatClampNeg x4) (Int32.toNatClampNeg x5)))).bind fun m14 => some ((x5, m14)) else none else (wnf_refuse 5 μ).bind fun q16 => some ((q16.1, q16.2)) else (wnf_refuse 2 μ).bind fun q17 => some ((q17.1, q17.2)) else (wnf_refuse 2 μ).bind fun q7 => some ((q7.1, q7.2)) else none else none
set_option maxRecDepth 100000 in
theorem c_wnf_move {g : jj_G} (d : Nat)  {x1 : Int32} {x2 : Int32} {x3 : Int32} {x4 : Int32} {x5 : Int32} {μ : jj_M} {r : Int32} {μ' : jj_M}   (h : wnf_move x1 x2 x3 x4 x5 μ = some (r, μ')) : jj_N g yX7_move cX7_move 8 (some .int) (d + 2) [.ref (jj_ad g 0), .int x1, .int x2, .int x3, .int x4, .int x5] μ (some (.int r)) μ' := by
  refine jj_N_of jn_7 (Nat.le_of_ble_eq_true rfl) (fun X hF => ?_)
  unfold wnf_move at h
  refine jj_sub (own := RX7) (lv2 := [(0, .ref (jj_ad g 0)), (1, .int x1), (2, .int x2), (3, .int x3), (4, .int x4), (5, .int x5)]) [0, 1, 2, 3, 4, 5] rfl ?_
  refine jj_iload_n dX7_move_0 1 rfl ?_
  refine jj_callSi [.int x1] [] (c_wnf_isSheet (d + 0)  rfl) jm_wnf_isSheet lk_7_229 rfl (by omega) rfl (Nat.le_of_ble_eq_true rfl) dX7_move_1 ?_
  refine jj_if_eq 14 dX7_move_4 (by decide) (fun c1 => ?_) (fun c1 => ?_)
  · replace h := (if_pos c1).symm.trans h
    refine jj_aload_n dX7_move_14 0 rfl ?_
    refine jj_iconst (1) dX7_move_15 rfl ?_
    obtain ⟨q2, e2, h⟩ := jj_be h
    refine jj_callVi [.int 1] [] (c_wnf_refuse (d + 1)  e2) jm_wnf_refuse lk_7_59 (b := 0) rfl (by decide) (jj_E7 rfl) rfl rfl rfl (by omega) rfl (Nat.le_of_ble_eq_true rfl) dX7_move_16 ?_
    exact jj_iret2 hF dX7_move_19 (Option.some.inj h)
  · replace h := (if_neg c1).symm.trans h
    refine jj_iload_n dX7_move_7 3 rfl ?_
    refine jj_callSi [.int x3] [] (c_wnf_isSheet (d + 0)  rfl) jm_wnf_isSheet lk_7_229 rfl (by omega) rfl (Nat.le_of_ble_eq_true rfl) dX7_move_8 ?_
    refine jj_if_ne 20 dX7_move_11 (by decide) (fun c3 => ?_) (fun c3 => ?_)
    · replace h := (if_neg c3).symm.trans h
      refine jj_aload_n dX7_move_20 0 rfl ?_
      refine jg_7_5 (k := 0) rfl lk_7_42 dX7_move_21 ?_
      show jj_V g X _ _ _ _ _ _ (.ref (jj_ad g 50) :: _) _
      refine jj_iload_n dX7_move_24 1 rfl ?_
      obtain ⟨g4, h⟩ := jj_ge h
      refine jj_aaload12 (k := 50) rfl g4 dX7_move_25 ?_
      refine jj_astore [(6, .ref (jj_ad g (50 + 1 + 2 * x1.toNatClampNeg))), (0, .ref (jj_ad g 0)), (1, .int x1), (2, .int x2), (3, .int x3), (4, .int x4), (5, .int x5)] dX7_move_26 (by decide) rfl ?_
      refine jj_aload_n dX7_move_28 1 rfl ?_
      refine jg_7_5 (k := 0) rfl lk_7_42 dX7_move_29 ?_
      show jj_V g X _ _ _ _ _ _ (.ref (jj_ad g 50) :: _) _
      refine jj_iload_n dX7_move_32 4 rfl ?_
      obtain ⟨g5, h⟩ := jj_ge h
      refine jj_aaload12 (k := 50) rfl g5 dX7_move_33 ?_
      refine jj_astore [(7, .ref (jj_ad g (50 + 1 + 2 * x3.toNatClampNeg))), (6, .ref (jj_ad g (50 + 1 + 2 * x1.toNatClampNeg))), (0, .ref (jj_ad g 0)), (1, .int x1), (2, .int x2), (3, .int x3), (4, .int x4), (5, .int x5)] dX7_move_34 (by decide) rfl ?_
      refine jj_aload dX7_move_36 1 rfl ?_
      refine jj_callVi [] [] (c_shf_isMissing (d + 1) (jk_12 (k := 50) rfl g4) rfl) jm_shf_isMissing lk_7_259 (b := 50 + 1 + 2 * x1.toNatClampNeg) (jk_12 (k := 50) rfl g4) (by decide) (jj_E3 (jk_12 (k := 50) rfl g4)) rfl rfl rfl (by omega) rfl (Nat.le_of_ble_eq_true rfl) dX7_move_38 ?_
      refine jj_if_ne 52 dX7_move_41 (by decide) (fun c6 => ?_) (fun c6 => ?_)
      · replace h := (if_neg c6).symm.trans h
        refine jj_aload_n dX7_move_52 2 rfl ?_
        refine jj_iconst (2) dX7_move_53 rfl ?_
        obtain ⟨q7, e7, h⟩ := jj_be h
        refine jj_callVi [.int 2] [] (c_wnf_refuse (d + 1)  e7) jm_wnf_refuse lk_7_59 (b := 0) rfl (by decide) (jj_E7 rfl) rfl rfl rfl (by omega) rfl (Nat.le_of_ble_eq_true rfl) dX7_move_54 ?_
        exact jj_iret2 hF dX7_move_57 (Option.some.inj h)
      · replace h := (if_pos c6).symm.trans h
        refine jj_aload dX7_move_44 0 rfl ?_
        refine jj_callVi [] [] (c_shf_isMissing (d + 1) (jk_12 (k := 50) rfl g5) rfl) jm_shf_isMissing lk_7_259 (b := 50 + 1 + 2 * x3.toNatClampNeg) (jk_12 (k := 50) rfl g5) (by decide) (jj_E3 (jk_12 (k := 50) rfl g5)) rfl rfl rfl (by omega) rfl (Nat.le_of_ble_eq_true rfl) dX7_move_46 ?_
        refine jj_if_eq 58 dX7_move_49 (by decide) (fun c8 => ?_) (fun c8 => ?_)
        · replace h := (if_pos c8).symm.trans h
          refine jj_aload dX7_move_58 1 rfl ?_
          refine jg_3_1 (k := 50 + 1 + 2 * x1.toNatClampNeg) (jk_12 (k := 50) rfl g4) lk_7_269 dX7_move_60 ?_
          refine jj_aload dX7_move_63 0 rfl ?_
          refine jg_3_1 (k := 50 + 1 + 2 * x3.toNatClampNeg) (jk_12 (k := 50) rfl g5) lk_7_269 dX7_move_65 ?_
          refine jj_icmp_eq 77 dX7_move_68 (by decide) (fun c9 => ?_) (fun c9 => ?_)
          · replace h := (if_pos c9).symm.trans h
            refine jj_aload dX7_move_77 1 rfl ?_
            refine jj_iload_n dX7_move_79 4 rfl ?_
            refine jj_iload dX7_move_80 7 rfl ?_
            refine jj_callVi [.int x2, .int x5] [] (c_shf_holds (d + 1) (jk_12 (k := 50) rfl g4) rfl) jm_shf_holds lk_7_272 (b := 50 + 1 + 2 * x1.toNatClampNeg) (jk_12 (k := 50) rfl g4) (by decide) (jj_E3 (jk_12 (k := 50) rfl g4)) rfl rfl rfl (by omega) rfl (Nat.le_of_ble_eq_true rfl) dX7_move_82 ?_
            refine jj_if_eq 100 dX7_move_85 (by decide) (fun c10 => ?_) (fun c10 => ?_)
            · replace h := (if_pos c10).symm.trans h
              refine jj_aload_n dX7_move_100 2 rfl ?_
              refine jj_iconst (1) dX7_move_101 rfl ?_
              obtain ⟨q11, e11, h⟩ := jj_be h
              refine jj_callVi [.int 1] [] (c_wnf_refuse (d + 1)  e11) jm_wnf_refuse lk_7_59 (b := 0) rfl (by decide) (jj_E7 rfl) rfl rfl rfl (by omega) rfl (Nat.le_of_ble_eq_true rfl) dX7_move_102 ?_
              exact jj_iret2 hF dX7_move_105 (Option.some.inj h)
            · replace h := (if_neg c10).symm.trans h
              refine jj_aload dX7_move_88 0 rfl ?_
              refine jj_iload dX7_move_90 6 rfl ?_
              refine jj_iload dX7_move_92 7 rfl ?_
              refine jj_callVi [.int x4, .int x5] [] (c_shf_holds (d + 1) (jk_12 (k := 50) rfl g5) rfl) jm_shf_holds lk_7_272 (b := 50 + 1 + 2 * x3.toNatClampNeg) (jk_12 (k := 50) rfl g5) (by decide) (jj_E3 (jk_12 (k := 50) rfl g5)) rfl rfl rfl (by omega) rfl (Nat.le_of_ble_eq_true rfl) dX7_move_94 ?_
              refine jj_if_ne 106 dX7_move_97 (by decide) (fun c12 => ?_) (fun c12 => ?_)
              · replace h := (if_neg c12).symm.trans h
                refine jj_aload dX7_move_106 1 rfl ?_
                refine jg_3_0 (k := 50 + 1 + 2 * x1.toNatClampNeg) (jk_12 (k := 50) rfl g4) lk_7_275 dX7_move_108 ?_
                refine jj_iload_n dX7_move_111 4 rfl ?_
                refine jj_aload dX7_move_112 0 rfl ?_
                refine jg_3_0 (k := 50 + 1 + 2 * x3.toNatClampNeg) (jk_12 (k := 50) rfl g5) lk_7_275 dX7_move_114 ?_
                refine jj_iload dX7_move_117 6 rfl ?_
                refine jj_iload dX7_move_119 7 rfl ?_
                obtain ⟨g13, h⟩ := jj_ge h
                refine jj_copy (k0 := 50 + 1 + 2 * x1.toNatClampNeg + 1) (k1 := 50 + 1 + 2 * x3.toNatClampNeg + 1) (n0 := 40) (n1 := 40) (jk_3_0 (jk_12 (k := 50) rfl g4)) (jk_3_0 (jk_12 (k := 50) rfl g5)) g13 (by omega) (Nat.le_of_ble_eq_true rfl) lk_7_278 dX7_move_121 ?_
                obtain ⟨m14, em14, h⟩ := jj_be h
                refine jj_mu em14 ?_
                refine jj_iload dX7_move_124 7 rfl ?_
                exact jj_iret2 hF dX7_move_126 (Option.some.inj h)
              · replace h := (if_pos c12).symm.trans h
                refine jj_aload_n dX7_move_100 2 rfl ?_
                refine jj_iconst (1) dX7_move_101 rfl ?_
                obtain ⟨q15, e15, h⟩ := jj_be h
                refine jj_callVi [.int 1] [] (c_wnf_refuse (d + 1)  e15) jm_wnf_refuse lk_7_59 (b := 0) rfl (by decide) (jj_E7 rfl) rfl rfl rfl (by omega) rfl (Nat.le_of_ble_eq_true rfl) dX7_move_102 ?_
                exact jj_iret2 hF dX7_move_105 (Option.some.inj h)
          · replace h := (if_neg c9).symm.trans h
            refine jj_aload_n dX7_move_71 2 rfl ?_
            refine jj_iconst (5) dX7_move_72 rfl ?_
            obtain ⟨q16, e16, h⟩ := jj_be h
            refine jj_callVi [.int 5] [] (c_wnf_refuse (d + 1)  e16) jm_wnf_refuse lk_7_59 (b := 0) rfl (by decide) (jj_E7 rfl) rfl rfl rfl (by omega) rfl (Nat.le_of_ble_eq_true rfl) dX7_move_73 ?_
            exact jj_iret2 hF dX7_move_76 (Option.some.inj h)
        · replace h := (if_neg c8).symm.trans h
          refine jj_aload_n dX7_move_52 2 rfl ?_
          refine jj_iconst (2) dX7_move_53 rfl ?_
          obtain ⟨q17, e17, h⟩ := jj_be h
          refine jj_callVi [.int 2] [] (c_wnf_refuse (d + 1)  e17) jm_wnf_refuse lk_7_59 (b := 0) rfl (by decide) (jj_E7 rfl) rfl rfl rfl (by omega) rfl (Nat.le_of_ble_eq_true rfl) dX7_move_54 ?_
          exact jj_iret2 hF dX7_move_57 (Option.some.inj h)
    · replace h := (if_pos c3).symm.trans h
      refine jj_aload_n dX7_move_14 0 rfl ?_
      refine jj_iconst (1) dX7_move_15 rfl ?_
      obtain ⟨q18, e18, h⟩ := jj_be h
      refine jj_callVi [.int 1] [] (c_wnf_refuse (d + 1)  e18) jm_wnf_refuse lk_7_59 (b := 0) rfl (by decide) (jj_E7 rfl) rfl rfl rfl (by omega) rfl (Nat.le_of_ble_eq_true rfl) dX7_move_16 ?_
      exact jj_iret2 hF dX7_move_19 (Option.some.inj h)
def wof_takeWaters_L2 (N : Nat)  (p0 : Nat) (p1 : Nat) : Nat → Int32 → jj_M → Option (Int32 × jj_M)
  | 0, _, _ => none
  | n + 1, x2, μ => if (μ p1 2) ≤ x2 then some ((μ p1 2, μ)) else if (wnf_isWell x2) = 0 then some ((x2, μ)) else if jj_i x2 40 then if (wnf_within (μ (p1 + 1) x2.toNatClampNeg) 0 99) = 0 then some ((x2, μ)) else if jj_i x2 40 then if jj_i x2 8 then (some (jj_u μ (p0 + 1) x2.toNatClampNeg (μ (p1 + 1) x2.toNatClampNeg))).bind fun m7 => wof_takeWaters_L2 N p0 p1 n (x2 + 1) m7 else none else none else none
set_option maxRecDepth 100000 in
theorem t_wof_takeWaters_L2 {g : jj_G} (d : Nat) {N : Nat}  {p0 : Nat} {p1 : Nat}  {r : Int32} {μ' : jj_M} {X : jj_X}  (hp0 : jj_kd p0 = 6) (hp1 : jj_kd p1 = 3) (hF : jj_F g (some .int) (some (.int r)) μ' X)  : ∀ (n : Nat) (x2 : Int32) (μ : jj_M), wof_takeWaters_L2 N p0 p1 n x2 μ = some (r, μ') → jj_V g X RX6 cX6_takeWaters 3 (d + 2) 2 [(0, .ref (jj_ad g p0)), (1, .ref (jj_ad g p1)), (2, .int x2)] [] μ := by
  intro n
  induction n with
  | zero =>
    intro x2 μ h
    exact (jj_no h).elim
  | succ n ih =>
    intro x2 μ h
    rw [wof_takeWaters_L2] at h
    refine jj_iload_n dX6_takeWaters_2 2 rfl ?_
    refine jj_aload_n dX6_takeWaters_3 1 rfl ?_
    refine jg_3_2 (k := p1) hp1 lk_6_150 dX6_takeWaters_4 ?_
    refine jj_icmp_ge 52 dX6_takeWaters_7 (by decide) (fun c1 => ?_) (fun c1 => ?_)
    · replace h := (if_pos c1).symm.trans h
      refine jj_aload_n dX6_takeWaters_52 1 rfl ?_
      refine jg_3_2 (k := p1) hp1 lk_6_150 dX6_takeWaters_53 ?_
      exact jj_iret2 hF dX6_takeWaters_56 (Option.some.inj h)
    · replace h := (if_neg c1).symm.trans h
      refine jj_iload_n dX6_takeWaters_10 2 rfl ?_
      refine jj_callNi [.int x2] [] (c_wnf_isWell (d + 0)  rfl) jm_wnf_isWell (host := RX7) (fun w => w.1) rfl (by omega) rfl (Nat.le_of_ble_eq_true rfl) dX6_takeWaters_11 ?_
      refine jj_if_eq 32 dX6_takeWaters_14 (by decide) (fun c2 => ?_) (fun c2 => ?_)
      · replace h := (if_pos c2).symm.trans h
        refine jj_iload_n dX6_takeWaters_32 2 rfl ?_
        exact jj_iret2 hF dX6_takeWaters_33 (Option.some.inj h)
      · replace h := (if_neg c2).symm.trans h
        refine jj_aload_n dX6_takeWaters_17 1 rfl ?_
        refine jg_3_0 (k := p1) hp1 lk_6_155 dX6_takeWaters_18 ?_
        refine jj_iload_n dX6_takeWaters_21 2 rfl ?_
        obtain ⟨g3, h⟩ := jj_ge h
        refine jj_iaload (k := p1 + 1) (n := 40) (jk_3_0 hp1) g3 dX6_takeWaters_22 ?_
        refine jj_iconst (0) dX6_takeWaters_23 rfl ?_
        refine jj_bipush (99) dX6_takeWaters_24 rfl ?_
        refine jj_callNi [.int (μ (p1 + 1) x2.toNatClampNeg), .int 0, .int 99] [] (c_wnf_within (d + 1)  rfl) jm_wnf_within (host := RX7) (fun w => w.2.2.2.2.1) rfl (by omega) rfl (Nat.le_of_ble_eq_true rfl) dX6_takeWaters_26 ?_
        refine jj_if_ne 34 dX6_takeWaters_29 (by decide) (fun c4 => ?_) (fun c4 => ?_)
        · replace h := (if_neg c4).symm.trans h
          refine jj_aload_n dX6_takeWaters_34 0 rfl ?_
          refine jg_6_0 (k := p0) hp0 lk_6_9 dX6_takeWaters_35 ?_
          refine jj_iload_n dX6_takeWaters_38 2 rfl ?_
          refine jj_aload_n dX6_takeWaters_39 1 rfl ?_
          refine jg_3_0 (k := p1) hp1 lk_6_155 dX6_takeWaters_40 ?_
          refine jj_iload_n dX6_takeWaters_43 2 rfl ?_
          obtain ⟨g5, h⟩ := jj_ge h
          refine jj_iaload (k := p1 + 1) (n := 40) (jk_3_0 hp1) g5 dX6_takeWaters_44 ?_
          obtain ⟨g6, h⟩ := jj_ge h
          refine jj_iastore (k := p0 + 1) (n := 8) (jk_6_0 hp0) g6 dX6_takeWaters_45 ?_
          obtain ⟨m7, em7, h⟩ := jj_be h
          refine jj_mu em7 ?_
          refine jj_iinc (x2 + 1) [(2, .int (x2 + 1)), (0, .ref (jj_ad g p0)), (1, .ref (jj_ad g p1))] dX6_takeWaters_46 2 rfl rfl (by decide) rfl ?_
          refine jj_goto 2 dX6_takeWaters_49 (by decide) ?_
          refine jj_sub [1, 2, 0] rfl ?_
          exact ih _ _ h
        · replace h := (if_pos c4).symm.trans h
          refine jj_iload_n dX6_takeWaters_32 2 rfl ?_
          exact jj_iret2 hF dX6_takeWaters_33 (Option.some.inj h)
def wof_takeWaters (N : Nat) (p0 : Nat) (p1 : Nat) (μ : jj_M) : Option (Int32 × jj_M) := wof_takeWaters_L2 N p0 p1 N 0 μ
set_option maxRecDepth 100000 in
theorem c_wof_takeWaters {g : jj_G} (d : Nat) {N : Nat} {p0 : Nat} {p1 : Nat} {μ : jj_M} {r : Int32} {μ' : jj_M}  (hp0 : jj_kd p0 = 6) (hp1 : jj_kd p1 = 3) (h : wof_takeWaters N p0 p1 μ = some (r, μ')) : jj_N g yX6_takeWaters cX6_takeWaters 3 (some .int) (d + 2) [.ref (jj_ad g p0), .ref (jj_ad g p1)] μ (some (.int r)) μ' := by
  refine jj_N_of jn_6 (Nat.le_of_ble_eq_true rfl) (fun X hF => ?_)
  unfold wof_takeWaters at h
  refine jj_sub (own := RX6) (lv2 := [(0, .ref (jj_ad g p0)), (1, .ref (jj_ad g p1))]) [0, 1] rfl ?_
  refine jj_iconst (0) dX6_takeWaters_0 rfl ?_
  refine jj_istore_n [(2, .int 0), (0, .ref (jj_ad g p0)), (1, .ref (jj_ad g p1))] dX6_takeWaters_1 (by decide) rfl ?_
  refine jj_sub [1, 2, 0] rfl ?_
  exact t_wof_takeWaters_L2 d  hp0 hp1 hF  _ _ _ h
def wnf_waters (N : Nat) (x1 : Int32) (μ : jj_M) : Option (Int32 × jj_M) := if (wnf_isSheet x1) = 0 then (wnf_refuse 1 μ).bind fun q7 => some ((q7.1, q7.2)) else if jj_i x1 4 then if (shf_isMissing (50 + 1 + 2 * x1.toNatClampNeg) μ) = 0 then if jj_i x1 4 then (wof_takeWaters N 1 (50 + 1 + 2 * x1.toNatClampNeg) μ).bind fun q5 => some ((q5.1, q5.2)) else none else (wnf_refuse 2 μ).bind fun q6 => some ((q6.1, q6.2)) else none
set_option maxRecDepth 100000 in
theorem c_wnf_waters {g : jj_G} (d : Nat) {N : Nat} {x1 : Int32} {μ : jj_M} {r : Int32} {μ' : jj_M}   (h : wnf_waters N x1 μ = some (r, μ')) : jj_N g yX7_waters cX7_waters 2 (some .int) (d + 3) [.ref (jj_ad g 0), .int x1] μ (some (.int r)) μ' := by
  refine jj_N_of jn_7 (Nat.le_of_ble_eq_true rfl) (fun X hF => ?_)
  unfold wnf_waters at h
  refine jj_sub (own := RX7) (lv2 := [(0, .ref (jj_ad g 0)), (1, .int x1)]) [0, 1] rfl ?_
  refine jj_iload_n dX7_waters_0 1 rfl ?_
  refine jj_callSi [.int x1] [] (c_wnf_isSheet (d + 1)  rfl) jm_wnf_isSheet lk_7_229 rfl (by omega) rfl (Nat.le_of_ble_eq_true rfl) dX7_waters_1 ?_
  refine jj_if_ne 13 dX7_waters_4 (by decide) (fun c1 => ?_) (fun c1 => ?_)
  · replace h := (if_neg c1).symm.trans h
    refine jj_aload_n dX7_waters_13 0 rfl ?_
    refine jg_7_5 (k := 0) rfl lk_7_42 dX7_waters_14 ?_
    show jj_V g X _ _ _ _ _ _ (.ref (jj_ad g 50) :: _) _
    refine jj_iload_n dX7_waters_17 1 rfl ?_
    obtain ⟨g2, h⟩ := jj_ge h
    refine jj_aaload12 (k := 50) rfl g2 dX7_waters_18 ?_
    refine jj_callVi [] [] (c_shf_isMissing (d + 2) (jk_12 (k := 50) rfl g2) rfl) jm_shf_isMissing lk_7_259 (b := 50 + 1 + 2 * x1.toNatClampNeg) (jk_12 (k := 50) rfl g2) (by decide) (jj_E3 (jk_12 (k := 50) rfl g2)) rfl rfl rfl (by omega) rfl (Nat.le_of_ble_eq_true rfl) dX7_waters_19 ?_
    refine jj_if_eq 31 dX7_waters_22 (by decide) (fun c3 => ?_) (fun c3 => ?_)
    · replace h := (if_pos c3).symm.trans h
      refine jj_aload_n dX7_waters_31 0 rfl ?_
      refine jg_7_0 (k := 0) rfl lk_7_10 dX7_waters_32 ?_
      show jj_V g X _ _ _ _ _ _ (.ref (jj_ad g 1) :: _) _
      refine jj_aload_n dX7_waters_35 0 rfl ?_
      refine jg_7_5 (k := 0) rfl lk_7_42 dX7_waters_36 ?_
      show jj_V g X _ _ _ _ _ _ (.ref (jj_ad g 50) :: _) _
      refine jj_iload_n dX7_waters_39 1 rfl ?_
      obtain ⟨g4, h⟩ := jj_ge h
      refine jj_aaload12 (k := 50) rfl g4 dX7_waters_40 ?_
      obtain ⟨q5, e5, h⟩ := jj_be h
      refine jj_callVi [.ref (jj_ad g (50 + 1 + 2 * x1.toNatClampNeg))] [] (c_wof_takeWaters (d + 0) rfl (jk_12 (k := 50) rfl g4) e5) jm_wof_takeWaters lk_7_284 (b := 1) rfl (by decide) (jj_E6 rfl) rfl rfl rfl (by omega) rfl (Nat.le_of_ble_eq_true rfl) dX7_waters_41 ?_
      exact jj_iret2 hF dX7_waters_44 (Option.some.inj h)
    · replace h := (if_neg c3).symm.trans h
      refine jj_aload_n dX7_waters_25 0 rfl ?_
      refine jj_iconst (2) dX7_waters_26 rfl ?_
      obtain ⟨q6, e6, h⟩ := jj_be h
      refine jj_callVi [.int 2] [] (c_wnf_refuse (d + 2)  e6) jm_wnf_refuse lk_7_59 (b := 0) rfl (by decide) (jj_E7 rfl) rfl rfl rfl (by omega) rfl (Nat.le_of_ble_eq_true rfl) dX7_waters_27 ?_
      exact jj_iret2 hF dX7_waters_30 (Option.some.inj h)
  · replace h := (if_pos c1).symm.trans h
    refine jj_aload_n dX7_waters_7 0 rfl ?_
    refine jj_iconst (1) dX7_waters_8 rfl ?_
    obtain ⟨q7, e7, h⟩ := jj_be h
    refine jj_callVi [.int 1] [] (c_wnf_refuse (d + 2)  e7) jm_wnf_refuse lk_7_59 (b := 0) rfl (by decide) (jj_E7 rfl) rfl rfl rfl (by omega) rfl (Nat.le_of_ble_eq_true rfl) dX7_waters_9 ?_
    exact jj_iret2 hF dX7_waters_12 (Option.some.inj h)
def wof_firstMisnamed_L14 (N : Nat)  (p0 : Nat) (p1 : Nat) (x2 : Int32) (μ : jj_M) : Nat → Int32 → Option (Int32)
  | 0, _ => none
  | n + 1, x3 => if x2 ≤ x3 then if (μ p1 2) = (μ p0 7) then some (-1) else some x2 else if jj_i x3 40 then if jj_i x3 6 then if (μ (p1 + 1) x3.toNatClampNeg) = (μ ((p0 + 4) + 4 + x3.toNatClampNeg) 3) then wof_firstMisnamed_L14 N p0 p1 x2 μ n (x3 + 1) else some x3 else none else none
set_option maxRecDepth 100000 in
theorem t_wof_firstMisnamed_L14 {g : jj_G} (d : Nat) {N : Nat}  {p0 : Nat} {p1 : Nat} {x2 : Int32} {μ : jj_M}  {r : Int32} {X : jj_X}  (hp0 : jj_kd p0 = 6) (hp1 : jj_kd p1 = 3) (hF : jj_F g (some .int) (some (.int r)) μ X)  : ∀ (n : Nat) (x3 : Int32), wof_firstMisnamed_L14 N p0 p1 x2 μ n x3 = some r → jj_V g X RX6 cX6_firstMisnamed 4 (d + 1) 14 [(0, .ref (jj_ad g p0)), (1, .ref (jj_ad g p1)), (2, .int x2), (3, .int x3)] [] μ := by
  intro n
  induction n with
  | zero =>
    intro x3 h
    exact (jj_no h).elim
  | succ n ih =>
    intro x3 h
    rw [wof_firstMisnamed_L14] at h
    refine jj_iload_n dX6_firstMisnamed_14 3 rfl ?_
    refine jj_iload_n dX6_firstMisnamed_15 2 rfl ?_
    refine jj_icmp_ge 45 dX6_firstMisnamed_16 (by decide) (fun c1 => ?_) (fun c1 => ?_)
    · replace h := (if_pos c1).symm.trans h
      refine jj_aload_n dX6_firstMisnamed_45 1 rfl ?_
      refine jg_3_2 (k := p1) hp1 lk_6_150 dX6_firstMisnamed_46 ?_
      refine jj_aload_n dX6_firstMisnamed_49 0 rfl ?_
      refine jg_6_7 (k := p0) hp0 lk_6_75 dX6_firstMisnamed_50 ?_
      refine jj_icmp_ne 60 dX6_firstMisnamed_53 (by decide) (fun c2 => ?_) (fun c2 => ?_)
      · replace h := (if_neg c2).symm.trans h
        refine jj_iload_n dX6_firstMisnamed_60 2 rfl ?_
        exact jj_iret1 hF dX6_firstMisnamed_61 (Option.some.inj h)
      · replace h := (if_pos c2).symm.trans h
        refine jj_iconst (-1) dX6_firstMisnamed_56 rfl ?_
        refine jj_goto 61 dX6_firstMisnamed_57 (by decide) ?_
        exact jj_iret1 hF dX6_firstMisnamed_61 (Option.some.inj h)
    · replace h := (if_neg c1).symm.trans h
      refine jj_aload_n dX6_firstMisnamed_19 1 rfl ?_
      refine jg_3_0 (k := p1) hp1 lk_6_155 dX6_firstMisnamed_20 ?_
      refine jj_iload_n dX6_firstMisnamed_23 3 rfl ?_
      obtain ⟨g3, h⟩ := jj_ge h
      refine jj_iaload (k := p1 + 1) (n := 40) (jk_3_0 hp1) g3 dX6_firstMisnamed_24 ?_
      refine jj_aload_n dX6_firstMisnamed_25 0 rfl ?_
      refine jg_6_3 (k := p0) hp0 lk_6_23 dX6_firstMisnamed_26 ?_
      refine jj_iload_n dX6_firstMisnamed_29 3 rfl ?_
      obtain ⟨g4, h⟩ := jj_ge h
      refine jj_aaload10 (k := p0 + 4) (jk_6_3 hp0) g4 dX6_firstMisnamed_30 ?_
      refine jg_1_3 (k := (p0 + 4) + 4 + x3.toNatClampNeg) (jk_10 (k := p0 + 4) (jk_6_3 hp0) g4) lk_6_104 dX6_firstMisnamed_31 ?_
      refine jj_icmp_eq 39 dX6_firstMisnamed_34 (by decide) (fun c5 => ?_) (fun c5 => ?_)
      · replace h := (if_pos c5).symm.trans h
        refine jj_iinc (x3 + 1) [(3, .int (x3 + 1)), (0, .ref (jj_ad g p0)), (1, .ref (jj_ad g p1)), (2, .int x2)] dX6_firstMisnamed_39 3 rfl rfl (by decide) rfl ?_
        refine jj_goto 14 dX6_firstMisnamed_42 (by decide) ?_
        refine jj_sub [1, 2, 3, 0] rfl ?_
        exact ih _ h
      · replace h := (if_neg c5).symm.trans h
        refine jj_iload_n dX6_firstMisnamed_37 3 rfl ?_
        exact jj_iret1 hF dX6_firstMisnamed_38 (Option.some.inj h)
def wof_firstMisnamed (N : Nat) (p0 : Nat) (p1 : Nat) (μ : jj_M) : Option (Int32) := wof_firstMisnamed_L14 N p0 p1 (jdf_min (μ p1 2) (μ p0 7)) μ N 0
set_option maxRecDepth 100000 in
theorem c_wof_firstMisnamed {g : jj_G} (d : Nat) {N : Nat} {p0 : Nat} {p1 : Nat} {μ : jj_M} {r : Int32}  (hp0 : jj_kd p0 = 6) (hp1 : jj_kd p1 = 3) (h : wof_firstMisnamed N p0 p1 μ = some r) : jj_N g yX6_firstMisnamed cX6_firstMisnamed 4 (some .int) (d + 1) [.ref (jj_ad g p0), .ref (jj_ad g p1)] μ (some (.int r)) μ := by
  refine jj_N_of jn_6 (Nat.le_of_ble_eq_true rfl) (fun X hF => ?_)
  unfold wof_firstMisnamed at h
  refine jj_sub (own := RX6) (lv2 := [(0, .ref (jj_ad g p0)), (1, .ref (jj_ad g p1))]) [0, 1] rfl ?_
  refine jj_aload_n dX6_firstMisnamed_0 1 rfl ?_
  refine jg_3_2 (k := p1) hp1 lk_6_150 dX6_firstMisnamed_1 ?_
  refine jj_aload_n dX6_firstMisnamed_4 0 rfl ?_
  refine jg_6_7 (k := p0) hp0 lk_6_75 dX6_firstMisnamed_5 ?_
  refine jj_mmin lk_6_126 (by omega) (Nat.le_of_ble_eq_true rfl) dX6_firstMisnamed_8 ?_
  refine jj_istore_n [(2, .int (jdf_min (μ p1 2) (μ p0 7))), (0, .ref (jj_ad g p0)), (1, .ref (jj_ad g p1))] dX6_firstMisnamed_11 (by decide) rfl ?_
  refine jj_iconst (0) dX6_firstMisnamed_12 rfl ?_
  refine jj_istore_n [(3, .int 0), (2, .int (jdf_min (μ p1 2) (μ p0 7))), (0, .ref (jj_ad g p0)), (1, .ref (jj_ad g p1))] dX6_firstMisnamed_13 (by decide) rfl ?_
  refine jj_sub [2, 3, 1, 0] rfl ?_
  exact t_wof_firstMisnamed_L14 d  hp0 hp1 hF  _ _ h
def wnf_judge (N : Nat) (x1 : Int32) (μ : jj_M) : Option (Int32 × jj_M) := if (wnf_isSheet x1) = 0 then (wnf_refuse 1 μ).bind fun q7 => some ((q7.1, q7.2)) else if jj_i x1 4 then if (shf_isMissing (50 + 1 + 2 * x1.toNatClampNeg) μ) = 0 then if jj_i x1 4 then (wof_firstMisnamed N 1 (50 + 1 + 2 * x1.toNatClampNeg) μ).bind fun q5 => some ((q5, μ)) else none else (wnf_refuse 2 μ).bind fun q6 => some ((q6.1, q6.2)) else none
set_option maxRecDepth 100000 in
theorem c_wnf_judge {g : jj_G} (d : Nat) {N : Nat} {x1 : Int32} {μ : jj_M} {r : Int32} {μ' : jj_M}   (h : wnf_judge N x1 μ = some (r, μ')) : jj_N g yX7_judge cX7_judge 2 (some .int) (d + 2) [.ref (jj_ad g 0), .int x1] μ (some (.int r)) μ' := by
  refine jj_N_of jn_7 (Nat.le_of_ble_eq_true rfl) (fun X hF => ?_)
  unfold wnf_judge at h
  refine jj_sub (own := RX7) (lv2 := [(0, .ref (jj_ad g 0)), (1, .int x1)]) [0, 1] rfl ?_
  refine jj_iload_n dX7_judge_0 1 rfl ?_
  refine jj_callSi [.int x1] [] (c_wnf_isSheet (d + 0)  rfl) jm_wnf_isSheet lk_7_229 rfl (by omega) rfl (Nat.le_of_ble_eq_true rfl) dX7_judge_1 ?_
  refine jj_if_ne 13 dX7_judge_4 (by decide) (fun c1 => ?_) (fun c1 => ?_)
  · replace h := (if_neg c1).symm.trans h
    refine jj_aload_n dX7_judge_13 0 rfl ?_
    refine jg_7_5 (k := 0) rfl lk_7_42 dX7_judge_14 ?_
    show jj_V g X _ _ _ _ _ _ (.ref (jj_ad g 50) :: _) _
    refine jj_iload_n dX7_judge_17 1 rfl ?_
    obtain ⟨g2, h⟩ := jj_ge h
    refine jj_aaload12 (k := 50) rfl g2 dX7_judge_18 ?_
    refine jj_callVi [] [] (c_shf_isMissing (d + 1) (jk_12 (k := 50) rfl g2) rfl) jm_shf_isMissing lk_7_259 (b := 50 + 1 + 2 * x1.toNatClampNeg) (jk_12 (k := 50) rfl g2) (by decide) (jj_E3 (jk_12 (k := 50) rfl g2)) rfl rfl rfl (by omega) rfl (Nat.le_of_ble_eq_true rfl) dX7_judge_19 ?_
    refine jj_if_eq 31 dX7_judge_22 (by decide) (fun c3 => ?_) (fun c3 => ?_)
    · replace h := (if_pos c3).symm.trans h
      refine jj_aload_n dX7_judge_31 0 rfl ?_
      refine jg_7_0 (k := 0) rfl lk_7_10 dX7_judge_32 ?_
      show jj_V g X _ _ _ _ _ _ (.ref (jj_ad g 1) :: _) _
      refine jj_aload_n dX7_judge_35 0 rfl ?_
      refine jg_7_5 (k := 0) rfl lk_7_42 dX7_judge_36 ?_
      show jj_V g X _ _ _ _ _ _ (.ref (jj_ad g 50) :: _) _
      refine jj_iload_n dX7_judge_39 1 rfl ?_
      obtain ⟨g4, h⟩ := jj_ge h
      refine jj_aaload12 (k := 50) rfl g4 dX7_judge_40 ?_
      obtain ⟨q5, e5, h⟩ := jj_be h
      refine jj_callVi [.ref (jj_ad g (50 + 1 + 2 * x1.toNatClampNeg))] [] (c_wof_firstMisnamed (d + 0) rfl (jk_12 (k := 50) rfl g4) e5) jm_wof_firstMisnamed lk_7_288 (b := 1) rfl (by decide) (jj_E6 rfl) rfl rfl rfl (by omega) rfl (Nat.le_of_ble_eq_true rfl) dX7_judge_41 ?_
      exact jj_iret2 hF dX7_judge_44 (Option.some.inj h)
    · replace h := (if_neg c3).symm.trans h
      refine jj_aload_n dX7_judge_25 0 rfl ?_
      refine jj_iconst (2) dX7_judge_26 rfl ?_
      obtain ⟨q6, e6, h⟩ := jj_be h
      refine jj_callVi [.int 2] [] (c_wnf_refuse (d + 1)  e6) jm_wnf_refuse lk_7_59 (b := 0) rfl (by decide) (jj_E7 rfl) rfl rfl rfl (by omega) rfl (Nat.le_of_ble_eq_true rfl) dX7_judge_27 ?_
      exact jj_iret2 hF dX7_judge_30 (Option.some.inj h)
  · replace h := (if_pos c1).symm.trans h
    refine jj_aload_n dX7_judge_7 0 rfl ?_
    refine jj_iconst (1) dX7_judge_8 rfl ?_
    obtain ⟨q7, e7, h⟩ := jj_be h
    refine jj_callVi [.int 1] [] (c_wnf_refuse (d + 1)  e7) jm_wnf_refuse lk_7_59 (b := 0) rfl (by decide) (jj_E7 rfl) rfl rfl rfl (by omega) rfl (Nat.le_of_ble_eq_true rfl) dX7_judge_9 ?_
    exact jj_iret2 hF dX7_judge_12 (Option.some.inj h)
def pef_copyFrom  (p0 : Nat) (p1 : Nat) (μ : jj_M) : Option (jj_M) := (some (jj_u (jj_u μ p0 0 (μ p1 0)) p0 1 ((jj_u μ p0 0 (μ p1 0)) p1 1))).bind fun m1 => (some (jj_u (jj_u m1 p0 2 (m1 p1 2)) p0 3 ((jj_u m1 p0 2 (m1 p1 2)) p1 3))).bind fun m2 => if ((jj_u m2 p0 4 (m2 p1 4)) p1 5) = 0 ∨ ((jj_u m2 p0 4 (m2 p1 4)) p1 5) = 1 then (some (jj_u (jj_u m2 p0 4 (m2 p1 4)) p0 5 ((jj_u m2 p0 4 (m2 p1 4)) p1 5))).bind fun m4 => some m4 else none
set_option maxRecDepth 100000 in
theorem c_pef_copyFrom {g : jj_G} (d : Nat)  {p0 : Nat} {p1 : Nat} {μ : jj_M} {μ' : jj_M}  (hp0 : jj_kd p0 = 1) (hp1 : jj_kd p1 = 1) (h : pef_copyFrom p0 p1 μ = some μ') : jj_N g yX1_copyFrom cX1_copyFrom 2 none (d + 0) [.ref (jj_ad g p0), .ref (jj_ad g p1)] μ none μ' := by
  refine jj_N_of jn_1 (Nat.le_of_ble_eq_true rfl) (fun X hF => ?_)
  unfold pef_copyFrom at h
  refine jj_sub (own := RX1) (lv2 := [(0, .ref (jj_ad g p0)), (1, .ref (jj_ad g p1))]) [0, 1] rfl ?_
  refine jj_aload_n dX1_copyFrom_0 0 rfl ?_
  refine jj_aload_n dX1_copyFrom_1 1 rfl ?_
  refine jg_1_0 (k := p1) hp1 lk_1_15 dX1_copyFrom_2 ?_
  refine jp_1_0 (k := p0) hp0 lk_1_15 dX1_copyFrom_5 ?_
  refine jj_aload_n dX1_copyFrom_8 0 rfl ?_
  refine jj_aload_n dX1_copyFrom_9 1 rfl ?_
  refine jg_1_1 (k := p1) hp1 lk_1_18 dX1_copyFrom_10 ?_
  refine jp_1_1 (k := p0) hp0 lk_1_18 dX1_copyFrom_13 ?_
  obtain ⟨m1, em1, h⟩ := jj_be h
  refine jj_mu em1 ?_
  refine jj_aload_n dX1_copyFrom_16 0 rfl ?_
  refine jj_aload_n dX1_copyFrom_17 1 rfl ?_
  refine jg_1_2 (k := p1) hp1 lk_1_21 dX1_copyFrom_18 ?_
  refine jp_1_2 (k := p0) hp0 lk_1_21 dX1_copyFrom_21 ?_
  refine jj_aload_n dX1_copyFrom_24 0 rfl ?_
  refine jj_aload_n dX1_copyFrom_25 1 rfl ?_
  refine jg_1_3 (k := p1) hp1 lk_1_9 dX1_copyFrom_26 ?_
  refine jp_1_3 (k := p0) hp0 lk_1_9 dX1_copyFrom_29 ?_
  obtain ⟨m2, em2, h⟩ := jj_be h
  refine jj_mu em2 ?_
  refine jj_aload_n dX1_copyFrom_32 0 rfl ?_
  refine jj_aload_n dX1_copyFrom_33 1 rfl ?_
  refine jg_1_4 (k := p1) hp1 lk_1_24 dX1_copyFrom_34 ?_
  refine jp_1_4 (k := p0) hp0 lk_1_24 dX1_copyFrom_37 ?_
  refine jj_aload_n dX1_copyFrom_40 0 rfl ?_
  refine jj_aload_n dX1_copyFrom_41 1 rfl ?_
  refine jg_1_5 (k := p1) hp1 lk_1_27 dX1_copyFrom_42 ?_
  obtain ⟨g3, h⟩ := jj_ge h
  refine jp_1_5 (k := p0) hp0 g3 lk_1_27 dX1_copyFrom_45 ?_
  obtain ⟨m4, em4, h⟩ := jj_be h
  refine jj_mu em4 ?_
  exact jj_vret1 hF dX1_copyFrom_48 (Option.some.inj h)
def wof_copyFrom_L106 (N : Nat)  (p0 : Nat) (p1 : Nat) : Nat → Int32 → jj_M → Option (jj_M)
  | 0, _, _ => none
  | n + 1, x2, μ => if 2 ≤ x2 then (some (jj_u (jj_u μ p0 7 (μ p1 7)) p0 8 ((jj_u μ p0 7 (μ p1 7)) p1 8))).bind fun m2 => (some (jj_u (jj_u m2 p0 9 (m2 p1 9)) p0 10 ((jj_u m2 p0 9 (m2 p1 9)) p1 10))).bind fun m3 => (some (jj_u (jj_u m3 p0 11 (m3 p1 11)) p0 12 ((jj_u m3 p0 11 (m3 p1 11)) p1 12))).bind fun m4 => some (jj_u m4 p0 13 (m4 p1 13)) else if jj_i x2 2 then if jj_i x2 2 then if jj_i x2 2 then (laf_take ((p0 + 5) + 9 + 3 * x2.toNatClampNeg) ((p1 + 5) + 9 + 3 * x2.toNatClampNeg + 1) 50 (μ ((p1 + 5) + 9 + 3 * x2.toNatClampNeg) 1) μ).bind fun q8 => wof_copyFrom_L106 N p0 p1 n (x2 + 1) q8 else none else none else none
set_option maxRecDepth 100000 in
theorem t_wof_copyFrom_L106 {g : jj_G} (d : Nat) {N : Nat}  {p0 : Nat} {p1 : Nat}  {μ' : jj_M} {X : jj_X}  (hp0 : jj_kd p0 = 6) (hp1 : jj_kd p1 = 6) (hF : jj_F g none none μ' X)  : ∀ (n : Nat) (x2 : Int32) (μ : jj_M), wof_copyFrom_L106 N p0 p1 n x2 μ = some μ' → jj_V g X RX6 cX6_copyFrom 3 (d + 2) 106 [(0, .ref (jj_ad g p0)), (1, .ref (jj_ad g p1)), (2, .int x2)] [] μ := by
  intro n
  induction n with
  | zero =>
    intro x2 μ h
    exact (jj_no h).elim
  | succ n ih =>
    intro x2 μ h
    rw [wof_copyFrom_L106] at h
    refine jj_iload_n dX6_copyFrom_106 2 rfl ?_
    refine jj_iconst (2) dX6_copyFrom_107 rfl ?_
    refine jj_icmp_ge 144 dX6_copyFrom_108 (by decide) (fun c1 => ?_) (fun c1 => ?_)
    · replace h := (if_pos c1).symm.trans h
      refine jj_aload_n dX6_copyFrom_144 0 rfl ?_
      refine jj_aload_n dX6_copyFrom_145 1 rfl ?_
      refine jg_6_7 (k := p1) hp1 lk_6_75 dX6_copyFrom_146 ?_
      refine jp_6_7 (k := p0) hp0 lk_6_75 dX6_copyFrom_149 ?_
      refine jj_aload_n dX6_copyFrom_152 0 rfl ?_
      refine jj_aload_n dX6_copyFrom_153 1 rfl ?_
      refine jg_6_8 (k := p1) hp1 lk_6_42 dX6_copyFrom_154 ?_
      refine jp_6_8 (k := p0) hp0 lk_6_42 dX6_copyFrom_157 ?_
      obtain ⟨m2, em2, h⟩ := jj_be h
      refine jj_mu em2 ?_
      refine jj_aload_n dX6_copyFrom_160 0 rfl ?_
      refine jj_aload_n dX6_copyFrom_161 1 rfl ?_
      refine jg_6_9 (k := p1) hp1 lk_6_78 dX6_copyFrom_162 ?_
      refine jp_6_9 (k := p0) hp0 lk_6_78 dX6_copyFrom_165 ?_
      refine jj_aload_n dX6_copyFrom_168 0 rfl ?_
      refine jj_aload_n dX6_copyFrom_169 1 rfl ?_
      refine jg_6_10 (k := p1) hp1 lk_6_81 dX6_copyFrom_170 ?_
      refine jp_6_10 (k := p0) hp0 lk_6_81 dX6_copyFrom_173 ?_
      obtain ⟨m3, em3, h⟩ := jj_be h
      refine jj_mu em3 ?_
      refine jj_aload_n dX6_copyFrom_176 0 rfl ?_
      refine jj_aload_n dX6_copyFrom_177 1 rfl ?_
      refine jg_6_11 (k := p1) hp1 lk_6_84 dX6_copyFrom_178 ?_
      refine jp_6_11 (k := p0) hp0 lk_6_84 dX6_copyFrom_181 ?_
      refine jj_aload_n dX6_copyFrom_184 0 rfl ?_
      refine jj_aload_n dX6_copyFrom_185 1 rfl ?_
      refine jg_6_12 (k := p1) hp1 lk_6_87 dX6_copyFrom_186 ?_
      refine jp_6_12 (k := p0) hp0 lk_6_87 dX6_copyFrom_189 ?_
      obtain ⟨m4, em4, h⟩ := jj_be h
      refine jj_mu em4 ?_
      refine jj_aload_n dX6_copyFrom_192 0 rfl ?_
      refine jj_aload_n dX6_copyFrom_193 1 rfl ?_
      refine jg_6_13 (k := p1) hp1 lk_6_46 dX6_copyFrom_194 ?_
      refine jp_6_13 (k := p0) hp0 lk_6_46 dX6_copyFrom_197 ?_
      exact jj_vret1 hF dX6_copyFrom_200 (Option.some.inj h)
    · replace h := (if_neg c1).symm.trans h
      refine jj_aload_n dX6_copyFrom_111 0 rfl ?_
      refine jg_6_4 (k := p0) hp0 lk_6_32 dX6_copyFrom_112 ?_
      refine jj_iload_n dX6_copyFrom_115 2 rfl ?_
      obtain ⟨g5, h⟩ := jj_ge h
      refine jj_aaload11 (k := p0 + 5) (jk_6_4 hp0) g5 dX6_copyFrom_116 ?_
      refine jj_aload_n dX6_copyFrom_117 1 rfl ?_
      refine jg_6_4 (k := p1) hp1 lk_6_32 dX6_copyFrom_118 ?_
      refine jj_iload_n dX6_copyFrom_121 2 rfl ?_
      obtain ⟨g6, h⟩ := jj_ge h
      refine jj_aaload11 (k := p1 + 5) (jk_6_4 hp1) g6 dX6_copyFrom_122 ?_
      refine jg_0_0 (k := (p1 + 5) + 9 + 3 * x2.toNatClampNeg) (jk_11 (k := p1 + 5) (jk_6_4 hp1) g6) lk_6_66 dX6_copyFrom_123 ?_
      refine jj_aload_n dX6_copyFrom_126 1 rfl ?_
      refine jg_6_4 (k := p1) hp1 lk_6_32 dX6_copyFrom_127 ?_
      refine jj_iload_n dX6_copyFrom_130 2 rfl ?_
      obtain ⟨g7, h⟩ := jj_ge h
      refine jj_aaload11 (k := p1 + 5) (jk_6_4 hp1) g7 dX6_copyFrom_131 ?_
      refine jg_0_1 (k := (p1 + 5) + 9 + 3 * x2.toNatClampNeg) (jk_11 (k := p1 + 5) (jk_6_4 hp1) g7) lk_6_69 dX6_copyFrom_132 ?_
      obtain ⟨q8, e8, h⟩ := jj_be h
      refine jj_callVv [.ref (jj_ad g ((p1 + 5) + 9 + 3 * x2.toNatClampNeg + 1)), .int (μ ((p1 + 5) + 9 + 3 * x2.toNatClampNeg) 1)] [] (c_laf_take (d + 0) (jk_11 (k := p0 + 5) (jk_6_4 hp0) g5) (jk_0_0 (jk_11 (k := p1 + 5) (jk_6_4 hp1) g6)) e8) jm_laf_take lk_6_72 (b := (p0 + 5) + 9 + 3 * x2.toNatClampNeg) (jk_11 (k := p0 + 5) (jk_6_4 hp0) g5) (by decide) (jj_E0 (jk_11 (k := p0 + 5) (jk_6_4 hp0) g5)) rfl rfl rfl (by omega) rfl (Nat.le_of_ble_eq_true rfl) dX6_copyFrom_135 ?_
      refine jj_iinc (x2 + 1) [(2, .int (x2 + 1)), (0, .ref (jj_ad g p0)), (1, .ref (jj_ad g p1))] dX6_copyFrom_138 2 rfl rfl (by decide) rfl ?_
      refine jj_goto 106 dX6_copyFrom_141 (by decide) ?_
      refine jj_sub [1, 2, 0] rfl ?_
      exact ih _ _ h
def wof_copyFrom_L77 (N : Nat)  (p0 : Nat) (p1 : Nat) : Nat → Int32 → jj_M → Option (jj_M)
  | 0, _, _ => none
  | n + 1, x2, μ => if 6 ≤ x2 then wof_copyFrom_L106 N p0 p1 N 0 μ else if jj_i x2 6 then if jj_i x2 6 then (pef_copyFrom ((p0 + 4) + 4 + x2.toNatClampNeg) ((p1 + 4) + 4 + x2.toNatClampNeg) μ).bind fun q4 => wof_copyFrom_L77 N p0 p1 n (x2 + 1) q4 else none else none
set_option maxRecDepth 100000 in
theorem t_wof_copyFrom_L77 {g : jj_G} (d : Nat) {N : Nat}  {p0 : Nat} {p1 : Nat}  {μ' : jj_M} {X : jj_X}  (hp0 : jj_kd p0 = 6) (hp1 : jj_kd p1 = 6) (hF : jj_F g none none μ' X)  : ∀ (n : Nat) (x2 : Int32) (μ : jj_M), wof_copyFrom_L77 N p0 p1 n x2 μ = some μ' → jj_V g X RX6 cX6_copyFrom 3 (d + 2) 77 [(0, .ref (jj_ad g p0)), (1, .ref (jj_ad g p1)), (2, .int x2)] [] μ := by
  intro n
  induction n with
  | zero =>
    intro x2 μ h
    exact (jj_no h).elim
  | succ n ih =>
    intro x2 μ h
    rw [wof_copyFrom_L77] at h
    refine jj_iload_n dX6_copyFrom_77 2 rfl ?_
    refine jj_bipush (6) dX6_copyFrom_78 rfl ?_
    refine jj_icmp_ge 104 dX6_copyFrom_80 (by decide) (fun c1 => ?_) (fun c1 => ?_)
    · replace h := (if_pos c1).symm.trans h
      refine jj_iconst (0) dX6_copyFrom_104 rfl ?_
      refine jj_istore_n [(2, .int 0), (0, .ref (jj_ad g p0)), (1, .ref (jj_ad g p1))] dX6_copyFrom_105 (by decide) rfl ?_
      refine jj_sub [1, 2, 0] rfl ?_
      exact t_wof_copyFrom_L106 d  hp0 hp1 hF  _ _ _ h
    · replace h := (if_neg c1).symm.trans h
      refine jj_aload_n dX6_copyFrom_83 0 rfl ?_
      refine jg_6_3 (k := p0) hp0 lk_6_23 dX6_copyFrom_84 ?_
      refine jj_iload_n dX6_copyFrom_87 2 rfl ?_
      obtain ⟨g2, h⟩ := jj_ge h
      refine jj_aaload10 (k := p0 + 4) (jk_6_3 hp0) g2 dX6_copyFrom_88 ?_
      refine jj_aload_n dX6_copyFrom_89 1 rfl ?_
      refine jg_6_3 (k := p1) hp1 lk_6_23 dX6_copyFrom_90 ?_
      refine jj_iload_n dX6_copyFrom_93 2 rfl ?_
      obtain ⟨g3, h⟩ := jj_ge h
      refine jj_aaload10 (k := p1 + 4) (jk_6_3 hp1) g3 dX6_copyFrom_94 ?_
      obtain ⟨q4, e4, h⟩ := jj_be h
      refine jj_callVv [.ref (jj_ad g ((p1 + 4) + 4 + x2.toNatClampNeg))] [] (c_pef_copyFrom (d + 1) (jk_10 (k := p0 + 4) (jk_6_3 hp0) g2) (jk_10 (k := p1 + 4) (jk_6_3 hp1) g3) e4) jm_pef_copyFrom lk_6_62 (b := (p0 + 4) + 4 + x2.toNatClampNeg) (jk_10 (k := p0 + 4) (jk_6_3 hp0) g2) (by decide) (jj_E1 (jk_10 (k := p0 + 4) (jk_6_3 hp0) g2)) rfl rfl rfl (by omega) rfl (Nat.le_of_ble_eq_true rfl) dX6_copyFrom_95 ?_
      refine jj_iinc (x2 + 1) [(2, .int (x2 + 1)), (0, .ref (jj_ad g p0)), (1, .ref (jj_ad g p1))] dX6_copyFrom_98 2 rfl rfl (by decide) rfl ?_
      refine jj_goto 77 dX6_copyFrom_101 (by decide) ?_
      refine jj_sub [1, 2, 0] rfl ?_
      exact ih _ _ h
def wof_copyFrom (N : Nat) (p0 : Nat) (p1 : Nat) (μ : jj_M) : Option (jj_M) := if jj_cg 0 0 8 8 8 then (some (jj_uc μ (p0 + 1) (va_cpy (μ (p1 + 1)) (μ (p0 + 1)) (Int32.toNatClampNeg 0) (Int32.toNatClampNeg 0) (Int32.toNatClampNeg 8)))).bind fun m2 => if jj_cg 0 0 64 64 64 then (some (jj_uc m2 (p0 + 2) (va_cpy (m2 (p1 + 2)) (m2 (p0 + 2)) (Int32.toNatClampNeg 0) (Int32.toNatClampNeg 0) (Int32.toNatClampNeg 64)))).bind fun m4 => if jj_cg 0 0 64 64 64 then (some (jj_uc m4 (p0 + 3) (va_cpy (m4 (p1 + 3)) (m4 (p0 + 3)) (Int32.toNatClampNeg 0) (Int32.toNatClampNeg 0) (Int32.toNatClampNeg 64)))).bind fun m6 => if jj_cg 0 0 50 50 50 then (some (jj_uc m6 (p0 + 6) (va_cpy (m6 (p1 + 6)) (m6 (p0 + 6)) (Int32.toNatClampNeg 0) (Int32.toNatClampNeg 0) (Int32.toNatClampNeg 50)))).bind fun m8 => if jj_cg 0 0 20 20 20 then (some (jj_uc m8 (p0 + 7) (va_cpy (m8 (p1 + 7)) (m8 (p0 + 7)) (Int32.toNatClampNeg 0) (Int32.toNatClampNeg 0) (Int32.toNatClampNeg 20)))).bind fun m10 => wof_copyFrom_L77 N p0 p1 N 0 m10 else none else none else none else none else none
set_option maxRecDepth 100000 in
theorem c_wof_copyFrom {g : jj_G} (d : Nat) {N : Nat} {p0 : Nat} {p1 : Nat} {μ : jj_M} {μ' : jj_M}  (hp0 : jj_kd p0 = 6) (hp1 : jj_kd p1 = 6) (h : wof_copyFrom N p0 p1 μ = some μ') : jj_N g yX6_copyFrom cX6_copyFrom 3 none (d + 2) [.ref (jj_ad g p0), .ref (jj_ad g p1)] μ none μ' := by
  refine jj_N_of jn_6 (Nat.le_of_ble_eq_true rfl) (fun X hF => ?_)
  unfold wof_copyFrom at h
  refine jj_sub (own := RX6) (lv2 := [(0, .ref (jj_ad g p0)), (1, .ref (jj_ad g p1))]) [0, 1] rfl ?_
  refine jj_aload_n dX6_copyFrom_0 1 rfl ?_
  refine jg_6_0 (k := p1) hp1 lk_6_9 dX6_copyFrom_1 ?_
  refine jj_iconst (0) dX6_copyFrom_4 rfl ?_
  refine jj_aload_n dX6_copyFrom_5 0 rfl ?_
  refine jg_6_0 (k := p0) hp0 lk_6_9 dX6_copyFrom_6 ?_
  refine jj_iconst (0) dX6_copyFrom_9 rfl ?_
  refine jj_bipush (8) dX6_copyFrom_10 rfl ?_
  obtain ⟨g1, h⟩ := jj_ge h
  refine jj_copy (k0 := p1 + 1) (k1 := p0 + 1) (n0 := 8) (n1 := 8) (jk_6_0 hp1) (jk_6_0 hp0) g1 (by omega) (Nat.le_of_ble_eq_true rfl) lk_6_56 dX6_copyFrom_12 ?_
  obtain ⟨m2, em2, h⟩ := jj_be h
  refine jj_mu em2 ?_
  refine jj_aload_n dX6_copyFrom_15 1 rfl ?_
  refine jg_6_1 (k := p1) hp1 lk_6_15 dX6_copyFrom_16 ?_
  refine jj_iconst (0) dX6_copyFrom_19 rfl ?_
  refine jj_aload_n dX6_copyFrom_20 0 rfl ?_
  refine jg_6_1 (k := p0) hp0 lk_6_15 dX6_copyFrom_21 ?_
  refine jj_iconst (0) dX6_copyFrom_24 rfl ?_
  refine jj_bipush (64) dX6_copyFrom_25 rfl ?_
  obtain ⟨g3, h⟩ := jj_ge h
  refine jj_copy (k0 := p1 + 2) (k1 := p0 + 2) (n0 := 64) (n1 := 64) (jk_6_1 hp1) (jk_6_1 hp0) g3 (by omega) (Nat.le_of_ble_eq_true rfl) lk_6_56 dX6_copyFrom_27 ?_
  obtain ⟨m4, em4, h⟩ := jj_be h
  refine jj_mu em4 ?_
  refine jj_aload_n dX6_copyFrom_30 1 rfl ?_
  refine jg_6_2 (k := p1) hp1 lk_6_18 dX6_copyFrom_31 ?_
  refine jj_iconst (0) dX6_copyFrom_34 rfl ?_
  refine jj_aload_n dX6_copyFrom_35 0 rfl ?_
  refine jg_6_2 (k := p0) hp0 lk_6_18 dX6_copyFrom_36 ?_
  refine jj_iconst (0) dX6_copyFrom_39 rfl ?_
  refine jj_bipush (64) dX6_copyFrom_40 rfl ?_
  obtain ⟨g5, h⟩ := jj_ge h
  refine jj_copy (k0 := p1 + 3) (k1 := p0 + 3) (n0 := 64) (n1 := 64) (jk_6_2 hp1) (jk_6_2 hp0) g5 (by omega) (Nat.le_of_ble_eq_true rfl) lk_6_56 dX6_copyFrom_42 ?_
  obtain ⟨m6, em6, h⟩ := jj_be h
  refine jj_mu em6 ?_
  refine jj_aload_n dX6_copyFrom_45 1 rfl ?_
  refine jg_6_5 (k := p1) hp1 lk_6_36 dX6_copyFrom_46 ?_
  refine jj_iconst (0) dX6_copyFrom_49 rfl ?_
  refine jj_aload_n dX6_copyFrom_50 0 rfl ?_
  refine jg_6_5 (k := p0) hp0 lk_6_36 dX6_copyFrom_51 ?_
  refine jj_iconst (0) dX6_copyFrom_54 rfl ?_
  refine jj_bipush (50) dX6_copyFrom_55 rfl ?_
  obtain ⟨g7, h⟩ := jj_ge h
  refine jj_copy (k0 := p1 + 6) (k1 := p0 + 6) (n0 := 50) (n1 := 50) (jk_6_5 hp1) (jk_6_5 hp0) g7 (by omega) (Nat.le_of_ble_eq_true rfl) lk_6_56 dX6_copyFrom_57 ?_
  obtain ⟨m8, em8, h⟩ := jj_be h
  refine jj_mu em8 ?_
  refine jj_aload_n dX6_copyFrom_60 1 rfl ?_
  refine jg_6_6 (k := p1) hp1 lk_6_39 dX6_copyFrom_61 ?_
  refine jj_iconst (0) dX6_copyFrom_64 rfl ?_
  refine jj_aload_n dX6_copyFrom_65 0 rfl ?_
  refine jg_6_6 (k := p0) hp0 lk_6_39 dX6_copyFrom_66 ?_
  refine jj_iconst (0) dX6_copyFrom_69 rfl ?_
  refine jj_bipush (20) dX6_copyFrom_70 rfl ?_
  obtain ⟨g9, h⟩ := jj_ge h
  refine jj_copy (k0 := p1 + 7) (k1 := p0 + 7) (n0 := 20) (n1 := 20) (jk_6_6 hp1) (jk_6_6 hp0) g9 (by omega) (Nat.le_of_ble_eq_true rfl) lk_6_56 dX6_copyFrom_72 ?_
  obtain ⟨m10, em10, h⟩ := jj_be h
  refine jj_mu em10 ?_
  refine jj_iconst (0) dX6_copyFrom_75 rfl ?_
  refine jj_istore_n [(2, .int 0), (0, .ref (jj_ad g p0)), (1, .ref (jj_ad g p1))] dX6_copyFrom_76 (by decide) rfl ?_
  refine jj_sub [1, 2, 0] rfl ?_
  exact t_wof_copyFrom_L77 d  hp0 hp1 hF  _ _ _ h
def wnf_image (N : Nat)  (μ : jj_M) : Option (Int32 × jj_M) := (wof_copyFrom N 21 1 μ).bind fun q1 => some (((jj_u q1 0 7 ((q1 0 7) + 1)) 0 7, jj_u q1 0 7 ((q1 0 7) + 1)))
set_option maxRecDepth 100000 in
theorem c_wnf_image {g : jj_G} (d : Nat) {N : Nat}  {μ : jj_M} {r : Int32} {μ' : jj_M}   (h : wnf_image N μ = some (r, μ')) : jj_N g yX7_image cX7_image 1 (some .int) (d + 3) [.ref (jj_ad g 0)] μ (some (.int r)) μ' := by
  refine jj_N_of jn_7 (Nat.le_of_ble_eq_true rfl) (fun X hF => ?_)
  unfold wnf_image at h
  refine jj_sub (own := RX7) (lv2 := [(0, .ref (jj_ad g 0))]) [0] rfl ?_
  refine jj_aload_n dX7_image_0 0 rfl ?_
  refine jg_7_1 (k := 0) rfl lk_7_16 dX7_image_1 ?_
  show jj_V g X _ _ _ _ _ _ (.ref (jj_ad g 21) :: _) _
  refine jj_aload_n dX7_image_4 0 rfl ?_
  refine jg_7_0 (k := 0) rfl lk_7_10 dX7_image_5 ?_
  show jj_V g X _ _ _ _ _ _ (.ref (jj_ad g 1) :: _) _
  obtain ⟨q1, e1, h⟩ := jj_be h
  refine jj_callVv [.ref (jj_ad g 1)] [] (c_wof_copyFrom (d + 0) rfl rfl e1) jm_wof_copyFrom lk_7_291 (b := 21) rfl (by decide) (jj_E6 rfl) rfl rfl rfl (by omega) rfl (Nat.le_of_ble_eq_true rfl) dX7_image_8 ?_
  refine jj_aload_n dX7_image_11 0 rfl ?_
  refine jj_dup dX7_image_12 rfl ?_
  refine jg_7_7 (k := 0) rfl lk_7_295 dX7_image_13 ?_
  refine jj_iconst (1) dX7_image_16 rfl ?_
  refine jj_iadd dX7_image_17 ?_
  refine jp_7_7 (k := 0) rfl lk_7_295 dX7_image_18 ?_
  refine jj_aload_n dX7_image_21 0 rfl ?_
  refine jg_7_7 (k := 0) rfl lk_7_295 dX7_image_22 ?_
  exact jj_iret2 hF dX7_image_25 (Option.some.inj h)
def wnf_restore (N : Nat)  (μ : jj_M) : Option (Int32 × jj_M) := if (μ 0 7) = 0 then (wnf_refuse 2 μ).bind fun q3 => some ((q3.1, q3.2)) else (wof_copyFrom N 1 21 μ).bind fun q2 => some ((q2 1 9, q2))
set_option maxRecDepth 100000 in
theorem c_wnf_restore {g : jj_G} (d : Nat) {N : Nat}  {μ : jj_M} {r : Int32} {μ' : jj_M}   (h : wnf_restore N μ = some (r, μ')) : jj_N g yX7_restore cX7_restore 1 (some .int) (d + 3) [.ref (jj_ad g 0)] μ (some (.int r)) μ' := by
  refine jj_N_of jn_7 (Nat.le_of_ble_eq_true rfl) (fun X hF => ?_)
  unfold wnf_restore at h
  refine jj_sub (own := RX7) (lv2 := [(0, .ref (jj_ad g 0))]) [0] rfl ?_
  refine jj_aload_n dX7_restore_0 0 rfl ?_
  refine jg_7_7 (k := 0) rfl lk_7_295 dX7_restore_1 ?_
  refine jj_if_ne 13 dX7_restore_4 (by decide) (fun c1 => ?_) (fun c1 => ?_)
  · replace h := (if_neg c1).symm.trans h
    refine jj_aload_n dX7_restore_13 0 rfl ?_
    refine jg_7_0 (k := 0) rfl lk_7_10 dX7_restore_14 ?_
    show jj_V g X _ _ _ _ _ _ (.ref (jj_ad g 1) :: _) _
    refine jj_aload_n dX7_restore_17 0 rfl ?_
    refine jg_7_1 (k := 0) rfl lk_7_16 dX7_restore_18 ?_
    show jj_V g X _ _ _ _ _ _ (.ref (jj_ad g 21) :: _) _
    obtain ⟨q2, e2, h⟩ := jj_be h
    refine jj_callVv [.ref (jj_ad g 21)] [] (c_wof_copyFrom (d + 0) rfl rfl e2) jm_wof_copyFrom lk_7_291 (b := 1) rfl (by decide) (jj_E6 rfl) rfl rfl rfl (by omega) rfl (Nat.le_of_ble_eq_true rfl) dX7_restore_21 ?_
    refine jj_aload_n dX7_restore_24 0 rfl ?_
    refine jg_7_0 (k := 0) rfl lk_7_10 dX7_restore_25 ?_
    show jj_V g X _ _ _ _ _ _ (.ref (jj_ad g 1) :: _) _
    refine jg_6_9 (k := 1) rfl lk_7_174 dX7_restore_28 ?_
    exact jj_iret2 hF dX7_restore_31 (Option.some.inj h)
  · replace h := (if_pos c1).symm.trans h
    refine jj_aload_n dX7_restore_7 0 rfl ?_
    refine jj_iconst (2) dX7_restore_8 rfl ?_
    obtain ⟨q3, e3, h⟩ := jj_be h
    refine jj_callVi [.int 2] [] (c_wnf_refuse (d + 2)  e3) jm_wnf_refuse lk_7_59 (b := 0) rfl (by decide) (jj_E7 rfl) rfl rfl rfl (by omega) rfl (Nat.le_of_ble_eq_true rfl) dX7_restore_9 ?_
    exact jj_iret2 hF dX7_restore_12 (Option.some.inj h)
def wnf_tell  (x1 : Int32) (μ : jj_M) : Option (Int32 × jj_M) := if (μ 1 12) < 20 then if jj_i (μ 1 12) 20 then (some (jj_u (jj_u μ 8 (μ 1 12).toNatClampNeg x1) 1 12 (((jj_u μ 8 (μ 1 12).toNatClampNeg x1) 1 12) + 1))).bind fun m3 => some ((m3 1 12, m3)) else none else (wnf_refuse 4 μ).bind fun q4 => some ((q4.1, q4.2))
set_option maxRecDepth 100000 in
theorem c_wnf_tell {g : jj_G} (d : Nat)  {x1 : Int32} {μ : jj_M} {r : Int32} {μ' : jj_M}   (h : wnf_tell x1 μ = some (r, μ')) : jj_N g yX7_tell cX7_tell 2 (some .int) (d + 1) [.ref (jj_ad g 0), .int x1] μ (some (.int r)) μ' := by
  refine jj_N_of jn_7 (Nat.le_of_ble_eq_true rfl) (fun X hF => ?_)
  unfold wnf_tell at h
  refine jj_sub (own := RX7) (lv2 := [(0, .ref (jj_ad g 0)), (1, .int x1)]) [0, 1] rfl ?_
  refine jj_aload_n dX7_tell_0 0 rfl ?_
  refine jg_7_0 (k := 0) rfl lk_7_10 dX7_tell_1 ?_
  show jj_V g X _ _ _ _ _ _ (.ref (jj_ad g 1) :: _) _
  refine jg_6_12 (k := 1) rfl lk_7_298 dX7_tell_4 ?_
  refine jj_bipush (20) dX7_tell_7 rfl ?_
  refine jj_icmp_lt 18 dX7_tell_9 (by decide) (fun c1 => ?_) (fun c1 => ?_)
  · replace h := (if_pos c1).symm.trans h
    refine jj_aload_n dX7_tell_18 0 rfl ?_
    refine jg_7_0 (k := 0) rfl lk_7_10 dX7_tell_19 ?_
    show jj_V g X _ _ _ _ _ _ (.ref (jj_ad g 1) :: _) _
    refine jg_6_6 (k := 1) rfl lk_7_301 dX7_tell_22 ?_
    show jj_V g X _ _ _ _ _ _ (.ref (jj_ad g 8) :: _) _
    refine jj_aload_n dX7_tell_25 0 rfl ?_
    refine jg_7_0 (k := 0) rfl lk_7_10 dX7_tell_26 ?_
    show jj_V g X _ _ _ _ _ _ (.ref (jj_ad g 1) :: _) _
    refine jg_6_12 (k := 1) rfl lk_7_298 dX7_tell_29 ?_
    refine jj_iload_n dX7_tell_32 1 rfl ?_
    obtain ⟨g2, h⟩ := jj_ge h
    refine jj_iastore (k := 8) (n := 20) rfl g2 dX7_tell_33 ?_
    refine jj_aload_n dX7_tell_34 0 rfl ?_
    refine jg_7_0 (k := 0) rfl lk_7_10 dX7_tell_35 ?_
    show jj_V g X _ _ _ _ _ _ (.ref (jj_ad g 1) :: _) _
    refine jj_dup dX7_tell_38 rfl ?_
    refine jg_6_12 (k := 1) rfl lk_7_298 dX7_tell_39 ?_
    refine jj_iconst (1) dX7_tell_42 rfl ?_
    refine jj_iadd dX7_tell_43 ?_
    refine jp_6_12 (k := 1) rfl lk_7_298 dX7_tell_44 ?_
    obtain ⟨m3, em3, h⟩ := jj_be h
    refine jj_mu em3 ?_
    refine jj_aload_n dX7_tell_47 0 rfl ?_
    refine jg_7_0 (k := 0) rfl lk_7_10 dX7_tell_48 ?_
    show jj_V g X _ _ _ _ _ _ (.ref (jj_ad g 1) :: _) _
    refine jg_6_12 (k := 1) rfl lk_7_298 dX7_tell_51 ?_
    exact jj_iret2 hF dX7_tell_54 (Option.some.inj h)
  · replace h := (if_neg c1).symm.trans h
    refine jj_aload_n dX7_tell_12 0 rfl ?_
    refine jj_iconst (4) dX7_tell_13 rfl ?_
    obtain ⟨q4, e4, h⟩ := jj_be h
    refine jj_callVi [.int 4] [] (c_wnf_refuse (d + 0)  e4) jm_wnf_refuse lk_7_59 (b := 0) rfl (by decide) (jj_E7 rfl) rfl rfl rfl (by omega) rfl (Nat.le_of_ble_eq_true rfl) dX7_tell_14 ?_
    exact jj_iret2 hF dX7_tell_17 (Option.some.inj h)
def wnf_check_L4 (N : Nat)  (μ : jj_M) : Nat → Int32 → Int32 → Option (Int32 × jj_M)
  | 0, _, _ => none
  | n + 1, x1, x2 => if (μ 1 12) ≤ x2 then some ((x1, jj_u μ 1 12 0)) else if x1 = 0 then if jj_i x2 20 then (wof_deadBehind N 1 (x2 + 1) μ).bind fun q4 => if (μ 8 x2.toNatClampNeg) = q4 then wnf_check_L4 N μ n x1 (x2 + 1) else wnf_check_L4 N μ n (1 + x2) (x2 + 1) else none else some ((x1, jj_u μ 1 12 0))
set_option maxRecDepth 100000 in
theorem t_wnf_check_L4 {g : jj_G} (d : Nat) {N : Nat}  {μ : jj_M}  {r : Int32} {μ' : jj_M} {X : jj_X}   (hF : jj_F g (some .int) (some (.int r)) μ' X)  : ∀ (n : Nat) (x1 : Int32) (x2 : Int32), wnf_check_L4 N μ n x1 x2 = some (r, μ') → jj_V g X RX7 cX7_check 3 (d + 2) 4 [(0, .ref (jj_ad g 0)), (1, .int x1), (2, .int x2)] [] μ := by
  intro n
  induction n with
  | zero =>
    intro x1 x2 h
    exact (jj_no h).elim
  | succ n ih =>
    intro x1 x2 h
    rw [wnf_check_L4] at h
    refine jj_iload_n dX7_check_4 2 rfl ?_
    refine jj_aload_n dX7_check_5 0 rfl ?_
    refine jg_7_0 (k := 0) rfl lk_7_10 dX7_check_6 ?_
    show jj_V g X _ _ _ _ _ _ (.ref (jj_ad g 1) :: _) _
    refine jg_6_12 (k := 1) rfl lk_7_298 dX7_check_9 ?_
    refine jj_icmp_ge 51 dX7_check_12 (by decide) (fun c1 => ?_) (fun c1 => ?_)
    · replace h := (if_pos c1).symm.trans h
      refine jj_aload_n dX7_check_51 0 rfl ?_
      refine jg_7_0 (k := 0) rfl lk_7_10 dX7_check_52 ?_
      show jj_V g X _ _ _ _ _ _ (.ref (jj_ad g 1) :: _) _
      refine jj_iconst (0) dX7_check_55 rfl ?_
      refine jp_6_12 (k := 1) rfl lk_7_298 dX7_check_56 ?_
      refine jj_iload_n dX7_check_59 1 rfl ?_
      exact jj_iret2 hF dX7_check_60 (Option.some.inj h)
    · replace h := (if_neg c1).symm.trans h
      refine jj_iload_n dX7_check_15 1 rfl ?_
      refine jj_if_ne 51 dX7_check_16 (by decide) (fun c2 => ?_) (fun c2 => ?_)
      · replace h := (if_neg c2).symm.trans h
        refine jj_aload_n dX7_check_51 0 rfl ?_
        refine jg_7_0 (k := 0) rfl lk_7_10 dX7_check_52 ?_
        show jj_V g X _ _ _ _ _ _ (.ref (jj_ad g 1) :: _) _
        refine jj_iconst (0) dX7_check_55 rfl ?_
        refine jp_6_12 (k := 1) rfl lk_7_298 dX7_check_56 ?_
        refine jj_iload_n dX7_check_59 1 rfl ?_
        exact jj_iret2 hF dX7_check_60 (Option.some.inj h)
      · replace h := (if_pos c2).symm.trans h
        refine jj_aload_n dX7_check_19 0 rfl ?_
        refine jg_7_0 (k := 0) rfl lk_7_10 dX7_check_20 ?_
        show jj_V g X _ _ _ _ _ _ (.ref (jj_ad g 1) :: _) _
        refine jg_6_6 (k := 1) rfl lk_7_301 dX7_check_23 ?_
        show jj_V g X _ _ _ _ _ _ (.ref (jj_ad g 8) :: _) _
        refine jj_iload_n dX7_check_26 2 rfl ?_
        obtain ⟨g3, h⟩ := jj_ge h
        refine jj_iaload (k := 8) (n := 20) rfl g3 dX7_check_27 ?_
        refine jj_aload_n dX7_check_28 0 rfl ?_
        refine jg_7_0 (k := 0) rfl lk_7_10 dX7_check_29 ?_
        show jj_V g X _ _ _ _ _ _ (.ref (jj_ad g 1) :: _) _
        refine jj_iload_n dX7_check_32 2 rfl ?_
        refine jj_iconst (1) dX7_check_33 rfl ?_
        refine jj_iadd dX7_check_34 ?_
        obtain ⟨q4, e4, h⟩ := jj_be h
        refine jj_callVi [.int (x2 + 1)] [.int (μ 8 x2.toNatClampNeg)] (c_wof_deadBehind (d + 0) rfl e4) jm_wof_deadBehind lk_7_304 (b := 1) rfl (by decide) (jj_E6 rfl) rfl rfl rfl (by omega) rfl (Nat.le_of_ble_eq_true rfl) dX7_check_35 ?_
        refine jj_icmp_eq 45 dX7_check_38 (by decide) (fun c5 => ?_) (fun c5 => ?_)
        · replace h := (if_pos c5).symm.trans h
          refine jj_iinc (x2 + 1) [(2, .int (x2 + 1)), (0, .ref (jj_ad g 0)), (1, .int x1)] dX7_check_45 2 rfl rfl (by decide) rfl ?_
          refine jj_goto 4 dX7_check_48 (by decide) ?_
          refine jj_sub [1, 2, 0] rfl ?_
          exact ih _ _ h
        · replace h := (if_neg c5).symm.trans h
          refine jj_iconst (1) dX7_check_41 rfl ?_
          refine jj_iload_n dX7_check_42 2 rfl ?_
          refine jj_iadd dX7_check_43 ?_
          refine jj_istore_n [(1, .int (1 + x2)), (0, .ref (jj_ad g 0)), (2, .int x2)] dX7_check_44 (by decide) rfl ?_
          refine jj_iinc (x2 + 1) [(2, .int (x2 + 1)), (1, .int (1 + x2)), (0, .ref (jj_ad g 0))] dX7_check_45 2 rfl rfl (by decide) rfl ?_
          refine jj_goto 4 dX7_check_48 (by decide) ?_
          refine jj_sub [2, 1, 0] rfl ?_
          exact ih _ _ h
def wnf_check (N : Nat)  (μ : jj_M) : Option (Int32 × jj_M) := wnf_check_L4 N μ N 0 0
set_option maxRecDepth 100000 in
theorem c_wnf_check {g : jj_G} (d : Nat) {N : Nat}  {μ : jj_M} {r : Int32} {μ' : jj_M}   (h : wnf_check N μ = some (r, μ')) : jj_N g yX7_check cX7_check 3 (some .int) (d + 2) [.ref (jj_ad g 0)] μ (some (.int r)) μ' := by
  refine jj_N_of jn_7 (Nat.le_of_ble_eq_true rfl) (fun X hF => ?_)
  unfold wnf_check at h
  refine jj_sub (own := RX7) (lv2 := [(0, .ref (jj_ad g 0))]) [0] rfl ?_
  refine jj_iconst (0) dX7_check_0 rfl ?_
  refine jj_istore_n [(1, .int 0), (0, .ref (jj_ad g 0))] dX7_check_1 (by decide) rfl ?_
  refine jj_iconst (0) dX7_check_2 rfl ?_
  refine jj_istore_n [(2, .int 0), (1, .int 0), (0, .ref (jj_ad g 0))] dX7_check_3 (by decide) rfl ?_
  refine jj_sub [2, 1, 0] rfl ?_
  exact t_wnf_check_L4 d   hF  _ _ _ h
def wof_waterInAll_L4 (N : Nat)  (p0 : Nat) (μ : jj_M) : Nat → Int32 → Int32 → Option (Int32)
  | 0, _, _ => none
  | n + 1, x1, x2 => if 8 ≤ x2 then some x1 else if jj_i x2 8 then wof_waterInAll_L4 N p0 μ n (x1 + (μ (p0 + 1) x2.toNatClampNeg)) (x2 + 1) else none
set_option maxRecDepth 100000 in
theorem t_wof_waterInAll_L4 {g : jj_G} (d : Nat) {N : Nat}  {p0 : Nat} {μ : jj_M}  {r : Int32} {X : jj_X}  (hp0 : jj_kd p0 = 6) (hF : jj_F g (some .int) (some (.int r)) μ X)  : ∀ (n : Nat) (x1 : Int32) (x2 : Int32), wof_waterInAll_L4 N p0 μ n x1 x2 = some r → jj_V g X RX6 cX6_waterInAll 3 (d + 0) 4 [(0, .ref (jj_ad g p0)), (1, .int x1), (2, .int x2)] [] μ := by
  intro n
  induction n with
  | zero =>
    intro x1 x2 h
    exact (jj_no h).elim
  | succ n ih =>
    intro x1 x2 h
    rw [wof_waterInAll_L4] at h
    refine jj_iload_n dX6_waterInAll_4 2 rfl ?_
    refine jj_bipush (8) dX6_waterInAll_5 rfl ?_
    refine jj_icmp_ge 25 dX6_waterInAll_7 (by decide) (fun c1 => ?_) (fun c1 => ?_)
    · replace h := (if_pos c1).symm.trans h
      refine jj_iload_n dX6_waterInAll_25 1 rfl ?_
      exact jj_iret1 hF dX6_waterInAll_26 (Option.some.inj h)
    · replace h := (if_neg c1).symm.trans h
      refine jj_iload_n dX6_waterInAll_10 1 rfl ?_
      refine jj_aload_n dX6_waterInAll_11 0 rfl ?_
      refine jg_6_0 (k := p0) hp0 lk_6_9 dX6_waterInAll_12 ?_
      refine jj_iload_n dX6_waterInAll_15 2 rfl ?_
      obtain ⟨g2, h⟩ := jj_ge h
      refine jj_iaload (k := p0 + 1) (n := 8) (jk_6_0 hp0) g2 dX6_waterInAll_16 ?_
      refine jj_iadd dX6_waterInAll_17 ?_
      refine jj_istore_n [(1, .int (x1 + (μ (p0 + 1) x2.toNatClampNeg))), (0, .ref (jj_ad g p0)), (2, .int x2)] dX6_waterInAll_18 (by decide) rfl ?_
      refine jj_iinc (x2 + 1) [(2, .int (x2 + 1)), (1, .int (x1 + (μ (p0 + 1) x2.toNatClampNeg))), (0, .ref (jj_ad g p0))] dX6_waterInAll_19 2 rfl rfl (by decide) rfl ?_
      refine jj_goto 4 dX6_waterInAll_22 (by decide) ?_
      refine jj_sub [2, 1, 0] rfl ?_
      exact ih _ _ h
def wof_waterInAll (N : Nat) (p0 : Nat) (μ : jj_M) : Option (Int32) := wof_waterInAll_L4 N p0 μ N 0 0
set_option maxRecDepth 100000 in
theorem c_wof_waterInAll {g : jj_G} (d : Nat) {N : Nat} {p0 : Nat} {μ : jj_M} {r : Int32}  (hp0 : jj_kd p0 = 6) (h : wof_waterInAll N p0 μ = some r) : jj_N g yX6_waterInAll cX6_waterInAll 3 (some .int) (d + 0) [.ref (jj_ad g p0)] μ (some (.int r)) μ := by
  refine jj_N_of jn_6 (Nat.le_of_ble_eq_true rfl) (fun X hF => ?_)
  unfold wof_waterInAll at h
  refine jj_sub (own := RX6) (lv2 := [(0, .ref (jj_ad g p0))]) [0] rfl ?_
  refine jj_iconst (0) dX6_waterInAll_0 rfl ?_
  refine jj_istore_n [(1, .int 0), (0, .ref (jj_ad g p0))] dX6_waterInAll_1 (by decide) rfl ?_
  refine jj_iconst (0) dX6_waterInAll_2 rfl ?_
  refine jj_istore_n [(2, .int 0), (1, .int 0), (0, .ref (jj_ad g p0))] dX6_waterInAll_3 (by decide) rfl ?_
  refine jj_sub [2, 1, 0] rfl ?_
  exact t_wof_waterInAll_L4 d  hp0 hF  _ _ _ h
def wof_owedInAll_L4 (N : Nat)  (p0 : Nat) (μ : jj_M) : Nat → Int32 → Int32 → Option (Int32)
  | 0, _, _ => none
  | n + 1, x1, x2 => if 8 ≤ x2 then some x1 else (wof_debtOf N p0 x2 μ).bind fun q2 => wof_owedInAll_L4 N p0 μ n (x1 + q2) (x2 + 1)
set_option maxRecDepth 100000 in
theorem t_wof_owedInAll_L4 {g : jj_G} (d : Nat) {N : Nat}  {p0 : Nat} {μ : jj_M}  {r : Int32} {X : jj_X}  (hp0 : jj_kd p0 = 6) (hF : jj_F g (some .int) (some (.int r)) μ X)  : ∀ (n : Nat) (x1 : Int32) (x2 : Int32), wof_owedInAll_L4 N p0 μ n x1 x2 = some r → jj_V g X RX6 cX6_owedInAll 3 (d + 4) 4 [(0, .ref (jj_ad g p0)), (1, .int x1), (2, .int x2)] [] μ := by
  intro n
  induction n with
  | zero =>
    intro x1 x2 h
    exact (jj_no h).elim
  | succ n ih =>
    intro x1 x2 h
    rw [wof_owedInAll_L4] at h
    refine jj_iload_n dX6_owedInAll_4 2 rfl ?_
    refine jj_bipush (8) dX6_owedInAll_5 rfl ?_
    refine jj_icmp_ge 24 dX6_owedInAll_7 (by decide) (fun c1 => ?_) (fun c1 => ?_)
    · replace h := (if_pos c1).symm.trans h
      refine jj_iload_n dX6_owedInAll_24 1 rfl ?_
      exact jj_iret1 hF dX6_owedInAll_25 (Option.some.inj h)
    · replace h := (if_neg c1).symm.trans h
      refine jj_iload_n dX6_owedInAll_10 1 rfl ?_
      refine jj_aload_n dX6_owedInAll_11 0 rfl ?_
      refine jj_iload_n dX6_owedInAll_12 2 rfl ?_
      obtain ⟨q2, e2, h⟩ := jj_be h
      refine jj_callVi [.int x2] [.int x1] (c_wof_debtOf (d + 0) hp0 e2) jm_wof_debtOf lk_6_132 (b := p0) hp0 (by decide) (jj_E6 hp0) rfl rfl rfl (by omega) rfl (Nat.le_of_ble_eq_true rfl) dX6_owedInAll_13 ?_
      refine jj_iadd dX6_owedInAll_16 ?_
      refine jj_istore_n [(1, .int (x1 + q2)), (0, .ref (jj_ad g p0)), (2, .int x2)] dX6_owedInAll_17 (by decide) rfl ?_
      refine jj_iinc (x2 + 1) [(2, .int (x2 + 1)), (1, .int (x1 + q2)), (0, .ref (jj_ad g p0))] dX6_owedInAll_18 2 rfl rfl (by decide) rfl ?_
      refine jj_goto 4 dX6_owedInAll_21 (by decide) ?_
      refine jj_sub [2, 1, 0] rfl ?_
      exact ih _ _ h
def wof_owedInAll (N : Nat) (p0 : Nat) (μ : jj_M) : Option (Int32) := wof_owedInAll_L4 N p0 μ N 0 0
set_option maxRecDepth 100000 in
theorem c_wof_owedInAll {g : jj_G} (d : Nat) {N : Nat} {p0 : Nat} {μ : jj_M} {r : Int32}  (hp0 : jj_kd p0 = 6) (h : wof_owedInAll N p0 μ = some r) : jj_N g yX6_owedInAll cX6_owedInAll 3 (some .int) (d + 4) [.ref (jj_ad g p0)] μ (some (.int r)) μ := by
  refine jj_N_of jn_6 (Nat.le_of_ble_eq_true rfl) (fun X hF => ?_)
  unfold wof_owedInAll at h
  refine jj_sub (own := RX6) (lv2 := [(0, .ref (jj_ad g p0))]) [0] rfl ?_
  refine jj_iconst (0) dX6_owedInAll_0 rfl ?_
  refine jj_istore_n [(1, .int 0), (0, .ref (jj_ad g p0))] dX6_owedInAll_1 (by decide) rfl ?_
  refine jj_iconst (0) dX6_owedInAll_2 rfl ?_
  refine jj_istore_n [(2, .int 0), (1, .int 0), (0, .ref (jj_ad g p0))] dX6_owedInAll_3 (by decide) rfl ?_
  refine jj_sub [2, 1, 0] rfl ?_
  exact t_wof_owedInAll_L4 d  hp0 hF  _ _ _ h
def wnf_count (N : Nat) (x1 : Int32) (μ : jj_M) : Option (Int32 × jj_M) := if x1 = 0 then some ((μ 1 7, μ)) else if x1 = 1 then some ((μ 1 9, μ)) else if x1 = 2 then some ((μ 1 10, μ)) else if x1 = 3 then (wof_deadBehind N 1 0 μ).bind fun q5 => some ((q5, μ)) else if x1 = 4 then (wof_waterInAll N 1 μ).bind fun q7 => some ((q7, μ)) else if x1 = 5 then some ((μ 1 8, μ)) else if x1 = 6 then (wof_owedInAll N 1 μ).bind fun q10 => some ((q10, μ)) else if x1 = 7 then some ((μ 1 11, μ)) else if x1 = 8 then some ((μ 1 12, μ)) else if x1 = 9 then some ((μ 48 1, μ)) else if x1 = 10 then some ((μ 1 13, μ)) else (wnf_refuse 1 μ).bind fun q15 => some ((q15.1, q15.2))
set_option maxRecDepth 100000 in
theorem c_wnf_count {g : jj_G} (d : Nat) {N : Nat} {x1 : Int32} {μ : jj_M} {r : Int32} {μ' : jj_M}   (h : wnf_count N x1 μ = some (r, μ')) : jj_N g yX7_count cX7_count 2 (some .int) (d + 5) [.ref (jj_ad g 0), .int x1] μ (some (.int r)) μ' := by
  refine jj_N_of jn_7 (Nat.le_of_ble_eq_true rfl) (fun X hF => ?_)
  unfold wnf_count at h
  refine jj_sub (own := RX7) (lv2 := [(0, .ref (jj_ad g 0)), (1, .int x1)]) [0, 1] rfl ?_
  refine jj_iload_n dX7_count_0 1 rfl ?_
  by_cases c1 : x1 = 0
  · replace h := (if_pos c1).symm.trans h
    refine jj_tableIn 60 dX7_count_1 (by rw [c1]; decide) (by rw [c1]; decide) (by rw [c1]; rfl) (show (1 : Int) + 59 = (60 : Nat) by decide) ?_
    refine jj_aload_n dX7_count_60 0 rfl ?_
    refine jg_7_0 (k := 0) rfl lk_7_10 dX7_count_61 ?_
    show jj_V g X _ _ _ _ _ _ (.ref (jj_ad g 1) :: _) _
    refine jg_6_7 (k := 1) rfl lk_7_95 dX7_count_64 ?_
    exact jj_iret2 hF dX7_count_67 (Option.some.inj h)
  replace h := (if_neg c1).symm.trans h
  by_cases c2 : x1 = 1
  · replace h := (if_pos c2).symm.trans h
    refine jj_tableIn 68 dX7_count_1 (by rw [c2]; decide) (by rw [c2]; decide) (by rw [c2]; rfl) (show (1 : Int) + 67 = (68 : Nat) by decide) ?_
    refine jj_aload_n dX7_count_68 0 rfl ?_
    refine jg_7_0 (k := 0) rfl lk_7_10 dX7_count_69 ?_
    show jj_V g X _ _ _ _ _ _ (.ref (jj_ad g 1) :: _) _
    refine jg_6_9 (k := 1) rfl lk_7_174 dX7_count_72 ?_
    exact jj_iret2 hF dX7_count_75 (Option.some.inj h)
  replace h := (if_neg c2).symm.trans h
  by_cases c3 : x1 = 2
  · replace h := (if_pos c3).symm.trans h
    refine jj_tableIn 76 dX7_count_1 (by rw [c3]; decide) (by rw [c3]; decide) (by rw [c3]; rfl) (show (1 : Int) + 75 = (76 : Nat) by decide) ?_
    refine jj_aload_n dX7_count_76 0 rfl ?_
    refine jg_7_0 (k := 0) rfl lk_7_10 dX7_count_77 ?_
    show jj_V g X _ _ _ _ _ _ (.ref (jj_ad g 1) :: _) _
    refine jg_6_10 (k := 1) rfl lk_7_307 dX7_count_80 ?_
    exact jj_iret2 hF dX7_count_83 (Option.some.inj h)
  replace h := (if_neg c3).symm.trans h
  by_cases c4 : x1 = 3
  · replace h := (if_pos c4).symm.trans h
    refine jj_tableIn 84 dX7_count_1 (by rw [c4]; decide) (by rw [c4]; decide) (by rw [c4]; rfl) (show (1 : Int) + 83 = (84 : Nat) by decide) ?_
    refine jj_aload_n dX7_count_84 0 rfl ?_
    refine jg_7_0 (k := 0) rfl lk_7_10 dX7_count_85 ?_
    show jj_V g X _ _ _ _ _ _ (.ref (jj_ad g 1) :: _) _
    refine jj_iconst (0) dX7_count_88 rfl ?_
    obtain ⟨q5, e5, h⟩ := jj_be h
    refine jj_callVi [.int 0] [] (c_wof_deadBehind (d + 3) rfl e5) jm_wof_deadBehind lk_7_304 (b := 1) rfl (by decide) (jj_E6 rfl) rfl rfl rfl (by omega) rfl (Nat.le_of_ble_eq_true rfl) dX7_count_89 ?_
    exact jj_iret2 hF dX7_count_92 (Option.some.inj h)
  replace h := (if_neg c4).symm.trans h
  by_cases c6 : x1 = 4
  · replace h := (if_pos c6).symm.trans h
    refine jj_tableIn 93 dX7_count_1 (by rw [c6]; decide) (by rw [c6]; decide) (by rw [c6]; rfl) (show (1 : Int) + 92 = (93 : Nat) by decide) ?_
    refine jj_aload_n dX7_count_93 0 rfl ?_
    refine jg_7_0 (k := 0) rfl lk_7_10 dX7_count_94 ?_
    show jj_V g X _ _ _ _ _ _ (.ref (jj_ad g 1) :: _) _
    obtain ⟨q7, e7, h⟩ := jj_be h
    refine jj_callVi [] [] (c_wof_waterInAll (d + 4) rfl e7) jm_wof_waterInAll lk_7_310 (b := 1) rfl (by decide) (jj_E6 rfl) rfl rfl rfl (by omega) rfl (Nat.le_of_ble_eq_true rfl) dX7_count_97 ?_
    exact jj_iret2 hF dX7_count_100 (Option.some.inj h)
  replace h := (if_neg c6).symm.trans h
  by_cases c8 : x1 = 5
  · replace h := (if_pos c8).symm.trans h
    refine jj_tableIn 101 dX7_count_1 (by rw [c8]; decide) (by rw [c8]; decide) (by rw [c8]; rfl) (show (1 : Int) + 100 = (101 : Nat) by decide) ?_
    refine jj_aload_n dX7_count_101 0 rfl ?_
    refine jg_7_0 (k := 0) rfl lk_7_10 dX7_count_102 ?_
    show jj_V g X _ _ _ _ _ _ (.ref (jj_ad g 1) :: _) _
    refine jg_6_8 (k := 1) rfl lk_7_88 dX7_count_105 ?_
    exact jj_iret2 hF dX7_count_108 (Option.some.inj h)
  replace h := (if_neg c8).symm.trans h
  by_cases c9 : x1 = 6
  · replace h := (if_pos c9).symm.trans h
    refine jj_tableIn 109 dX7_count_1 (by rw [c9]; decide) (by rw [c9]; decide) (by rw [c9]; rfl) (show (1 : Int) + 108 = (109 : Nat) by decide) ?_
    refine jj_aload_n dX7_count_109 0 rfl ?_
    refine jg_7_0 (k := 0) rfl lk_7_10 dX7_count_110 ?_
    show jj_V g X _ _ _ _ _ _ (.ref (jj_ad g 1) :: _) _
    obtain ⟨q10, e10, h⟩ := jj_be h
    refine jj_callVi [] [] (c_wof_owedInAll (d + 0) rfl e10) jm_wof_owedInAll lk_7_313 (b := 1) rfl (by decide) (jj_E6 rfl) rfl rfl rfl (by omega) rfl (Nat.le_of_ble_eq_true rfl) dX7_count_113 ?_
    exact jj_iret2 hF dX7_count_116 (Option.some.inj h)
  replace h := (if_neg c9).symm.trans h
  by_cases c11 : x1 = 7
  · replace h := (if_pos c11).symm.trans h
    refine jj_tableIn 117 dX7_count_1 (by rw [c11]; decide) (by rw [c11]; decide) (by rw [c11]; rfl) (show (1 : Int) + 116 = (117 : Nat) by decide) ?_
    refine jj_aload_n dX7_count_117 0 rfl ?_
    refine jg_7_0 (k := 0) rfl lk_7_10 dX7_count_118 ?_
    show jj_V g X _ _ _ _ _ _ (.ref (jj_ad g 1) :: _) _
    refine jg_6_11 (k := 1) rfl lk_7_141 dX7_count_121 ?_
    exact jj_iret2 hF dX7_count_124 (Option.some.inj h)
  replace h := (if_neg c11).symm.trans h
  by_cases c12 : x1 = 8
  · replace h := (if_pos c12).symm.trans h
    refine jj_tableIn 125 dX7_count_1 (by rw [c12]; decide) (by rw [c12]; decide) (by rw [c12]; rfl) (show (1 : Int) + 124 = (125 : Nat) by decide) ?_
    refine jj_aload_n dX7_count_125 0 rfl ?_
    refine jg_7_0 (k := 0) rfl lk_7_10 dX7_count_126 ?_
    show jj_V g X _ _ _ _ _ _ (.ref (jj_ad g 1) :: _) _
    refine jg_6_12 (k := 1) rfl lk_7_298 dX7_count_129 ?_
    exact jj_iret2 hF dX7_count_132 (Option.some.inj h)
  replace h := (if_neg c12).symm.trans h
  by_cases c13 : x1 = 9
  · replace h := (if_pos c13).symm.trans h
    refine jj_tableIn 133 dX7_count_1 (by rw [c13]; decide) (by rw [c13]; decide) (by rw [c13]; rfl) (show (1 : Int) + 132 = (133 : Nat) by decide) ?_
    refine jj_aload_n dX7_count_133 0 rfl ?_
    refine jg_7_4 (k := 0) rfl lk_7_36 dX7_count_134 ?_
    show jj_V g X _ _ _ _ _ _ (.ref (jj_ad g 48) :: _) _
    refine jg_4_1 (k := 48) rfl lk_7_250 dX7_count_137 ?_
    exact jj_iret2 hF dX7_count_140 (Option.some.inj h)
  replace h := (if_neg c13).symm.trans h
  by_cases c14 : x1 = 10
  · replace h := (if_pos c14).symm.trans h
    refine jj_tableIn 141 dX7_count_1 (by rw [c14]; decide) (by rw [c14]; decide) (by rw [c14]; rfl) (show (1 : Int) + 140 = (141 : Nat) by decide) ?_
    refine jj_aload_n dX7_count_141 0 rfl ?_
    refine jg_7_0 (k := 0) rfl lk_7_10 dX7_count_142 ?_
    show jj_V g X _ _ _ _ _ _ (.ref (jj_ad g 1) :: _) _
    refine jg_6_13 (k := 1) rfl lk_7_243 dX7_count_145 ?_
    exact jj_iret2 hF dX7_count_148 (Option.some.inj h)
  replace h := (if_neg c14).symm.trans h
  have c1 : ¬ Int32.toInt x1 = 0 := fun w => c1 (Int32.toInt_inj.mp (w.trans (by decide)))
  have c2 : ¬ Int32.toInt x1 = 1 := fun w => c2 (Int32.toInt_inj.mp (w.trans (by decide)))
  have c3 : ¬ Int32.toInt x1 = 2 := fun w => c3 (Int32.toInt_inj.mp (w.trans (by decide)))
  have c4 : ¬ Int32.toInt x1 = 3 := fun w => c4 (Int32.toInt_inj.mp (w.trans (by decide)))
  have c6 : ¬ Int32.toInt x1 = 4 := fun w => c6 (Int32.toInt_inj.mp (w.trans (by decide)))
  have c8 : ¬ Int32.toInt x1 = 5 := fun w => c8 (Int32.toInt_inj.mp (w.trans (by decide)))
  have c9 : ¬ Int32.toInt x1 = 6 := fun w => c9 (Int32.toInt_inj.mp (w.trans (by decide)))
  have c11 : ¬ Int32.toInt x1 = 7 := fun w => c11 (Int32.toInt_inj.mp (w.trans (by decide)))
  have c12 : ¬ Int32.toInt x1 = 8 := fun w => c12 (Int32.toInt_inj.mp (w.trans (by decide)))
  have c13 : ¬ Int32.toInt x1 = 9 := fun w => c13 (Int32.toInt_inj.mp (w.trans (by decide)))
  have c14 : ¬ Int32.toInt x1 = 10 := fun w => c14 (Int32.toInt_inj.mp (w.trans (by decide)))
  refine jj_tableOut 149 dX7_count_1 (by omega) (by decide) ?_
  refine jj_aload_n dX7_count_149 0 rfl ?_
  refine jj_iconst (1) dX7_count_150 rfl ?_
  obtain ⟨q15, e15, h⟩ := jj_be h
  refine jj_callVi [.int 1] [] (c_wnf_refuse (d + 4)  e15) jm_wnf_refuse lk_7_59 (b := 0) rfl (by decide) (jj_E7 rfl) rfl rfl rfl (by omega) rfl (Nat.le_of_ble_eq_true rfl) dX7_count_151 ?_
  exact jj_iret2 hF dX7_count_154 (Option.some.inj h)
def wnf_told  (x1 : Int32) (μ : jj_M) : Option (Int32 × jj_M) := if (wnf_within x1 1 5) = 0 then (wnf_refuse 1 μ).bind fun q2 => some ((q2.1, q2.2)) else if jj_i x1 6 then some ((μ 59 x1.toNatClampNeg, μ)) else none
set_option maxRecDepth 100000 in
theorem c_wnf_told {g : jj_G} (d : Nat)  {x1 : Int32} {μ : jj_M} {r : Int32} {μ' : jj_M}   (h : wnf_told x1 μ = some (r, μ')) : jj_N g yX7_told cX7_told 2 (some .int) (d + 1) [.ref (jj_ad g 0), .int x1] μ (some (.int r)) μ' := by
  refine jj_N_of jn_7 (Nat.le_of_ble_eq_true rfl) (fun X hF => ?_)
  unfold wnf_told at h
  refine jj_sub (own := RX7) (lv2 := [(0, .ref (jj_ad g 0)), (1, .int x1)]) [0, 1] rfl ?_
  refine jj_iload_n dX7_told_0 1 rfl ?_
  refine jj_iconst (1) dX7_told_1 rfl ?_
  refine jj_iconst (5) dX7_told_2 rfl ?_
  refine jj_callSi [.int x1, .int 1, .int 5] [] (c_wnf_within (d + 0)  rfl) jm_wnf_within lk_7_55 rfl (by omega) rfl (Nat.le_of_ble_eq_true rfl) dX7_told_3 ?_
  refine jj_if_eq 18 dX7_told_6 (by decide) (fun c1 => ?_) (fun c1 => ?_)
  · replace h := (if_pos c1).symm.trans h
    refine jj_aload_n dX7_told_18 0 rfl ?_
    refine jj_iconst (1) dX7_told_19 rfl ?_
    obtain ⟨q2, e2, h⟩ := jj_be h
    refine jj_callVi [.int 1] [] (c_wnf_refuse (d + 0)  e2) jm_wnf_refuse lk_7_59 (b := 0) rfl (by decide) (jj_E7 rfl) rfl rfl rfl (by omega) rfl (Nat.le_of_ble_eq_true rfl) dX7_told_20 ?_
    exact jj_iret2 hF dX7_told_23 (Option.some.inj h)
  · replace h := (if_neg c1).symm.trans h
    refine jj_aload_n dX7_told_9 0 rfl ?_
    refine jg_7_6 (k := 0) rfl lk_7_46 dX7_told_10 ?_
    show jj_V g X _ _ _ _ _ _ (.ref (jj_ad g 59) :: _) _
    refine jj_iload_n dX7_told_13 1 rfl ?_
    obtain ⟨g3, h⟩ := jj_ge h
    refine jj_iaload (k := 59) (n := 6) rfl g3 dX7_told_14 ?_
    refine jj_goto 23 dX7_told_15 (by decide) ?_
    exact jj_iret2 hF dX7_told_23 (Option.some.inj h)
