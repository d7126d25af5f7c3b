def jj_Ls (g : jj_G) (X : jj_X) (b L : Nat) (xs : Nat → Int32) : Prop := va_X b L xs (jx_s X) (jx_s X).heap ∧ b < (jx_s X).heap.size ∧ ¬ jj_A g b
theorem jj_sld {g : jj_G} {X : jj_X} {own : String} {cc : ByteArray} {nL d pc : Nat} {lv : List (Nat × Value)} {st : List Value} {μ : jj_M} {b L : Nat} {xs : Nat → Int32} {i : Int32} (hL : jj_Ls g X b L xs) (hin : vp_in i L) (hdg : decode cc pc = .ok (.iaload, 1)) (kk : jj_V g X own cc nL d (pc + 1) lv (.int (xs i.toNatClampNeg) :: st) μ) : jj_V g X own cc nL d pc lv (.int i :: .ref b :: st) μ := fun hC H locs ls hP hD hS hl => va_sld hC.x hC.b hL.1 hL.2.1 hL.2.2 hS hin hdg (kk hC H locs ls hP hD hS hl)
theorem jj_slen {g : jj_G} {X : jj_X} {own : String} {cc : ByteArray} {nL d pc : Nat} {lv : List (Nat × Value)} {st : List Value} {μ : jj_M} {b L : Nat} {xs : Nat → Int32} (hL : jj_Ls g X b L xs) (hdg : decode cc pc = .ok (.arraylength, 1)) (kk : jj_V g X own cc nL d (pc + 1) lv (.int (nI L) :: st) μ) : jj_V g X own cc nL d pc lv (.ref b :: st) μ := fun hC H locs ls hP hD hS hl => va_slen hC.x hC.b hL.1 hL.2.1 hL.2.2 hS hdg (kk hC H locs ls hP hD hS hl)
def jj_LX (g : jj_G) (X : jj_X) (b : Nat) : Prop := jx_R X = room_1 ∧ jx_a X = #[Value.ref b] ∧ jx_Q X = lw_Z (jx_b X) #[Value.ref b] (jx_s X) ∧ jx_k X = 600000 ∧ jx_n X = 7302249 ∧ (jx_M X).sig.returnType = ret ∧ (jx_M X).locks = false ∧ ∀ q, jj_A g q → (jx_s X).heap.size ≤ q
theorem jj_lend {g : jj_G} {X : jj_X} {nL d pc b : Nat} {lv : List (Nat × Value)} {μ : jj_M} (hX : jj_LX g X b) (hdg : decode cL_law pc = .ok (.ireturn, 1)) : jj_V g X RL cL_law nL d pc lv [.int 1] μ := fun hC H locs ls hP hD hS hl => by
  obtain ⟨h1, h2, h3, h4, h5, h6, h7, h8⟩ := hX
  unfold jj_w
  rw [h1, h2, h3, h4, h5]
  exact va_forget (fun q hq => h8 _ (hS.2.2 q hq)) (lw_ret hC.x hC.b h6 h7 hdg)
theorem lw_in0 {i L : Nat} (hi : i + 6 ≤ L) (hM : L ≤ 3072) : vp_in (nI i) L := by
  rw [show nI i = nI (i + 0) from by rfl]
  exact vp_in_nI (by omega) (by omega)
theorem lw_in1 {i L : Nat} (hi : i + 6 ≤ L) (hM : L ≤ 3072) : vp_in (nI i + 1) L := by
  rw [show nI i + 1 = nI (i + 1) from by unfold nI; rw [Int32.ofNat_add]; rfl]
  exact vp_in_nI (by omega) (by omega)
theorem lw_in2 {i L : Nat} (hi : i + 6 ≤ L) (hM : L ≤ 3072) : vp_in (nI i + 2) L := by
  rw [show nI i + 2 = nI (i + 2) from by unfold nI; rw [Int32.ofNat_add]; rfl]
  exact vp_in_nI (by omega) (by omega)
theorem lw_in3 {i L : Nat} (hi : i + 6 ≤ L) (hM : L ≤ 3072) : vp_in (nI i + 3) L := by
  rw [show nI i + 3 = nI (i + 3) from by unfold nI; rw [Int32.ofNat_add]; rfl]
  exact vp_in_nI (by omega) (by omega)
theorem lw_in4 {i L : Nat} (hi : i + 6 ≤ L) (hM : L ≤ 3072) : vp_in (nI i + 4) L := by
  rw [show nI i + 4 = nI (i + 4) from by unfold nI; rw [Int32.ofNat_add]; rfl]
  exact vp_in_nI (by omega) (by omega)
theorem lw_in5 {i L : Nat} (hi : i + 6 ≤ L) (hM : L ≤ 3072) : vp_in (nI i + 5) L := by
  rw [show nI i + 5 = nI (i + 5) from by unfold nI; rw [Int32.ofNat_add]; rfl]
  exact vp_in_nI (by omega) (by omega)
theorem lkL_13 : Cond.methodLink RL 13 yX7_water ∈ jj_T := jj_in 366 (by decide +kernel) (by decide +kernel)
theorem lkL_17 : Cond.methodLink RL 17 yX8_water ∈ jj_T := jj_in 953 (by decide +kernel) (by decide +kernel)
theorem lkL_18 : Cond.methodLink RL 18 yX7_road ∈ jj_T := jj_in 381 (by decide +kernel) (by decide +kernel)
theorem lkL_22 : Cond.methodLink RL 22 yX8_road ∈ jj_T := jj_in 975 (by decide +kernel) (by decide +kernel)
theorem lkL_23 : Cond.methodLink RL 23 yX7_owe ∈ jj_T := jj_in 388 (by decide +kernel) (by decide +kernel)
theorem lkL_26 : Cond.methodLink RL 26 yX8_owe ∈ jj_T := jj_in 980 (by decide +kernel) (by decide +kernel)
theorem lkL_27 : Cond.methodLink RL 27 yX7_ofWell ∈ jj_T := jj_in 392 (by decide +kernel) (by decide +kernel)
theorem lkL_30 : Cond.methodLink RL 30 yX8_ofWell ∈ jj_T := jj_in 985 (by decide +kernel) (by decide +kernel)
theorem lkL_31 : Cond.methodLink RL 31 yX7_rain ∈ jj_T := jj_in 420 (by decide +kernel) (by decide +kernel)
theorem lkL_35 : Cond.methodLink RL 35 yX8_rain ∈ jj_T := jj_in 1013 (by decide +kernel) (by decide +kernel)
theorem lkL_36 : Cond.methodLink RL 36 yX7_person ∈ jj_T := jj_in 424 (by decide +kernel) (by decide +kernel)
theorem lkL_39 : Cond.methodLink RL 39 yX8_person ∈ jj_T := jj_in 1018 (by decide +kernel) (by decide +kernel)
theorem lkL_40 : Cond.methodLink RL 40 yX7_ofPerson ∈ jj_T := jj_in 435 (by decide +kernel) (by decide +kernel)
theorem lkL_43 : Cond.methodLink RL 43 yX8_ofPerson ∈ jj_T := jj_in 1027 (by decide +kernel) (by decide +kernel)
theorem lkL_44 : Cond.methodLink RL 44 yX7_become ∈ jj_T := jj_in 473 (by decide +kernel) (by decide +kernel)
theorem lkL_47 : Cond.methodLink RL 47 yX8_become ∈ jj_T := jj_in 1100 (by decide +kernel) (by decide +kernel)
theorem lkL_48 : Cond.methodLink RL 48 yX7_as ∈ jj_T := jj_in 477 (by decide +kernel) (by decide +kernel)
theorem lkL_51 : Cond.methodLink RL 51 yX8_as ∈ jj_T := jj_in 1104 (by decide +kernel) (by decide +kernel)
theorem lkL_52 : Cond.constantLong RL 52 (4294967295) ∈ jj_T := jj_in 1383 (by decide +kernel) (by decide +kernel)
theorem lkL_54 : Cond.methodLink RL 54 yX7_feed ∈ jj_T := jj_in 488 (by decide +kernel) (by decide +kernel)
theorem lkL_58 : Cond.methodLink RL 58 yX8_feed ∈ jj_T := jj_in 1113 (by decide +kernel) (by decide +kernel)
theorem lkL_59 : Cond.methodLink RL 59 yX7_text ∈ jj_T := jj_in 492 (by decide +kernel) (by decide +kernel)
theorem lkL_62 : Cond.methodLink RL 62 yX8_text ∈ jj_T := jj_in 1118 (by decide +kernel) (by decide +kernel)
theorem lkL_63 : Cond.methodLink RL 63 yX7_law ∈ jj_T := jj_in 546 (by decide +kernel) (by decide +kernel)
theorem lkL_67 : Cond.methodLink RL 67 yX8_law ∈ jj_T := jj_in 1122 (by decide +kernel) (by decide +kernel)
theorem lkL_68 : Cond.methodLink RL 68 yX7_drink ∈ jj_T := jj_in 551 (by decide +kernel) (by decide +kernel)
theorem lkL_71 : Cond.methodLink RL 71 yX8_drink ∈ jj_T := jj_in 1130 (by decide +kernel) (by decide +kernel)
theorem lkL_72 : Cond.methodLink RL 72 yX7_go ∈ jj_T := jj_in 559 (by decide +kernel) (by decide +kernel)
theorem lkL_75 : Cond.methodLink RL 75 yX8_go ∈ jj_T := jj_in 1139 (by decide +kernel) (by decide +kernel)
theorem lkL_76 : Cond.methodLink RL 76 yX7_pay ∈ jj_T := jj_in 573 (by decide +kernel) (by decide +kernel)
theorem lkL_79 : Cond.methodLink RL 79 yX8_pay ∈ jj_T := jj_in 1152 (by decide +kernel) (by decide +kernel)
theorem lkL_80 : Cond.methodLink RL 80 yX7_days ∈ jj_T := jj_in 577 (by decide +kernel) (by decide +kernel)
theorem lkL_83 : Cond.methodLink RL 83 yX8_days ∈ jj_T := jj_in 1156 (by decide +kernel) (by decide +kernel)
theorem lkL_84 : Cond.methodLink RL 84 yX7_loose ∈ jj_T := jj_in 609 (by decide +kernel) (by decide +kernel)
theorem lkL_87 : Cond.methodLink RL 87 yX8_loose ∈ jj_T := jj_in 1172 (by decide +kernel) (by decide +kernel)
theorem lkL_88 : Cond.methodLink RL 88 yX7_same ∈ jj_T := jj_in 613 (by decide +kernel) (by decide +kernel)
theorem lkL_92 : Cond.methodLink RL 92 yX8_same ∈ jj_T := jj_in 1181 (by decide +kernel) (by decide +kernel)
theorem lkL_93 : Cond.methodLink RL 93 yX7_soonest ∈ jj_T := jj_in 628 (by decide +kernel) (by decide +kernel)
theorem lkL_96 : Cond.methodLink RL 96 yX8_soonest ∈ jj_T := jj_in 1188 (by decide +kernel) (by decide +kernel)
theorem lkL_97 : Cond.methodLink RL 97 yX7_drinks ∈ jj_T := jj_in 689 (by decide +kernel) (by decide +kernel)
theorem lkL_100 : Cond.methodLink RL 100 yX8_drinks ∈ jj_T := jj_in 1221 (by decide +kernel) (by decide +kernel)
theorem lkL_101 : Cond.methodLink RL 101 yX7_reach ∈ jj_T := jj_in 693 (by decide +kernel) (by decide +kernel)
theorem lkL_104 : Cond.methodLink RL 104 yX8_reach ∈ jj_T := jj_in 1225 (by decide +kernel) (by decide +kernel)
theorem lkL_105 : Cond.methodLink RL 105 yX7_dry ∈ jj_T := jj_in 698 (by decide +kernel) (by decide +kernel)
theorem lkL_108 : Cond.methodLink RL 108 yX8_dry ∈ jj_T := jj_in 1233 (by decide +kernel) (by decide +kernel)
theorem lkL_109 : Cond.methodLink RL 109 yX7_net ∈ jj_T := jj_in 704 (by decide +kernel) (by decide +kernel)
theorem lkL_112 : Cond.methodLink RL 112 yX8_net ∈ jj_T := jj_in 1237 (by decide +kernel) (by decide +kernel)
theorem lkL_113 : Cond.methodLink RL 113 yX7_shortest ∈ jj_T := jj_in 716 (by decide +kernel) (by decide +kernel)
theorem lkL_116 : Cond.methodLink RL 116 yX8_shortest ∈ jj_T := jj_in 1241 (by decide +kernel) (by decide +kernel)
theorem lkL_117 : Cond.methodLink RL 117 yX7_walked ∈ jj_T := jj_in 725 (by decide +kernel) (by decide +kernel)
theorem lkL_120 : Cond.methodLink RL 120 yX8_walked ∈ jj_T := jj_in 1245 (by decide +kernel) (by decide +kernel)
theorem lkL_121 : Cond.methodLink RL 121 yX7_alive ∈ jj_T := jj_in 737 (by decide +kernel) (by decide +kernel)
theorem lkL_124 : Cond.methodLink RL 124 yX8_alive ∈ jj_T := jj_in 1257 (by decide +kernel) (by decide +kernel)
theorem lkL_125 : Cond.methodLink RL 125 yX7_grown ∈ jj_T := jj_in 744 (by decide +kernel) (by decide +kernel)
theorem lkL_128 : Cond.methodLink RL 128 yX8_grown ∈ jj_T := jj_in 1261 (by decide +kernel) (by decide +kernel)
theorem lkL_129 : Cond.methodLink RL 129 yX7_seed ∈ jj_T := jj_in 749 (by decide +kernel) (by decide +kernel)
theorem lkL_132 : Cond.methodLink RL 132 yX8_seed ∈ jj_T := jj_in 1266 (by decide +kernel) (by decide +kernel)
theorem lkL_133 : Cond.methodLink RL 133 yX7_voice ∈ jj_T := jj_in 753 (by decide +kernel) (by decide +kernel)
theorem lkL_136 : Cond.methodLink RL 136 yX8_voice ∈ jj_T := jj_in 1270 (by decide +kernel) (by decide +kernel)
theorem lkL_137 : Cond.methodLink RL 137 yX7_trace ∈ jj_T := jj_in 777 (by decide +kernel) (by decide +kernel)
theorem lkL_140 : Cond.methodLink RL 140 yX8_trace ∈ jj_T := jj_in 1318 (by decide +kernel) (by decide +kernel)
theorem lkL_141 : Cond.methodLink RL 141 yX7_sheet ∈ jj_T := jj_in 781 (by decide +kernel) (by decide +kernel)
theorem lkL_144 : Cond.methodLink RL 144 yX8_sheet ∈ jj_T := jj_in 1322 (by decide +kernel) (by decide +kernel)
theorem lkL_145 : Cond.methodLink RL 145 yX7_put ∈ jj_T := jj_in 790 (by decide +kernel) (by decide +kernel)
theorem lkL_148 : Cond.methodLink RL 148 yX8_put ∈ jj_T := jj_in 1326 (by decide +kernel) (by decide +kernel)
theorem lkL_149 : Cond.methodLink RL 149 yX7_move ∈ jj_T := jj_in 802 (by decide +kernel) (by decide +kernel)
theorem lkL_153 : Cond.methodLink RL 153 yX8_move ∈ jj_T := jj_in 1334 (by decide +kernel) (by decide +kernel)
theorem lkL_154 : Cond.methodLink RL 154 yX7_waters ∈ jj_T := jj_in 811 (by decide +kernel) (by decide +kernel)
theorem lkL_157 : Cond.methodLink RL 157 yX8_waters ∈ jj_T := jj_in 1338 (by decide +kernel) (by decide +kernel)
theorem lkL_158 : Cond.methodLink RL 158 yX7_judge ∈ jj_T := jj_in 820 (by decide +kernel) (by decide +kernel)
theorem lkL_161 : Cond.methodLink RL 161 yX8_judge ∈ jj_T := jj_in 1342 (by decide +kernel) (by decide +kernel)
theorem lkL_162 : Cond.methodLink RL 162 yX7_image ∈ jj_T := jj_in 828 (by decide +kernel) (by decide +kernel)
theorem lkL_165 : Cond.methodLink RL 165 yX8_image ∈ jj_T := jj_in 1346 (by decide +kernel) (by decide +kernel)
theorem lkL_166 : Cond.methodLink RL 166 yX7_restore ∈ jj_T := jj_in 842 (by decide +kernel) (by decide +kernel)
theorem lkL_169 : Cond.methodLink RL 169 yX8_restore ∈ jj_T := jj_in 1350 (by decide +kernel) (by decide +kernel)
theorem lkL_170 : Cond.methodLink RL 170 yX7_tell ∈ jj_T := jj_in 846 (by decide +kernel) (by decide +kernel)
theorem lkL_173 : Cond.methodLink RL 173 yX8_tell ∈ jj_T := jj_in 1354 (by decide +kernel) (by decide +kernel)
theorem lkL_174 : Cond.methodLink RL 174 yX7_check ∈ jj_T := jj_in 850 (by decide +kernel) (by decide +kernel)
theorem lkL_177 : Cond.methodLink RL 177 yX8_check ∈ jj_T := jj_in 1358 (by decide +kernel) (by decide +kernel)
theorem lkL_178 : Cond.methodLink RL 178 yX7_count ∈ jj_T := jj_in 854 (by decide +kernel) (by decide +kernel)
theorem lkL_181 : Cond.methodLink RL 181 yX8_count ∈ jj_T := jj_in 1370 (by decide +kernel) (by decide +kernel)
theorem lkL_182 : Cond.methodLink RL 182 yX7_told ∈ jj_T := jj_in 867 (by decide +kernel) (by decide +kernel)
theorem lkL_185 : Cond.methodLink RL 185 yX8_told ∈ jj_T := jj_in 1378 (by decide +kernel) (by decide +kernel)
set_option maxRecDepth 100000 in
theorem lc_0 {g : jj_G} {X : jj_X} {b L : Nat} {xs : Nat → Int32} (hL : jj_Ls g X b L xs) (d : Nat) {i : Nat} (hi : i + 6 ≤ L) (hM : L ≤ 3072) {μ : jj_M} (hI : jI μ) (kk : ∀ m2 : jj_M, jI m2 → jj_V g X RL cL_law 4 (d + 80) 1525 [(0, .ref b), (1, .ref (jj_ad g 0)), (2, .ref (jj_ad g 60)), (3, .int (nI i))] [] m2) : jj_V g X RL cL_law 4 (d + 80) 212 [(0, .ref b), (1, .ref (jj_ad g 0)), (2, .ref (jj_ad g 60)), (3, .int (nI i))] [] μ := by
  obtain ⟨r, μ1, μ2, h1, h2, h3⟩ := st_water hI (xs (nI i + 1).toNatClampNeg) (xs (nI i + 2).toNatClampNeg)
  refine jj_aload_n dL_law_212 1 rfl ?_
  refine jj_aload_n dL_law_213 0 rfl ?_
  refine jj_iload_n dL_law_214 3 rfl ?_
  refine jj_iconst (1) dL_law_215 rfl ?_
  refine jj_iadd dL_law_216 ?_
  refine jj_sld hL (lw_in1 hi hM) dL_law_217 ?_
  refine jj_aload_n dL_law_218 0 rfl ?_
  refine jj_iload_n dL_law_219 3 rfl ?_
  refine jj_iconst (2) dL_law_220 rfl ?_
  refine jj_iadd dL_law_221 ?_
  refine jj_sld hL (lw_in2 hi hM) dL_law_222 ?_
  refine jj_callVi [.int (xs (nI i + 1).toNatClampNeg), .int (xs (nI i + 2).toNatClampNeg)] [] (c_wnf_water (d + 77) h1) jm_wnf_water lkL_13 (b := 0) rfl (by decide) (jj_E7 rfl) rfl rfl rfl (by omega) rfl (Nat.le_of_ble_eq_true rfl) dL_law_223 ?_
  refine jj_aload_n dL_law_226 2 rfl ?_
  refine jj_aload_n dL_law_227 0 rfl ?_
  refine jj_iload_n dL_law_228 3 rfl ?_
  refine jj_iconst (1) dL_law_229 rfl ?_
  refine jj_iadd dL_law_230 ?_
  refine jj_sld hL (lw_in1 hi hM) dL_law_231 ?_
  refine jj_aload_n dL_law_232 0 rfl ?_
  refine jj_iload_n dL_law_233 3 rfl ?_
  refine jj_iconst (2) dL_law_234 rfl ?_
  refine jj_iadd dL_law_235 ?_
  refine jj_sld hL (lw_in2 hi hM) dL_law_236 ?_
  refine jj_callVi [.int (xs (nI i + 1).toNatClampNeg), .int (xs (nI i + 2).toNatClampNeg)] [.int r] (c_mdf_water (d + 77) h2) jm_mdf_water lkL_17 (b := 60) rfl (by decide) (jj_E8 rfl) rfl rfl rfl (by omega) rfl (Nat.le_of_ble_eq_true rfl) dL_law_237 ?_
  refine jj_icmp_eq 1525 dL_law_240 (by decide) (fun _ => ?_) (fun w => absurd rfl w)
  exact kk μ2 h3
set_option maxRecDepth 100000 in
theorem lc_1 {g : jj_G} {X : jj_X} {b L : Nat} {xs : Nat → Int32} (hL : jj_Ls g X b L xs) (d : Nat) {i : Nat} (hi : i + 6 ≤ L) (hM : L ≤ 3072) {μ : jj_M} (hI : jI μ) (kk : ∀ m2 : jj_M, jI m2 → jj_V g X RL cL_law 4 (d + 80) 1525 [(0, .ref b), (1, .ref (jj_ad g 0)), (2, .ref (jj_ad g 60)), (3, .int (nI i))] [] m2) : jj_V g X RL cL_law 4 (d + 80) 245 [(0, .ref b), (1, .ref (jj_ad g 0)), (2, .ref (jj_ad g 60)), (3, .int (nI i))] [] μ := by
  obtain ⟨r, μ1, μ2, h1, h2, h3⟩ := st_road hI (xs (nI i + 1).toNatClampNeg) (xs (nI i + 2).toNatClampNeg) (xs (nI i + 3).toNatClampNeg)
  refine jj_aload_n dL_law_245 1 rfl ?_
  refine jj_aload_n dL_law_246 0 rfl ?_
  refine jj_iload_n dL_law_247 3 rfl ?_
  refine jj_iconst (1) dL_law_248 rfl ?_
  refine jj_iadd dL_law_249 ?_
  refine jj_sld hL (lw_in1 hi hM) dL_law_250 ?_
  refine jj_aload_n dL_law_251 0 rfl ?_
  refine jj_iload_n dL_law_252 3 rfl ?_
  refine jj_iconst (2) dL_law_253 rfl ?_
  refine jj_iadd dL_law_254 ?_
  refine jj_sld hL (lw_in2 hi hM) dL_law_255 ?_
  refine jj_aload_n dL_law_256 0 rfl ?_
  refine jj_iload_n dL_law_257 3 rfl ?_
  refine jj_iconst (3) dL_law_258 rfl ?_
  refine jj_iadd dL_law_259 ?_
  refine jj_sld hL (lw_in3 hi hM) dL_law_260 ?_
  refine jj_callVi [.int (xs (nI i + 1).toNatClampNeg), .int (xs (nI i + 2).toNatClampNeg), .int (xs (nI i + 3).toNatClampNeg)] [] (c_wnf_road (d + 76) h1) jm_wnf_road lkL_18 (b := 0) rfl (by decide) (jj_E7 rfl) rfl rfl rfl (by omega) rfl (Nat.le_of_ble_eq_true rfl) dL_law_261 ?_
  refine jj_aload_n dL_law_264 2 rfl ?_
  refine jj_aload_n dL_law_265 0 rfl ?_
  refine jj_iload_n dL_law_266 3 rfl ?_
  refine jj_iconst (1) dL_law_267 rfl ?_
  refine jj_iadd dL_law_268 ?_
  refine jj_sld hL (lw_in1 hi hM) dL_law_269 ?_
  refine jj_aload_n dL_law_270 0 rfl ?_
  refine jj_iload_n dL_law_271 3 rfl ?_
  refine jj_iconst (2) dL_law_272 rfl ?_
  refine jj_iadd dL_law_273 ?_
  refine jj_sld hL (lw_in2 hi hM) dL_law_274 ?_
  refine jj_aload_n dL_law_275 0 rfl ?_
  refine jj_iload_n dL_law_276 3 rfl ?_
  refine jj_iconst (3) dL_law_277 rfl ?_
  refine jj_iadd dL_law_278 ?_
  refine jj_sld hL (lw_in3 hi hM) dL_law_279 ?_
  refine jj_callVi [.int (xs (nI i + 1).toNatClampNeg), .int (xs (nI i + 2).toNatClampNeg), .int (xs (nI i + 3).toNatClampNeg)] [.int r] (c_mdf_road (d + 77) h2) jm_mdf_road lkL_22 (b := 60) rfl (by decide) (jj_E8 rfl) rfl rfl rfl (by omega) rfl (Nat.le_of_ble_eq_true rfl) dL_law_280 ?_
  refine jj_icmp_eq 1525 dL_law_283 (by decide) (fun _ => ?_) (fun w => absurd rfl w)
  exact kk μ2 h3
set_option maxRecDepth 100000 in
theorem lc_2 {g : jj_G} {X : jj_X} {b L : Nat} {xs : Nat → Int32} (hL : jj_Ls g X b L xs) (d : Nat) {i : Nat} (hi : i + 6 ≤ L) (hM : L ≤ 3072) {μ : jj_M} (hI : jI μ) (kk : ∀ m2 : jj_M, jI m2 → jj_V g X RL cL_law 4 (d + 80) 1525 [(0, .ref b), (1, .ref (jj_ad g 0)), (2, .ref (jj_ad g 60)), (3, .int (nI i))] [] m2) : jj_V g X RL cL_law 4 (d + 80) 288 [(0, .ref b), (1, .ref (jj_ad g 0)), (2, .ref (jj_ad g 60)), (3, .int (nI i))] [] μ := by
  obtain ⟨r, μ1, μ2, h1, h2, h3⟩ := st_owe hI (xs (nI i + 1).toNatClampNeg) (xs (nI i + 2).toNatClampNeg) (xs (nI i + 3).toNatClampNeg)
  refine jj_aload_n dL_law_288 1 rfl ?_
  refine jj_aload_n dL_law_289 0 rfl ?_
  refine jj_iload_n dL_law_290 3 rfl ?_
  refine jj_iconst (1) dL_law_291 rfl ?_
  refine jj_iadd dL_law_292 ?_
  refine jj_sld hL (lw_in1 hi hM) dL_law_293 ?_
  refine jj_aload_n dL_law_294 0 rfl ?_
  refine jj_iload_n dL_law_295 3 rfl ?_
  refine jj_iconst (2) dL_law_296 rfl ?_
  refine jj_iadd dL_law_297 ?_
  refine jj_sld hL (lw_in2 hi hM) dL_law_298 ?_
  refine jj_aload_n dL_law_299 0 rfl ?_
  refine jj_iload_n dL_law_300 3 rfl ?_
  refine jj_iconst (3) dL_law_301 rfl ?_
  refine jj_iadd dL_law_302 ?_
  refine jj_sld hL (lw_in3 hi hM) dL_law_303 ?_
  refine jj_callVi [.int (xs (nI i + 1).toNatClampNeg), .int (xs (nI i + 2).toNatClampNeg), .int (xs (nI i + 3).toNatClampNeg)] [] (c_wnf_owe (d + 76) h1) jm_wnf_owe lkL_23 (b := 0) rfl (by decide) (jj_E7 rfl) rfl rfl rfl (by omega) rfl (Nat.le_of_ble_eq_true rfl) dL_law_304 ?_
  refine jj_aload_n dL_law_307 2 rfl ?_
  refine jj_aload_n dL_law_308 0 rfl ?_
  refine jj_iload_n dL_law_309 3 rfl ?_
  refine jj_iconst (1) dL_law_310 rfl ?_
  refine jj_iadd dL_law_311 ?_
  refine jj_sld hL (lw_in1 hi hM) dL_law_312 ?_
  refine jj_aload_n dL_law_313 0 rfl ?_
  refine jj_iload_n dL_law_314 3 rfl ?_
  refine jj_iconst (2) dL_law_315 rfl ?_
  refine jj_iadd dL_law_316 ?_
  refine jj_sld hL (lw_in2 hi hM) dL_law_317 ?_
  refine jj_aload_n dL_law_318 0 rfl ?_
  refine jj_iload_n dL_law_319 3 rfl ?_
  refine jj_iconst (3) dL_law_320 rfl ?_
  refine jj_iadd dL_law_321 ?_
  refine jj_sld hL (lw_in3 hi hM) dL_law_322 ?_
  refine jj_callVi [.int (xs (nI i + 1).toNatClampNeg), .int (xs (nI i + 2).toNatClampNeg), .int (xs (nI i + 3).toNatClampNeg)] [.int r] (c_mdf_owe (d + 77) h2) jm_mdf_owe lkL_26 (b := 60) rfl (by decide) (jj_E8 rfl) rfl rfl rfl (by omega) rfl (Nat.le_of_ble_eq_true rfl) dL_law_323 ?_
  refine jj_icmp_eq 1525 dL_law_326 (by decide) (fun _ => ?_) (fun w => absurd rfl w)
  exact kk μ2 h3
set_option maxRecDepth 100000 in
theorem lc_3 {g : jj_G} {X : jj_X} {b L : Nat} {xs : Nat → Int32} (hL : jj_Ls g X b L xs) (d : Nat) {i : Nat} (hi : i + 6 ≤ L) (hM : L ≤ 3072) {μ : jj_M} (hI : jI μ) (kk : ∀ m2 : jj_M, jI m2 → jj_V g X RL cL_law 4 (d + 80) 1525 [(0, .ref b), (1, .ref (jj_ad g 0)), (2, .ref (jj_ad g 60)), (3, .int (nI i))] [] m2) : jj_V g X RL cL_law 4 (d + 80) 331 [(0, .ref b), (1, .ref (jj_ad g 0)), (2, .ref (jj_ad g 60)), (3, .int (nI i))] [] μ := by
  obtain ⟨r, μ1, μ2, h1, h2, h3⟩ := st_ofWell hI (xs (nI i + 1).toNatClampNeg) (xs (nI i + 2).toNatClampNeg)
  refine jj_aload_n dL_law_331 1 rfl ?_
  refine jj_aload_n dL_law_332 0 rfl ?_
  refine jj_iload_n dL_law_333 3 rfl ?_
  refine jj_iconst (1) dL_law_334 rfl ?_
  refine jj_iadd dL_law_335 ?_
  refine jj_sld hL (lw_in1 hi hM) dL_law_336 ?_
  refine jj_aload_n dL_law_337 0 rfl ?_
  refine jj_iload_n dL_law_338 3 rfl ?_
  refine jj_iconst (2) dL_law_339 rfl ?_
  refine jj_iadd dL_law_340 ?_
  refine jj_sld hL (lw_in2 hi hM) dL_law_341 ?_
  refine jj_callVi [.int (xs (nI i + 1).toNatClampNeg), .int (xs (nI i + 2).toNatClampNeg)] [] (c_wnf_ofWell (d + 75) h1) jm_wnf_ofWell lkL_27 (b := 0) rfl (by decide) (jj_E7 rfl) rfl rfl rfl (by omega) rfl (Nat.le_of_ble_eq_true rfl) dL_law_342 ?_
  refine jj_aload_n dL_law_345 2 rfl ?_
  refine jj_aload_n dL_law_346 0 rfl ?_
  refine jj_iload_n dL_law_347 3 rfl ?_
  refine jj_iconst (1) dL_law_348 rfl ?_
  refine jj_iadd dL_law_349 ?_
  refine jj_sld hL (lw_in1 hi hM) dL_law_350 ?_
  refine jj_aload_n dL_law_351 0 rfl ?_
  refine jj_iload_n dL_law_352 3 rfl ?_
  refine jj_iconst (2) dL_law_353 rfl ?_
  refine jj_iadd dL_law_354 ?_
  refine jj_sld hL (lw_in2 hi hM) dL_law_355 ?_
  refine jj_callVi [.int (xs (nI i + 1).toNatClampNeg), .int (xs (nI i + 2).toNatClampNeg)] [.int r] (c_mdf_ofWell (d + 76) h2) jm_mdf_ofWell lkL_30 (b := 60) rfl (by decide) (jj_E8 rfl) rfl rfl rfl (by omega) rfl (Nat.le_of_ble_eq_true rfl) dL_law_356 ?_
  refine jj_icmp_eq 1525 dL_law_359 (by decide) (fun _ => ?_) (fun w => absurd rfl w)
  exact kk μ2 h3
set_option maxRecDepth 100000 in
theorem lc_4 {g : jj_G} {X : jj_X} {b L : Nat} {xs : Nat → Int32} (hL : jj_Ls g X b L xs) (d : Nat) {i : Nat} (hi : i + 6 ≤ L) (hM : L ≤ 3072) {μ : jj_M} (hI : jI μ) (kk : ∀ m2 : jj_M, jI m2 → jj_V g X RL cL_law 4 (d + 80) 1525 [(0, .ref b), (1, .ref (jj_ad g 0)), (2, .ref (jj_ad g 60)), (3, .int (nI i))] [] m2) : jj_V g X RL cL_law 4 (d + 80) 364 [(0, .ref b), (1, .ref (jj_ad g 0)), (2, .ref (jj_ad g 60)), (3, .int (nI i))] [] μ := by
  obtain ⟨r, μ1, μ2, h1, h2, h3⟩ := st_rain hI (xs (nI i + 1).toNatClampNeg)
  refine jj_aload_n dL_law_364 1 rfl ?_
  refine jj_aload_n dL_law_365 0 rfl ?_
  refine jj_iload_n dL_law_366 3 rfl ?_
  refine jj_iconst (1) dL_law_367 rfl ?_
  refine jj_iadd dL_law_368 ?_
  refine jj_sld hL (lw_in1 hi hM) dL_law_369 ?_
  refine jj_callVi [.int (xs (nI i + 1).toNatClampNeg)] [] (c_wnf_rain (d + 78) h1) jm_wnf_rain lkL_31 (b := 0) rfl (by decide) (jj_E7 rfl) rfl rfl rfl (by omega) rfl (Nat.le_of_ble_eq_true rfl) dL_law_370 ?_
  refine jj_aload_n dL_law_373 2 rfl ?_
  refine jj_aload_n dL_law_374 0 rfl ?_
  refine jj_iload_n dL_law_375 3 rfl ?_
  refine jj_iconst (1) dL_law_376 rfl ?_
  refine jj_iadd dL_law_377 ?_
  refine jj_sld hL (lw_in1 hi hM) dL_law_378 ?_
  refine jj_callVi [.int (xs (nI i + 1).toNatClampNeg)] [.int r] (c_mdf_rain (d + 78) h2) jm_mdf_rain lkL_35 (b := 60) rfl (by decide) (jj_E8 rfl) rfl rfl rfl (by omega) rfl (Nat.le_of_ble_eq_true rfl) dL_law_379 ?_
  refine jj_icmp_eq 1525 dL_law_382 (by decide) (fun _ => ?_) (fun w => absurd rfl w)
  exact kk μ2 h3
set_option maxRecDepth 100000 in
theorem lc_5 {g : jj_G} {X : jj_X} {b L : Nat} {xs : Nat → Int32} (hL : jj_Ls g X b L xs) (d : Nat) {i : Nat} (hi : i + 6 ≤ L) (hM : L ≤ 3072) {μ : jj_M} (hI : jI μ) (kk : ∀ m2 : jj_M, jI m2 → jj_V g X RL cL_law 4 (d + 80) 1525 [(0, .ref b), (1, .ref (jj_ad g 0)), (2, .ref (jj_ad g 60)), (3, .int (nI i))] [] m2) : jj_V g X RL cL_law 4 (d + 80) 387 [(0, .ref b), (1, .ref (jj_ad g 0)), (2, .ref (jj_ad g 60)), (3, .int (nI i))] [] μ := by
  obtain ⟨r, μ1, μ2, h1, h2, h3⟩ := st_person hI (xs (nI i + 1).toNatClampNeg) (xs (nI i + 2).toNatClampNeg)
  refine jj_aload_n dL_law_387 1 rfl ?_
  refine jj_aload_n dL_law_388 0 rfl ?_
  refine jj_iload_n dL_law_389 3 rfl ?_
  refine jj_iconst (1) dL_law_390 rfl ?_
  refine jj_iadd dL_law_391 ?_
  refine jj_sld hL (lw_in1 hi hM) dL_law_392 ?_
  refine jj_aload_n dL_law_393 0 rfl ?_
  refine jj_iload_n dL_law_394 3 rfl ?_
  refine jj_iconst (2) dL_law_395 rfl ?_
  refine jj_iadd dL_law_396 ?_
  refine jj_sld hL (lw_in2 hi hM) dL_law_397 ?_
  refine jj_callVi [.int (xs (nI i + 1).toNatClampNeg), .int (xs (nI i + 2).toNatClampNeg)] [] (c_wnf_person (d + 77) h1) jm_wnf_person lkL_36 (b := 0) rfl (by decide) (jj_E7 rfl) rfl rfl rfl (by omega) rfl (Nat.le_of_ble_eq_true rfl) dL_law_398 ?_
  refine jj_aload_n dL_law_401 2 rfl ?_
  refine jj_aload_n dL_law_402 0 rfl ?_
  refine jj_iload_n dL_law_403 3 rfl ?_
  refine jj_iconst (1) dL_law_404 rfl ?_
  refine jj_iadd dL_law_405 ?_
  refine jj_sld hL (lw_in1 hi hM) dL_law_406 ?_
  refine jj_aload_n dL_law_407 0 rfl ?_
  refine jj_iload_n dL_law_408 3 rfl ?_
  refine jj_iconst (2) dL_law_409 rfl ?_
  refine jj_iadd dL_law_410 ?_
  refine jj_sld hL (lw_in2 hi hM) dL_law_411 ?_
  refine jj_callVi [.int (xs (nI i + 1).toNatClampNeg), .int (xs (nI i + 2).toNatClampNeg)] [.int r] (c_mdf_person (d + 77) h2) jm_mdf_person lkL_39 (b := 60) rfl (by decide) (jj_E8 rfl) rfl rfl rfl (by omega) rfl (Nat.le_of_ble_eq_true rfl) dL_law_412 ?_
  refine jj_icmp_eq 1525 dL_law_415 (by decide) (fun _ => ?_) (fun w => absurd rfl w)
  exact kk μ2 h3
set_option maxRecDepth 100000 in
theorem lc_6 {g : jj_G} {X : jj_X} {b L : Nat} {xs : Nat → Int32} (hL : jj_Ls g X b L xs) (d : Nat) {i : Nat} (hi : i + 6 ≤ L) (hM : L ≤ 3072) {μ : jj_M} (hI : jI μ) (kk : ∀ m2 : jj_M, jI m2 → jj_V g X RL cL_law 4 (d + 80) 1525 [(0, .ref b), (1, .ref (jj_ad g 0)), (2, .ref (jj_ad g 60)), (3, .int (nI i))] [] m2) : jj_V g X RL cL_law 4 (d + 80) 420 [(0, .ref b), (1, .ref (jj_ad g 0)), (2, .ref (jj_ad g 60)), (3, .int (nI i))] [] μ := by
  obtain ⟨r, μ1, μ2, h1, h2, h3⟩ := st_ofPerson hI (xs (nI i + 1).toNatClampNeg) (xs (nI i + 2).toNatClampNeg)
  refine jj_aload_n dL_law_420 1 rfl ?_
  refine jj_aload_n dL_law_421 0 rfl ?_
  refine jj_iload_n dL_law_422 3 rfl ?_
  refine jj_iconst (1) dL_law_423 rfl ?_
  refine jj_iadd dL_law_424 ?_
  refine jj_sld hL (lw_in1 hi hM) dL_law_425 ?_
  refine jj_aload_n dL_law_426 0 rfl ?_
  refine jj_iload_n dL_law_427 3 rfl ?_
  refine jj_iconst (2) dL_law_428 rfl ?_
  refine jj_iadd dL_law_429 ?_
  refine jj_sld hL (lw_in2 hi hM) dL_law_430 ?_
  refine jj_callVi [.int (xs (nI i + 1).toNatClampNeg), .int (xs (nI i + 2).toNatClampNeg)] [] (c_wnf_ofPerson (d + 75) h1) jm_wnf_ofPerson lkL_40 (b := 0) rfl (by decide) (jj_E7 rfl) rfl rfl rfl (by omega) rfl (Nat.le_of_ble_eq_true rfl) dL_law_431 ?_
  refine jj_aload_n dL_law_434 2 rfl ?_
  refine jj_aload_n dL_law_435 0 rfl ?_
  refine jj_iload_n dL_law_436 3 rfl ?_
  refine jj_iconst (1) dL_law_437 rfl ?_
  refine jj_iadd dL_law_438 ?_
  refine jj_sld hL (lw_in1 hi hM) dL_law_439 ?_
  refine jj_aload_n dL_law_440 0 rfl ?_
  refine jj_iload_n dL_law_441 3 rfl ?_
  refine jj_iconst (2) dL_law_442 rfl ?_
  refine jj_iadd dL_law_443 ?_
  refine jj_sld hL (lw_in2 hi hM) dL_law_444 ?_
  refine jj_callVi [.int (xs (nI i + 1).toNatClampNeg), .int (xs (nI i + 2).toNatClampNeg)] [.int r] (c_mdf_ofPerson (d + 23) h2) jm_mdf_ofPerson lkL_43 (b := 60) rfl (by decide) (jj_E8 rfl) rfl rfl rfl (by omega) rfl (Nat.le_of_ble_eq_true rfl) dL_law_445 ?_
  refine jj_icmp_eq 1525 dL_law_448 (by decide) (fun _ => ?_) (fun w => absurd rfl w)
  exact kk μ2 h3
set_option maxRecDepth 100000 in
theorem lc_7 {g : jj_G} {X : jj_X} {b L : Nat} {xs : Nat → Int32} (hL : jj_Ls g X b L xs) (d : Nat) {i : Nat} (hi : i + 6 ≤ L) (hM : L ≤ 3072) {μ : jj_M} (hI : jI μ) (kk : ∀ m2 : jj_M, jI m2 → jj_V g X RL cL_law 4 (d + 80) 1525 [(0, .ref b), (1, .ref (jj_ad g 0)), (2, .ref (jj_ad g 60)), (3, .int (nI i))] [] m2) : jj_V g X RL cL_law 4 (d + 80) 453 [(0, .ref b), (1, .ref (jj_ad g 0)), (2, .ref (jj_ad g 60)), (3, .int (nI i))] [] μ := by
  obtain ⟨r, μ1, μ2, h1, h2, h3⟩ := st_become hI (xs (nI i + 1).toNatClampNeg) (xs (nI i + 2).toNatClampNeg)
  refine jj_aload_n dL_law_453 1 rfl ?_
  refine jj_aload_n dL_law_454 0 rfl ?_
  refine jj_iload_n dL_law_455 3 rfl ?_
  refine jj_iconst (1) dL_law_456 rfl ?_
  refine jj_iadd dL_law_457 ?_
  refine jj_sld hL (lw_in1 hi hM) dL_law_458 ?_
  refine jj_aload_n dL_law_459 0 rfl ?_
  refine jj_iload_n dL_law_460 3 rfl ?_
  refine jj_iconst (2) dL_law_461 rfl ?_
  refine jj_iadd dL_law_462 ?_
  refine jj_sld hL (lw_in2 hi hM) dL_law_463 ?_
  refine jj_callVi [.int (xs (nI i + 1).toNatClampNeg), .int (xs (nI i + 2).toNatClampNeg)] [] (c_wnf_become (d + 77) h1) jm_wnf_become lkL_44 (b := 0) rfl (by decide) (jj_E7 rfl) rfl rfl rfl (by omega) rfl (Nat.le_of_ble_eq_true rfl) dL_law_464 ?_
  refine jj_aload_n dL_law_467 2 rfl ?_
  refine jj_aload_n dL_law_468 0 rfl ?_
  refine jj_iload_n dL_law_469 3 rfl ?_
  refine jj_iconst (1) dL_law_470 rfl ?_
  refine jj_iadd dL_law_471 ?_
  refine jj_sld hL (lw_in1 hi hM) dL_law_472 ?_
  refine jj_aload_n dL_law_473 0 rfl ?_
  refine jj_iload_n dL_law_474 3 rfl ?_
  refine jj_iconst (2) dL_law_475 rfl ?_
  refine jj_iadd dL_law_476 ?_
  refine jj_sld hL (lw_in2 hi hM) dL_law_477 ?_
  refine jj_callVi [.int (xs (nI i + 1).toNatClampNeg), .int (xs (nI i + 2).toNatClampNeg)] [.int r] (c_mdf_become (d + 77) h2) jm_mdf_become lkL_47 (b := 60) rfl (by decide) (jj_E8 rfl) rfl rfl rfl (by omega) rfl (Nat.le_of_ble_eq_true rfl) dL_law_478 ?_
  refine jj_icmp_eq 1525 dL_law_481 (by decide) (fun _ => ?_) (fun w => absurd rfl w)
  exact kk μ2 h3
set_option maxRecDepth 100000 in
theorem lc_8 {g : jj_G} {X : jj_X} {b L : Nat} {xs : Nat → Int32} (hL : jj_Ls g X b L xs) (d : Nat) {i : Nat} (hi : i + 6 ≤ L) (hM : L ≤ 3072) {μ : jj_M} (hI : jI μ) (kk : ∀ m2 : jj_M, jI m2 → jj_V g X RL cL_law 4 (d + 80) 1525 [(0, .ref b), (1, .ref (jj_ad g 0)), (2, .ref (jj_ad g 60)), (3, .int (nI i))] [] m2) : jj_V g X RL cL_law 4 (d + 80) 486 [(0, .ref b), (1, .ref (jj_ad g 0)), (2, .ref (jj_ad g 60)), (3, .int (nI i))] [] μ := by
  obtain ⟨r, μ1, μ2, h1, h2, h3⟩ := st_as hI (xs (nI i + 1).toNatClampNeg) (xs (nI i + 2).toNatClampNeg)
  refine jj_aload_n dL_law_486 1 rfl ?_
  refine jj_aload_n dL_law_487 0 rfl ?_
  refine jj_iload_n dL_law_488 3 rfl ?_
  refine jj_iconst (1) dL_law_489 rfl ?_
  refine jj_iadd dL_law_490 ?_
  refine jj_sld hL (lw_in1 hi hM) dL_law_491 ?_
  refine jj_aload_n dL_law_492 0 rfl ?_
  refine jj_iload_n dL_law_493 3 rfl ?_
  refine jj_iconst (2) dL_law_494 rfl ?_
  refine jj_iadd dL_law_495 ?_
  refine jj_sld hL (lw_in2 hi hM) dL_law_496 ?_
  refine jj_callVi [.int (xs (nI i + 1).toNatClampNeg), .int (xs (nI i + 2).toNatClampNeg)] [] (c_wnf_as (d + 77) h1) jm_wnf_as lkL_48 (b := 0) rfl (by decide) (jj_E7 rfl) rfl rfl rfl (by omega) rfl (Nat.le_of_ble_eq_true rfl) dL_law_497 ?_
  refine jj_aload_n dL_law_500 2 rfl ?_
  refine jj_aload_n dL_law_501 0 rfl ?_
  refine jj_iload_n dL_law_502 3 rfl ?_
  refine jj_iconst (1) dL_law_503 rfl ?_
  refine jj_iadd dL_law_504 ?_
  refine jj_sld hL (lw_in1 hi hM) dL_law_505 ?_
  refine jj_aload_n dL_law_506 0 rfl ?_
  refine jj_iload_n dL_law_507 3 rfl ?_
  refine jj_iconst (2) dL_law_508 rfl ?_
  refine jj_iadd dL_law_509 ?_
  refine jj_sld hL (lw_in2 hi hM) dL_law_510 ?_
  refine jj_callVi [.int (xs (nI i + 1).toNatClampNeg), .int (xs (nI i + 2).toNatClampNeg)] [.int r] (c_mdf_as (d + 77) h2) jm_mdf_as lkL_51 (b := 60) rfl (by decide) (jj_E8 rfl) rfl rfl rfl (by omega) rfl (Nat.le_of_ble_eq_true rfl) dL_law_511 ?_
  refine jj_icmp_eq 1525 dL_law_514 (by decide) (fun _ => ?_) (fun w => absurd rfl w)
  exact kk μ2 h3
set_option maxRecDepth 100000 in
theorem lc_9 {g : jj_G} {X : jj_X} {b L : Nat} {xs : Nat → Int32} (hL : jj_Ls g X b L xs) (d : Nat) {i : Nat} (hi : i + 6 ≤ L) (hM : L ≤ 3072) {μ : jj_M} (hI : jI μ) (kk : ∀ m2 : jj_M, jI m2 → jj_V g X RL cL_law 4 (d + 80) 1525 [(0, .ref b), (1, .ref (jj_ad g 0)), (2, .ref (jj_ad g 60)), (3, .int (nI i))] [] m2) : jj_V g X RL cL_law 4 (d + 80) 519 [(0, .ref b), (1, .ref (jj_ad g 0)), (2, .ref (jj_ad g 60)), (3, .int (nI i))] [] μ := by
  obtain ⟨r, μ1, μ2, h1, h2, h3⟩ := st_feed hI (((Int32.toInt64 (xs (nI i + 1).toNatClampNeg)) <<< (Int32.toInt64 32 &&& 63)) ||| ((Int32.toInt64 (xs (nI i + 2).toNatClampNeg)) &&& 4294967295)) (xs (nI i + 3).toNatClampNeg)
  refine jj_aload_n dL_law_519 1 rfl ?_
  refine jj_aload_n dL_law_520 0 rfl ?_
  refine jj_iload_n dL_law_521 3 rfl ?_
  refine jj_iconst (1) dL_law_522 rfl ?_
  refine jj_iadd dL_law_523 ?_
  refine jj_sld hL (lw_in1 hi hM) dL_law_524 ?_
  refine jj_i2l dL_law_525 ?_
  refine jj_bipush (32) dL_law_526 rfl ?_
  refine jj_lshl dL_law_528 ?_
  refine jj_aload_n dL_law_529 0 rfl ?_
  refine jj_iload_n dL_law_530 3 rfl ?_
  refine jj_iconst (2) dL_law_531 rfl ?_
  refine jj_iadd dL_law_532 ?_
  refine jj_sld hL (lw_in2 hi hM) dL_law_533 ?_
  refine jj_i2l dL_law_534 ?_
  refine jj_ldc2_w (4294967295) lkL_52 dL_law_535 ?_
  refine jj_land dL_law_538 ?_
  refine jj_lor dL_law_539 ?_
  refine jj_aload_n dL_law_540 0 rfl ?_
  refine jj_iload_n dL_law_541 3 rfl ?_
  refine jj_iconst (3) dL_law_542 rfl ?_
  refine jj_iadd dL_law_543 ?_
  refine jj_sld hL (lw_in3 hi hM) dL_law_544 ?_
  refine jj_callVi [.long (((Int32.toInt64 (xs (nI i + 1).toNatClampNeg)) <<< (Int32.toInt64 32 &&& 63)) ||| ((Int32.toInt64 (xs (nI i + 2).toNatClampNeg)) &&& 4294967295)), .int (xs (nI i + 3).toNatClampNeg)] [] (c_wnf_feed (d + 78) h1) jm_wnf_feed lkL_54 (b := 0) rfl (by decide) (jj_E7 rfl) rfl rfl rfl (by omega) rfl (Nat.le_of_ble_eq_true rfl) dL_law_545 ?_
  refine jj_aload_n dL_law_548 2 rfl ?_
  refine jj_aload_n dL_law_549 0 rfl ?_
  refine jj_iload_n dL_law_550 3 rfl ?_
  refine jj_iconst (1) dL_law_551 rfl ?_
  refine jj_iadd dL_law_552 ?_
  refine jj_sld hL (lw_in1 hi hM) dL_law_553 ?_
  refine jj_i2l dL_law_554 ?_
  refine jj_bipush (32) dL_law_555 rfl ?_
  refine jj_lshl dL_law_557 ?_
  refine jj_aload_n dL_law_558 0 rfl ?_
  refine jj_iload_n dL_law_559 3 rfl ?_
  refine jj_iconst (2) dL_law_560 rfl ?_
  refine jj_iadd dL_law_561 ?_
  refine jj_sld hL (lw_in2 hi hM) dL_law_562 ?_
  refine jj_i2l dL_law_563 ?_
  refine jj_ldc2_w (4294967295) lkL_52 dL_law_564 ?_
  refine jj_land dL_law_567 ?_
  refine jj_lor dL_law_568 ?_
  refine jj_aload_n dL_law_569 0 rfl ?_
  refine jj_iload_n dL_law_570 3 rfl ?_
  refine jj_iconst (3) dL_law_571 rfl ?_
  refine jj_iadd dL_law_572 ?_
  refine jj_sld hL (lw_in3 hi hM) dL_law_573 ?_
  refine jj_callVi [.long (((Int32.toInt64 (xs (nI i + 1).toNatClampNeg)) <<< (Int32.toInt64 32 &&& 63)) ||| ((Int32.toInt64 (xs (nI i + 2).toNatClampNeg)) &&& 4294967295)), .int (xs (nI i + 3).toNatClampNeg)] [.int r] (c_mdf_feed (d + 78) h2) jm_mdf_feed lkL_58 (b := 60) rfl (by decide) (jj_E8 rfl) rfl rfl rfl (by omega) rfl (Nat.le_of_ble_eq_true rfl) dL_law_574 ?_
  refine jj_icmp_eq 1525 dL_law_577 (by decide) (fun _ => ?_) (fun w => absurd rfl w)
  exact kk μ2 h3
set_option maxRecDepth 100000 in
theorem lc_10 {g : jj_G} {X : jj_X} {b L : Nat} {xs : Nat → Int32} (hL : jj_Ls g X b L xs) (d : Nat) {i : Nat} (hi : i + 6 ≤ L) (hM : L ≤ 3072) {μ : jj_M} (hI : jI μ) (kk : ∀ m2 : jj_M, jI m2 → jj_V g X RL cL_law 4 (d + 80) 1525 [(0, .ref b), (1, .ref (jj_ad g 0)), (2, .ref (jj_ad g 60)), (3, .int (nI i))] [] m2) : jj_V g X RL cL_law 4 (d + 80) 582 [(0, .ref b), (1, .ref (jj_ad g 0)), (2, .ref (jj_ad g 60)), (3, .int (nI i))] [] μ := by
  obtain ⟨r, μ1, μ2, h1, h2, h3⟩ := st_text hI (xs (nI i + 1).toNatClampNeg)
  refine jj_aload_n dL_law_582 1 rfl ?_
  refine jj_aload_n dL_law_583 0 rfl ?_
  refine jj_iload_n dL_law_584 3 rfl ?_
  refine jj_iconst (1) dL_law_585 rfl ?_
  refine jj_iadd dL_law_586 ?_
  refine jj_sld hL (lw_in1 hi hM) dL_law_587 ?_
  refine jj_callVi [.int (xs (nI i + 1).toNatClampNeg)] [] (c_wnf_text (d + 12) h1) jm_wnf_text lkL_59 (b := 0) rfl (by decide) (jj_E7 rfl) rfl rfl rfl (by omega) rfl (Nat.le_of_ble_eq_true rfl) dL_law_588 ?_
  refine jj_aload_n dL_law_591 2 rfl ?_
  refine jj_aload_n dL_law_592 0 rfl ?_
  refine jj_iload_n dL_law_593 3 rfl ?_
  refine jj_iconst (1) dL_law_594 rfl ?_
  refine jj_iadd dL_law_595 ?_
  refine jj_sld hL (lw_in1 hi hM) dL_law_596 ?_
  refine jj_callVi [.int (xs (nI i + 1).toNatClampNeg)] [.int r] (c_mdf_text (d + 26) h2) jm_mdf_text lkL_62 (b := 60) rfl (by decide) (jj_E8 rfl) rfl rfl rfl (by omega) rfl (Nat.le_of_ble_eq_true rfl) dL_law_597 ?_
  refine jj_icmp_eq 1525 dL_law_600 (by decide) (fun _ => ?_) (fun w => absurd rfl w)
  exact kk μ2 h3
set_option maxRecDepth 100000 in
theorem lc_11 {g : jj_G} {X : jj_X} {b L : Nat} {xs : Nat → Int32} (hL : jj_Ls g X b L xs) (d : Nat) {i : Nat} (hi : i + 6 ≤ L) (hM : L ≤ 3072) {μ : jj_M} (hI : jI μ) (kk : ∀ m2 : jj_M, jI m2 → jj_V g X RL cL_law 4 (d + 80) 1525 [(0, .ref b), (1, .ref (jj_ad g 0)), (2, .ref (jj_ad g 60)), (3, .int (nI i))] [] m2) : jj_V g X RL cL_law 4 (d + 80) 605 [(0, .ref b), (1, .ref (jj_ad g 0)), (2, .ref (jj_ad g 60)), (3, .int (nI i))] [] μ := by
  obtain ⟨r, μ1, μ2, h1, h2, h3⟩ := st_law hI (xs (nI i + 1).toNatClampNeg) (xs (nI i + 2).toNatClampNeg) (xs (nI i + 3).toNatClampNeg) (xs (nI i + 4).toNatClampNeg)
  refine jj_aload_n dL_law_605 1 rfl ?_
  refine jj_aload_n dL_law_606 0 rfl ?_
  refine jj_iload_n dL_law_607 3 rfl ?_
  refine jj_iconst (1) dL_law_608 rfl ?_
  refine jj_iadd dL_law_609 ?_
  refine jj_sld hL (lw_in1 hi hM) dL_law_610 ?_
  refine jj_aload_n dL_law_611 0 rfl ?_
  refine jj_iload_n dL_law_612 3 rfl ?_
  refine jj_iconst (2) dL_law_613 rfl ?_
  refine jj_iadd dL_law_614 ?_
  refine jj_sld hL (lw_in2 hi hM) dL_law_615 ?_
  refine jj_aload_n dL_law_616 0 rfl ?_
  refine jj_iload_n dL_law_617 3 rfl ?_
  refine jj_iconst (3) dL_law_618 rfl ?_
  refine jj_iadd dL_law_619 ?_
  refine jj_sld hL (lw_in3 hi hM) dL_law_620 ?_
  refine jj_aload_n dL_law_621 0 rfl ?_
  refine jj_iload_n dL_law_622 3 rfl ?_
  refine jj_iconst (4) dL_law_623 rfl ?_
  refine jj_iadd dL_law_624 ?_
  refine jj_sld hL (lw_in4 hi hM) dL_law_625 ?_
  refine jj_callVi [.int (xs (nI i + 1).toNatClampNeg), .int (xs (nI i + 2).toNatClampNeg), .int (xs (nI i + 3).toNatClampNeg), .int (xs (nI i + 4).toNatClampNeg)] [] (c_wnf_law (d + 76) h1) jm_wnf_law lkL_63 (b := 0) rfl (by decide) (jj_E7 rfl) rfl rfl rfl (by omega) rfl (Nat.le_of_ble_eq_true rfl) dL_law_626 ?_
  refine jj_aload_n dL_law_629 2 rfl ?_
  refine jj_aload_n dL_law_630 0 rfl ?_
  refine jj_iload_n dL_law_631 3 rfl ?_
  refine jj_iconst (1) dL_law_632 rfl ?_
  refine jj_iadd dL_law_633 ?_
  refine jj_sld hL (lw_in1 hi hM) dL_law_634 ?_
  refine jj_aload_n dL_law_635 0 rfl ?_
  refine jj_iload_n dL_law_636 3 rfl ?_
  refine jj_iconst (2) dL_law_637 rfl ?_
  refine jj_iadd dL_law_638 ?_
  refine jj_sld hL (lw_in2 hi hM) dL_law_639 ?_
  refine jj_aload_n dL_law_640 0 rfl ?_
  refine jj_iload_n dL_law_641 3 rfl ?_
  refine jj_iconst (3) dL_law_642 rfl ?_
  refine jj_iadd dL_law_643 ?_
  refine jj_sld hL (lw_in3 hi hM) dL_law_644 ?_
  refine jj_aload_n dL_law_645 0 rfl ?_
  refine jj_iload_n dL_law_646 3 rfl ?_
  refine jj_iconst (4) dL_law_647 rfl ?_
  refine jj_iadd dL_law_648 ?_
  refine jj_sld hL (lw_in4 hi hM) dL_law_649 ?_
  refine jj_callVi [.int (xs (nI i + 1).toNatClampNeg), .int (xs (nI i + 2).toNatClampNeg), .int (xs (nI i + 3).toNatClampNeg), .int (xs (nI i + 4).toNatClampNeg)] [.int r] (c_mdf_law (d + 24) h2) jm_mdf_law lkL_67 (b := 60) rfl (by decide) (jj_E8 rfl) rfl rfl rfl (by omega) rfl (Nat.le_of_ble_eq_true rfl) dL_law_650 ?_
  refine jj_icmp_eq 1525 dL_law_653 (by decide) (fun _ => ?_) (fun w => absurd rfl w)
  exact kk μ2 h3
set_option maxRecDepth 100000 in
theorem lc_12 {g : jj_G} {X : jj_X} {b L : Nat} {xs : Nat → Int32} (hL : jj_Ls g X b L xs) (d : Nat) {i : Nat} (hi : i + 6 ≤ L) (hM : L ≤ 3072) {μ : jj_M} (hI : jI μ) (kk : ∀ m2 : jj_M, jI m2 → jj_V g X RL cL_law 4 (d + 80) 1525 [(0, .ref b), (1, .ref (jj_ad g 0)), (2, .ref (jj_ad g 60)), (3, .int (nI i))] [] m2) : jj_V g X RL cL_law 4 (d + 80) 658 [(0, .ref b), (1, .ref (jj_ad g 0)), (2, .ref (jj_ad g 60)), (3, .int (nI i))] [] μ := by
  obtain ⟨r, μ1, μ2, h1, h2, h3⟩ := st_drink hI (xs (nI i + 1).toNatClampNeg)
  refine jj_aload_n dL_law_658 1 rfl ?_
  refine jj_aload_n dL_law_659 0 rfl ?_
  refine jj_iload_n dL_law_660 3 rfl ?_
  refine jj_iconst (1) dL_law_661 rfl ?_
  refine jj_iadd dL_law_662 ?_
  refine jj_sld hL (lw_in1 hi hM) dL_law_663 ?_
  refine jj_callVi [.int (xs (nI i + 1).toNatClampNeg)] [] (c_wnf_drink (d + 75) h1) jm_wnf_drink lkL_68 (b := 0) rfl (by decide) (jj_E7 rfl) rfl rfl rfl (by omega) rfl (Nat.le_of_ble_eq_true rfl) dL_law_664 ?_
  refine jj_aload_n dL_law_667 2 rfl ?_
  refine jj_aload_n dL_law_668 0 rfl ?_
  refine jj_iload_n dL_law_669 3 rfl ?_
  refine jj_iconst (1) dL_law_670 rfl ?_
  refine jj_iadd dL_law_671 ?_
  refine jj_sld hL (lw_in1 hi hM) dL_law_672 ?_
  refine jj_callVi [.int (xs (nI i + 1).toNatClampNeg)] [.int r] (c_mdf_drink (d + 23) h2) jm_mdf_drink lkL_71 (b := 60) rfl (by decide) (jj_E8 rfl) rfl rfl rfl (by omega) rfl (Nat.le_of_ble_eq_true rfl) dL_law_673 ?_
  refine jj_icmp_eq 1525 dL_law_676 (by decide) (fun _ => ?_) (fun w => absurd rfl w)
  exact kk μ2 h3
set_option maxRecDepth 100000 in
theorem lc_13 {g : jj_G} {X : jj_X} {b L : Nat} {xs : Nat → Int32} (hL : jj_Ls g X b L xs) (d : Nat) {i : Nat} (hi : i + 6 ≤ L) (hM : L ≤ 3072) {μ : jj_M} (hI : jI μ) (kk : ∀ m2 : jj_M, jI m2 → jj_V g X RL cL_law 4 (d + 80) 1525 [(0, .ref b), (1, .ref (jj_ad g 0)), (2, .ref (jj_ad g 60)), (3, .int (nI i))] [] m2) : jj_V g X RL cL_law 4 (d + 80) 681 [(0, .ref b), (1, .ref (jj_ad g 0)), (2, .ref (jj_ad g 60)), (3, .int (nI i))] [] μ := by
  obtain ⟨r, μ1, μ2, h1, h2, h3⟩ := st_go hI (xs (nI i + 1).toNatClampNeg) (xs (nI i + 2).toNatClampNeg)
  refine jj_aload_n dL_law_681 1 rfl ?_
  refine jj_aload_n dL_law_682 0 rfl ?_
  refine jj_iload_n dL_law_683 3 rfl ?_
  refine jj_iconst (1) dL_law_684 rfl ?_
  refine jj_iadd dL_law_685 ?_
  refine jj_sld hL (lw_in1 hi hM) dL_law_686 ?_
  refine jj_aload_n dL_law_687 0 rfl ?_
  refine jj_iload_n dL_law_688 3 rfl ?_
  refine jj_iconst (2) dL_law_689 rfl ?_
  refine jj_iadd dL_law_690 ?_
  refine jj_sld hL (lw_in2 hi hM) dL_law_691 ?_
  refine jj_callVi [.int (xs (nI i + 1).toNatClampNeg), .int (xs (nI i + 2).toNatClampNeg)] [] (c_wnf_go (d + 75) h1) jm_wnf_go lkL_72 (b := 0) rfl (by decide) (jj_E7 rfl) rfl rfl rfl (by omega) rfl (Nat.le_of_ble_eq_true rfl) dL_law_692 ?_
  refine jj_aload_n dL_law_695 2 rfl ?_
  refine jj_aload_n dL_law_696 0 rfl ?_
  refine jj_iload_n dL_law_697 3 rfl ?_
  refine jj_iconst (1) dL_law_698 rfl ?_
  refine jj_iadd dL_law_699 ?_
  refine jj_sld hL (lw_in1 hi hM) dL_law_700 ?_
  refine jj_aload_n dL_law_701 0 rfl ?_
  refine jj_iload_n dL_law_702 3 rfl ?_
  refine jj_iconst (2) dL_law_703 rfl ?_
  refine jj_iadd dL_law_704 ?_
  refine jj_sld hL (lw_in2 hi hM) dL_law_705 ?_
  refine jj_callVi [.int (xs (nI i + 1).toNatClampNeg), .int (xs (nI i + 2).toNatClampNeg)] [.int r] (c_mdf_go (d + 23) h2) jm_mdf_go lkL_75 (b := 60) rfl (by decide) (jj_E8 rfl) rfl rfl rfl (by omega) rfl (Nat.le_of_ble_eq_true rfl) dL_law_706 ?_
  refine jj_icmp_eq 1525 dL_law_709 (by decide) (fun _ => ?_) (fun w => absurd rfl w)
  exact kk μ2 h3
set_option maxRecDepth 100000 in
theorem lc_14 {g : jj_G} {X : jj_X} {b L : Nat} {xs : Nat → Int32} (hL : jj_Ls g X b L xs) (d : Nat) {i : Nat} (hi : i + 6 ≤ L) (hM : L ≤ 3072) {μ : jj_M} (hI : jI μ) (kk : ∀ m2 : jj_M, jI m2 → jj_V g X RL cL_law 4 (d + 80) 1525 [(0, .ref b), (1, .ref (jj_ad g 0)), (2, .ref (jj_ad g 60)), (3, .int (nI i))] [] m2) : jj_V g X RL cL_law 4 (d + 80) 714 [(0, .ref b), (1, .ref (jj_ad g 0)), (2, .ref (jj_ad g 60)), (3, .int (nI i))] [] μ := by
  obtain ⟨r, μ1, μ2, h1, h2, h3⟩ := st_pay hI (xs (nI i + 1).toNatClampNeg) (xs (nI i + 2).toNatClampNeg) (xs (nI i + 3).toNatClampNeg)
  refine jj_aload_n dL_law_714 1 rfl ?_
  refine jj_aload_n dL_law_715 0 rfl ?_
  refine jj_iload_n dL_law_716 3 rfl ?_
  refine jj_iconst (1) dL_law_717 rfl ?_
  refine jj_iadd dL_law_718 ?_
  refine jj_sld hL (lw_in1 hi hM) dL_law_719 ?_
  refine jj_aload_n dL_law_720 0 rfl ?_
  refine jj_iload_n dL_law_721 3 rfl ?_
  refine jj_iconst (2) dL_law_722 rfl ?_
  refine jj_iadd dL_law_723 ?_
  refine jj_sld hL (lw_in2 hi hM) dL_law_724 ?_
  refine jj_aload_n dL_law_725 0 rfl ?_
  refine jj_iload_n dL_law_726 3 rfl ?_
  refine jj_iconst (3) dL_law_727 rfl ?_
  refine jj_iadd dL_law_728 ?_
  refine jj_sld hL (lw_in3 hi hM) dL_law_729 ?_
  refine jj_callVi [.int (xs (nI i + 1).toNatClampNeg), .int (xs (nI i + 2).toNatClampNeg), .int (xs (nI i + 3).toNatClampNeg)] [] (c_wnf_pay (d + 77) h1) jm_wnf_pay lkL_76 (b := 0) rfl (by decide) (jj_E7 rfl) rfl rfl rfl (by omega) rfl (Nat.le_of_ble_eq_true rfl) dL_law_730 ?_
  refine jj_aload_n dL_law_733 2 rfl ?_
  refine jj_aload_n dL_law_734 0 rfl ?_
  refine jj_iload_n dL_law_735 3 rfl ?_
  refine jj_iconst (1) dL_law_736 rfl ?_
  refine jj_iadd dL_law_737 ?_
  refine jj_sld hL (lw_in1 hi hM) dL_law_738 ?_
  refine jj_aload_n dL_law_739 0 rfl ?_
  refine jj_iload_n dL_law_740 3 rfl ?_
  refine jj_iconst (2) dL_law_741 rfl ?_
  refine jj_iadd dL_law_742 ?_
  refine jj_sld hL (lw_in2 hi hM) dL_law_743 ?_
  refine jj_aload_n dL_law_744 0 rfl ?_
  refine jj_iload_n dL_law_745 3 rfl ?_
  refine jj_iconst (3) dL_law_746 rfl ?_
  refine jj_iadd dL_law_747 ?_
  refine jj_sld hL (lw_in3 hi hM) dL_law_748 ?_
  refine jj_callVi [.int (xs (nI i + 1).toNatClampNeg), .int (xs (nI i + 2).toNatClampNeg), .int (xs (nI i + 3).toNatClampNeg)] [.int r] (c_mdf_pay (d + 77) h2) jm_mdf_pay lkL_79 (b := 60) rfl (by decide) (jj_E8 rfl) rfl rfl rfl (by omega) rfl (Nat.le_of_ble_eq_true rfl) dL_law_749 ?_
  refine jj_icmp_eq 1525 dL_law_752 (by decide) (fun _ => ?_) (fun w => absurd rfl w)
  exact kk μ2 h3
set_option maxRecDepth 100000 in
theorem lc_15 {g : jj_G} {X : jj_X} {b L : Nat} {xs : Nat → Int32} (hL : jj_Ls g X b L xs) (d : Nat) {i : Nat} (hi : i + 6 ≤ L) (hM : L ≤ 3072) {μ : jj_M} (hI : jI μ) (kk : ∀ m2 : jj_M, jI m2 → jj_V g X RL cL_law 4 (d + 80) 1525 [(0, .ref b), (1, .ref (jj_ad g 0)), (2, .ref (jj_ad g 60)), (3, .int (nI i))] [] m2) : jj_V g X RL cL_law 4 (d + 80) 757 [(0, .ref b), (1, .ref (jj_ad g 0)), (2, .ref (jj_ad g 60)), (3, .int (nI i))] [] μ := by
  obtain ⟨r, μ1, μ2, h1, h2, h3⟩ := st_days hI (xs (nI i + 1).toNatClampNeg)
  refine jj_aload_n dL_law_757 1 rfl ?_
  refine jj_aload_n dL_law_758 0 rfl ?_
  refine jj_iload_n dL_law_759 3 rfl ?_
  refine jj_iconst (1) dL_law_760 rfl ?_
  refine jj_iadd dL_law_761 ?_
  refine jj_sld hL (lw_in1 hi hM) dL_law_762 ?_
  refine jj_callVi [.int (xs (nI i + 1).toNatClampNeg)] [] (c_wnf_days (d + 75) h1) jm_wnf_days lkL_80 (b := 0) rfl (by decide) (jj_E7 rfl) rfl rfl rfl (by omega) rfl (Nat.le_of_ble_eq_true rfl) dL_law_763 ?_
  refine jj_aload_n dL_law_766 2 rfl ?_
  refine jj_aload_n dL_law_767 0 rfl ?_
  refine jj_iload_n dL_law_768 3 rfl ?_
  refine jj_iconst (1) dL_law_769 rfl ?_
  refine jj_iadd dL_law_770 ?_
  refine jj_sld hL (lw_in1 hi hM) dL_law_771 ?_
  refine jj_callVi [.int (xs (nI i + 1).toNatClampNeg)] [.int r] (c_mdf_days (d + 74) h2) jm_mdf_days lkL_83 (b := 60) rfl (by decide) (jj_E8 rfl) rfl rfl rfl (by omega) rfl (Nat.le_of_ble_eq_true rfl) dL_law_772 ?_
  refine jj_icmp_eq 1525 dL_law_775 (by decide) (fun _ => ?_) (fun w => absurd rfl w)
  exact kk μ2 h3
set_option maxRecDepth 100000 in
theorem lc_16 {g : jj_G} {X : jj_X} {b L : Nat} {xs : Nat → Int32} (hL : jj_Ls g X b L xs) (d : Nat) {i : Nat} (hi : i + 6 ≤ L) (hM : L ≤ 3072) {μ : jj_M} (hI : jI μ) (kk : ∀ m2 : jj_M, jI m2 → jj_V g X RL cL_law 4 (d + 80) 1525 [(0, .ref b), (1, .ref (jj_ad g 0)), (2, .ref (jj_ad g 60)), (3, .int (nI i))] [] m2) : jj_V g X RL cL_law 4 (d + 80) 780 [(0, .ref b), (1, .ref (jj_ad g 0)), (2, .ref (jj_ad g 60)), (3, .int (nI i))] [] μ := by
  obtain ⟨r, μ1, μ2, h1, h2, h3⟩ := st_loose hI (xs (nI i + 1).toNatClampNeg)
  refine jj_aload_n dL_law_780 1 rfl ?_
  refine jj_aload_n dL_law_781 0 rfl ?_
  refine jj_iload_n dL_law_782 3 rfl ?_
  refine jj_iconst (1) dL_law_783 rfl ?_
  refine jj_iadd dL_law_784 ?_
  refine jj_sld hL (lw_in1 hi hM) dL_law_785 ?_
  refine jj_callVi [.int (xs (nI i + 1).toNatClampNeg)] [] (c_wnf_loose (d + 75) h1) jm_wnf_loose lkL_84 (b := 0) rfl (by decide) (jj_E7 rfl) rfl rfl rfl (by omega) rfl (Nat.le_of_ble_eq_true rfl) dL_law_786 ?_
  refine jj_aload_n dL_law_789 2 rfl ?_
  refine jj_aload_n dL_law_790 0 rfl ?_
  refine jj_iload_n dL_law_791 3 rfl ?_
  refine jj_iconst (1) dL_law_792 rfl ?_
  refine jj_iadd dL_law_793 ?_
  refine jj_sld hL (lw_in1 hi hM) dL_law_794 ?_
  refine jj_callVi [.int (xs (nI i + 1).toNatClampNeg)] [.int r] (c_mdf_loose (d + 74) h2) jm_mdf_loose lkL_87 (b := 60) rfl (by decide) (jj_E8 rfl) rfl rfl rfl (by omega) rfl (Nat.le_of_ble_eq_true rfl) dL_law_795 ?_
  refine jj_icmp_eq 1525 dL_law_798 (by decide) (fun _ => ?_) (fun w => absurd rfl w)
  exact kk μ2 h3
set_option maxRecDepth 100000 in
theorem lc_17 {g : jj_G} {X : jj_X} {b L : Nat} {xs : Nat → Int32} (hL : jj_Ls g X b L xs) (d : Nat) {i : Nat} (hi : i + 6 ≤ L) (hM : L ≤ 3072) {μ : jj_M} (hI : jI μ) (kk : ∀ m2 : jj_M, jI m2 → jj_V g X RL cL_law 4 (d + 80) 1525 [(0, .ref b), (1, .ref (jj_ad g 0)), (2, .ref (jj_ad g 60)), (3, .int (nI i))] [] m2) : jj_V g X RL cL_law 4 (d + 80) 803 [(0, .ref b), (1, .ref (jj_ad g 0)), (2, .ref (jj_ad g 60)), (3, .int (nI i))] [] μ := by
  obtain ⟨r, h1, h2, h3⟩ := st_same hI 
  refine jj_aload_n dL_law_803 1 rfl ?_
  refine jj_callVi [] [] (c_wnf_same (d + 77) h1) jm_wnf_same lkL_88 (b := 0) rfl (by decide) (jj_E7 rfl) rfl rfl rfl (by omega) rfl (Nat.le_of_ble_eq_true rfl) dL_law_804 ?_
  refine jj_aload_n dL_law_807 2 rfl ?_
  refine jj_callVi [] [.int r] (c_mdf_same (d + 76) h2) jm_mdf_same lkL_92 (b := 60) rfl (by decide) (jj_E8 rfl) rfl rfl rfl (by omega) rfl (Nat.le_of_ble_eq_true rfl) dL_law_808 ?_
  refine jj_icmp_eq 1525 dL_law_811 (by decide) (fun _ => ?_) (fun w => absurd rfl w)
  exact kk μ h3
set_option maxRecDepth 100000 in
theorem lc_18 {g : jj_G} {X : jj_X} {b L : Nat} {xs : Nat → Int32} (hL : jj_Ls g X b L xs) (d : Nat) {i : Nat} (hi : i + 6 ≤ L) (hM : L ≤ 3072) {μ : jj_M} (hI : jI μ) (kk : ∀ m2 : jj_M, jI m2 → jj_V g X RL cL_law 4 (d + 80) 1525 [(0, .ref b), (1, .ref (jj_ad g 0)), (2, .ref (jj_ad g 60)), (3, .int (nI i))] [] m2) : jj_V g X RL cL_law 4 (d + 80) 816 [(0, .ref b), (1, .ref (jj_ad g 0)), (2, .ref (jj_ad g 60)), (3, .int (nI i))] [] μ := by
  obtain ⟨r, μ1, μ2, h1, h2, h3⟩ := st_soonest hI (xs (nI i + 1).toNatClampNeg) (xs (nI i + 2).toNatClampNeg) (xs (nI i + 3).toNatClampNeg)
  refine jj_aload_n dL_law_816 1 rfl ?_
  refine jj_aload_n dL_law_817 0 rfl ?_
  refine jj_iload_n dL_law_818 3 rfl ?_
  refine jj_iconst (1) dL_law_819 rfl ?_
  refine jj_iadd dL_law_820 ?_
  refine jj_sld hL (lw_in1 hi hM) dL_law_821 ?_
  refine jj_aload_n dL_law_822 0 rfl ?_
  refine jj_iload_n dL_law_823 3 rfl ?_
  refine jj_iconst (2) dL_law_824 rfl ?_
  refine jj_iadd dL_law_825 ?_
  refine jj_sld hL (lw_in2 hi hM) dL_law_826 ?_
  refine jj_aload_n dL_law_827 0 rfl ?_
  refine jj_iload_n dL_law_828 3 rfl ?_
  refine jj_iconst (3) dL_law_829 rfl ?_
  refine jj_iadd dL_law_830 ?_
  refine jj_sld hL (lw_in3 hi hM) dL_law_831 ?_
  refine jj_callVi [.int (xs (nI i + 1).toNatClampNeg), .int (xs (nI i + 2).toNatClampNeg), .int (xs (nI i + 3).toNatClampNeg)] [] (c_wnf_soonest (d + 73) h1) jm_wnf_soonest lkL_93 (b := 0) rfl (by decide) (jj_E7 rfl) rfl rfl rfl (by omega) rfl (Nat.le_of_ble_eq_true rfl) dL_law_832 ?_
  refine jj_aload_n dL_law_835 2 rfl ?_
  refine jj_aload_n dL_law_836 0 rfl ?_
  refine jj_iload_n dL_law_837 3 rfl ?_
  refine jj_iconst (1) dL_law_838 rfl ?_
  refine jj_iadd dL_law_839 ?_
  refine jj_sld hL (lw_in1 hi hM) dL_law_840 ?_
  refine jj_aload_n dL_law_841 0 rfl ?_
  refine jj_iload_n dL_law_842 3 rfl ?_
  refine jj_iconst (2) dL_law_843 rfl ?_
  refine jj_iadd dL_law_844 ?_
  refine jj_sld hL (lw_in2 hi hM) dL_law_845 ?_
  refine jj_aload_n dL_law_846 0 rfl ?_
  refine jj_iload_n dL_law_847 3 rfl ?_
  refine jj_iconst (3) dL_law_848 rfl ?_
  refine jj_iadd dL_law_849 ?_
  refine jj_sld hL (lw_in3 hi hM) dL_law_850 ?_
  refine jj_callVi [.int (xs (nI i + 1).toNatClampNeg), .int (xs (nI i + 2).toNatClampNeg), .int (xs (nI i + 3).toNatClampNeg)] [.int r] (c_mdf_soonest (d + 20) h2) jm_mdf_soonest lkL_96 (b := 60) rfl (by decide) (jj_E8 rfl) rfl rfl rfl (by omega) rfl (Nat.le_of_ble_eq_true rfl) dL_law_851 ?_
  refine jj_icmp_eq 1525 dL_law_854 (by decide) (fun _ => ?_) (fun w => absurd rfl w)
  exact kk μ2 h3
set_option maxRecDepth 100000 in
theorem lc_19 {g : jj_G} {X : jj_X} {b L : Nat} {xs : Nat → Int32} (hL : jj_Ls g X b L xs) (d : Nat) {i : Nat} (hi : i + 6 ≤ L) (hM : L ≤ 3072) {μ : jj_M} (hI : jI μ) (kk : ∀ m2 : jj_M, jI m2 → jj_V g X RL cL_law 4 (d + 80) 1525 [(0, .ref b), (1, .ref (jj_ad g 0)), (2, .ref (jj_ad g 60)), (3, .int (nI i))] [] m2) : jj_V g X RL cL_law 4 (d + 80) 859 [(0, .ref b), (1, .ref (jj_ad g 0)), (2, .ref (jj_ad g 60)), (3, .int (nI i))] [] μ := by
  obtain ⟨r, μ1, μ2, h1, h2, h3⟩ := st_drinks hI (xs (nI i + 1).toNatClampNeg) (xs (nI i + 2).toNatClampNeg) (xs (nI i + 3).toNatClampNeg)
  refine jj_aload_n dL_law_859 1 rfl ?_
  refine jj_aload_n dL_law_860 0 rfl ?_
  refine jj_iload_n dL_law_861 3 rfl ?_
  refine jj_iconst (1) dL_law_862 rfl ?_
  refine jj_iadd dL_law_863 ?_
  refine jj_sld hL (lw_in1 hi hM) dL_law_864 ?_
  refine jj_aload_n dL_law_865 0 rfl ?_
  refine jj_iload_n dL_law_866 3 rfl ?_
  refine jj_iconst (2) dL_law_867 rfl ?_
  refine jj_iadd dL_law_868 ?_
  refine jj_sld hL (lw_in2 hi hM) dL_law_869 ?_
  refine jj_aload_n dL_law_870 0 rfl ?_
  refine jj_iload_n dL_law_871 3 rfl ?_
  refine jj_iconst (3) dL_law_872 rfl ?_
  refine jj_iadd dL_law_873 ?_
  refine jj_sld hL (lw_in3 hi hM) dL_law_874 ?_
  refine jj_callVi [.int (xs (nI i + 1).toNatClampNeg), .int (xs (nI i + 2).toNatClampNeg), .int (xs (nI i + 3).toNatClampNeg)] [] (c_wnf_drinks (d + 73) h1) jm_wnf_drinks lkL_97 (b := 0) rfl (by decide) (jj_E7 rfl) rfl rfl rfl (by omega) rfl (Nat.le_of_ble_eq_true rfl) dL_law_875 ?_
  refine jj_aload_n dL_law_878 2 rfl ?_
  refine jj_aload_n dL_law_879 0 rfl ?_
  refine jj_iload_n dL_law_880 3 rfl ?_
  refine jj_iconst (1) dL_law_881 rfl ?_
  refine jj_iadd dL_law_882 ?_
  refine jj_sld hL (lw_in1 hi hM) dL_law_883 ?_
  refine jj_aload_n dL_law_884 0 rfl ?_
  refine jj_iload_n dL_law_885 3 rfl ?_
  refine jj_iconst (2) dL_law_886 rfl ?_
  refine jj_iadd dL_law_887 ?_
  refine jj_sld hL (lw_in2 hi hM) dL_law_888 ?_
  refine jj_aload_n dL_law_889 0 rfl ?_
  refine jj_iload_n dL_law_890 3 rfl ?_
  refine jj_iconst (3) dL_law_891 rfl ?_
  refine jj_iadd dL_law_892 ?_
  refine jj_sld hL (lw_in3 hi hM) dL_law_893 ?_
  refine jj_callVi [.int (xs (nI i + 1).toNatClampNeg), .int (xs (nI i + 2).toNatClampNeg), .int (xs (nI i + 3).toNatClampNeg)] [.int r] (c_mdf_drinks (d + 20) h2) jm_mdf_drinks lkL_100 (b := 60) rfl (by decide) (jj_E8 rfl) rfl rfl rfl (by omega) rfl (Nat.le_of_ble_eq_true rfl) dL_law_894 ?_
  refine jj_icmp_eq 1525 dL_law_897 (by decide) (fun _ => ?_) (fun w => absurd rfl w)
  exact kk μ2 h3
set_option maxRecDepth 100000 in
theorem lc_20 {g : jj_G} {X : jj_X} {b L : Nat} {xs : Nat → Int32} (hL : jj_Ls g X b L xs) (d : Nat) {i : Nat} (hi : i + 6 ≤ L) (hM : L ≤ 3072) {μ : jj_M} (hI : jI μ) (kk : ∀ m2 : jj_M, jI m2 → jj_V g X RL cL_law 4 (d + 80) 1525 [(0, .ref b), (1, .ref (jj_ad g 0)), (2, .ref (jj_ad g 60)), (3, .int (nI i))] [] m2) : jj_V g X RL cL_law 4 (d + 80) 902 [(0, .ref b), (1, .ref (jj_ad g 0)), (2, .ref (jj_ad g 60)), (3, .int (nI i))] [] μ := by
  obtain ⟨r, μ1, μ2, h1, h2, h3⟩ := st_reach hI (xs (nI i + 1).toNatClampNeg) (xs (nI i + 2).toNatClampNeg) (xs (nI i + 3).toNatClampNeg)
  refine jj_aload_n dL_law_902 1 rfl ?_
  refine jj_aload_n dL_law_903 0 rfl ?_
  refine jj_iload_n dL_law_904 3 rfl ?_
  refine jj_iconst (1) dL_law_905 rfl ?_
  refine jj_iadd dL_law_906 ?_
  refine jj_sld hL (lw_in1 hi hM) dL_law_907 ?_
  refine jj_aload_n dL_law_908 0 rfl ?_
  refine jj_iload_n dL_law_909 3 rfl ?_
  refine jj_iconst (2) dL_law_910 rfl ?_
  refine jj_iadd dL_law_911 ?_
  refine jj_sld hL (lw_in2 hi hM) dL_law_912 ?_
  refine jj_aload_n dL_law_913 0 rfl ?_
  refine jj_iload_n dL_law_914 3 rfl ?_
  refine jj_iconst (3) dL_law_915 rfl ?_
  refine jj_iadd dL_law_916 ?_
  refine jj_sld hL (lw_in3 hi hM) dL_law_917 ?_
  refine jj_callVi [.int (xs (nI i + 1).toNatClampNeg), .int (xs (nI i + 2).toNatClampNeg), .int (xs (nI i + 3).toNatClampNeg)] [] (c_wnf_reach (d + 74) h1) jm_wnf_reach lkL_101 (b := 0) rfl (by decide) (jj_E7 rfl) rfl rfl rfl (by omega) rfl (Nat.le_of_ble_eq_true rfl) dL_law_918 ?_
  refine jj_aload_n dL_law_921 2 rfl ?_
  refine jj_aload_n dL_law_922 0 rfl ?_
  refine jj_iload_n dL_law_923 3 rfl ?_
  refine jj_iconst (1) dL_law_924 rfl ?_
  refine jj_iadd dL_law_925 ?_
  refine jj_sld hL (lw_in1 hi hM) dL_law_926 ?_
  refine jj_aload_n dL_law_927 0 rfl ?_
  refine jj_iload_n dL_law_928 3 rfl ?_
  refine jj_iconst (2) dL_law_929 rfl ?_
  refine jj_iadd dL_law_930 ?_
  refine jj_sld hL (lw_in2 hi hM) dL_law_931 ?_
  refine jj_aload_n dL_law_932 0 rfl ?_
  refine jj_iload_n dL_law_933 3 rfl ?_
  refine jj_iconst (3) dL_law_934 rfl ?_
  refine jj_iadd dL_law_935 ?_
  refine jj_sld hL (lw_in3 hi hM) dL_law_936 ?_
  refine jj_callVi [.int (xs (nI i + 1).toNatClampNeg), .int (xs (nI i + 2).toNatClampNeg), .int (xs (nI i + 3).toNatClampNeg)] [.int r] (c_mdf_reach (d + 20) h2) jm_mdf_reach lkL_104 (b := 60) rfl (by decide) (jj_E8 rfl) rfl rfl rfl (by omega) rfl (Nat.le_of_ble_eq_true rfl) dL_law_937 ?_
  refine jj_icmp_eq 1525 dL_law_940 (by decide) (fun _ => ?_) (fun w => absurd rfl w)
  exact kk μ2 h3
set_option maxRecDepth 100000 in
theorem lc_21 {g : jj_G} {X : jj_X} {b L : Nat} {xs : Nat → Int32} (hL : jj_Ls g X b L xs) (d : Nat) {i : Nat} (hi : i + 6 ≤ L) (hM : L ≤ 3072) {μ : jj_M} (hI : jI μ) (kk : ∀ m2 : jj_M, jI m2 → jj_V g X RL cL_law 4 (d + 80) 1525 [(0, .ref b), (1, .ref (jj_ad g 0)), (2, .ref (jj_ad g 60)), (3, .int (nI i))] [] m2) : jj_V g X RL cL_law 4 (d + 80) 945 [(0, .ref b), (1, .ref (jj_ad g 0)), (2, .ref (jj_ad g 60)), (3, .int (nI i))] [] μ := by
  obtain ⟨r, μ1, μ2, h1, h2, h3⟩ := st_dry hI (xs (nI i + 1).toNatClampNeg) (xs (nI i + 2).toNatClampNeg)
  refine jj_aload_n dL_law_945 1 rfl ?_
  refine jj_aload_n dL_law_946 0 rfl ?_
  refine jj_iload_n dL_law_947 3 rfl ?_
  refine jj_iconst (1) dL_law_948 rfl ?_
  refine jj_iadd dL_law_949 ?_
  refine jj_sld hL (lw_in1 hi hM) dL_law_950 ?_
  refine jj_aload_n dL_law_951 0 rfl ?_
  refine jj_iload_n dL_law_952 3 rfl ?_
  refine jj_iconst (2) dL_law_953 rfl ?_
  refine jj_iadd dL_law_954 ?_
  refine jj_sld hL (lw_in2 hi hM) dL_law_955 ?_
  refine jj_callVi [.int (xs (nI i + 1).toNatClampNeg), .int (xs (nI i + 2).toNatClampNeg)] [] (c_wnf_dry (d + 74) h1) jm_wnf_dry lkL_105 (b := 0) rfl (by decide) (jj_E7 rfl) rfl rfl rfl (by omega) rfl (Nat.le_of_ble_eq_true rfl) dL_law_956 ?_
  refine jj_aload_n dL_law_959 2 rfl ?_
  refine jj_aload_n dL_law_960 0 rfl ?_
  refine jj_iload_n dL_law_961 3 rfl ?_
  refine jj_iconst (1) dL_law_962 rfl ?_
  refine jj_iadd dL_law_963 ?_
  refine jj_sld hL (lw_in1 hi hM) dL_law_964 ?_
  refine jj_aload_n dL_law_965 0 rfl ?_
  refine jj_iload_n dL_law_966 3 rfl ?_
  refine jj_iconst (2) dL_law_967 rfl ?_
  refine jj_iadd dL_law_968 ?_
  refine jj_sld hL (lw_in2 hi hM) dL_law_969 ?_
  refine jj_callVi [.int (xs (nI i + 1).toNatClampNeg), .int (xs (nI i + 2).toNatClampNeg)] [.int r] (c_mdf_dry (d + 20) h2) jm_mdf_dry lkL_108 (b := 60) rfl (by decide) (jj_E8 rfl) rfl rfl rfl (by omega) rfl (Nat.le_of_ble_eq_true rfl) dL_law_970 ?_
  refine jj_icmp_eq 1525 dL_law_973 (by decide) (fun _ => ?_) (fun w => absurd rfl w)
  exact kk μ2 h3
set_option maxRecDepth 100000 in
theorem lc_22 {g : jj_G} {X : jj_X} {b L : Nat} {xs : Nat → Int32} (hL : jj_Ls g X b L xs) (d : Nat) {i : Nat} (hi : i + 6 ≤ L) (hM : L ≤ 3072) {μ : jj_M} (hI : jI μ) (kk : ∀ m2 : jj_M, jI m2 → jj_V g X RL cL_law 4 (d + 80) 1525 [(0, .ref b), (1, .ref (jj_ad g 0)), (2, .ref (jj_ad g 60)), (3, .int (nI i))] [] m2) : jj_V g X RL cL_law 4 (d + 80) 978 [(0, .ref b), (1, .ref (jj_ad g 0)), (2, .ref (jj_ad g 60)), (3, .int (nI i))] [] μ := by
  obtain ⟨r, μ1, μ2, h1, h2, h3⟩ := st_net hI 
  refine jj_aload_n dL_law_978 1 rfl ?_
  refine jj_callVi [] [] (c_wnf_net (d + 76) h1) jm_wnf_net lkL_109 (b := 0) rfl (by decide) (jj_E7 rfl) rfl rfl rfl (by omega) rfl (Nat.le_of_ble_eq_true rfl) dL_law_979 ?_
  refine jj_aload_n dL_law_982 2 rfl ?_
  refine jj_callVi [] [.int r] (c_mdf_net (d + 78) h2) jm_mdf_net lkL_112 (b := 60) rfl (by decide) (jj_E8 rfl) rfl rfl rfl (by omega) rfl (Nat.le_of_ble_eq_true rfl) dL_law_983 ?_
  refine jj_icmp_eq 1525 dL_law_986 (by decide) (fun _ => ?_) (fun w => absurd rfl w)
  exact kk μ2 h3
set_option maxRecDepth 100000 in
theorem lc_23 {g : jj_G} {X : jj_X} {b L : Nat} {xs : Nat → Int32} (hL : jj_Ls g X b L xs) (d : Nat) {i : Nat} (hi : i + 6 ≤ L) (hM : L ≤ 3072) {μ : jj_M} (hI : jI μ) (kk : ∀ m2 : jj_M, jI m2 → jj_V g X RL cL_law 4 (d + 80) 1525 [(0, .ref b), (1, .ref (jj_ad g 0)), (2, .ref (jj_ad g 60)), (3, .int (nI i))] [] m2) : jj_V g X RL cL_law 4 (d + 80) 991 [(0, .ref b), (1, .ref (jj_ad g 0)), (2, .ref (jj_ad g 60)), (3, .int (nI i))] [] μ := by
  obtain ⟨r, μ1, μ2, h1, h2, h3⟩ := st_shortest hI (xs (nI i + 1).toNatClampNeg) (xs (nI i + 2).toNatClampNeg)
  refine jj_aload_n dL_law_991 1 rfl ?_
  refine jj_aload_n dL_law_992 0 rfl ?_
  refine jj_iload_n dL_law_993 3 rfl ?_
  refine jj_iconst (1) dL_law_994 rfl ?_
  refine jj_iadd dL_law_995 ?_
  refine jj_sld hL (lw_in1 hi hM) dL_law_996 ?_
  refine jj_aload_n dL_law_997 0 rfl ?_
  refine jj_iload_n dL_law_998 3 rfl ?_
  refine jj_iconst (2) dL_law_999 rfl ?_
  refine jj_iadd dL_law_1000 ?_
  refine jj_sld hL (lw_in2 hi hM) dL_law_1001 ?_
  refine jj_callVi [.int (xs (nI i + 1).toNatClampNeg), .int (xs (nI i + 2).toNatClampNeg)] [] (c_wnf_shortest (d + 75) h1) jm_wnf_shortest lkL_113 (b := 0) rfl (by decide) (jj_E7 rfl) rfl rfl rfl (by omega) rfl (Nat.le_of_ble_eq_true rfl) dL_law_1002 ?_
  refine jj_aload_n dL_law_1005 2 rfl ?_
  refine jj_aload_n dL_law_1006 0 rfl ?_
  refine jj_iload_n dL_law_1007 3 rfl ?_
  refine jj_iconst (1) dL_law_1008 rfl ?_
  refine jj_iadd dL_law_1009 ?_
  refine jj_sld hL (lw_in1 hi hM) dL_law_1010 ?_
  refine jj_aload_n dL_law_1011 0 rfl ?_
  refine jj_iload_n dL_law_1012 3 rfl ?_
  refine jj_iconst (2) dL_law_1013 rfl ?_
  refine jj_iadd dL_law_1014 ?_
  refine jj_sld hL (lw_in2 hi hM) dL_law_1015 ?_
  refine jj_callVi [.int (xs (nI i + 1).toNatClampNeg), .int (xs (nI i + 2).toNatClampNeg)] [.int r] (c_mdf_shortest (d + 77) h2) jm_mdf_shortest lkL_116 (b := 60) rfl (by decide) (jj_E8 rfl) rfl rfl rfl (by omega) rfl (Nat.le_of_ble_eq_true rfl) dL_law_1016 ?_
  refine jj_icmp_eq 1525 dL_law_1019 (by decide) (fun _ => ?_) (fun w => absurd rfl w)
  exact kk μ2 h3
set_option maxRecDepth 100000 in
theorem lc_24 {g : jj_G} {X : jj_X} {b L : Nat} {xs : Nat → Int32} (hL : jj_Ls g X b L xs) (d : Nat) {i : Nat} (hi : i + 6 ≤ L) (hM : L ≤ 3072) {μ : jj_M} (hI : jI μ) (kk : ∀ m2 : jj_M, jI m2 → jj_V g X RL cL_law 4 (d + 80) 1525 [(0, .ref b), (1, .ref (jj_ad g 0)), (2, .ref (jj_ad g 60)), (3, .int (nI i))] [] m2) : jj_V g X RL cL_law 4 (d + 80) 1024 [(0, .ref b), (1, .ref (jj_ad g 0)), (2, .ref (jj_ad g 60)), (3, .int (nI i))] [] μ := by
  obtain ⟨r, μ1, μ2, h1, h2, h3⟩ := st_walked hI (xs (nI i + 1).toNatClampNeg)
  refine jj_aload_n dL_law_1024 1 rfl ?_
  refine jj_aload_n dL_law_1025 0 rfl ?_
  refine jj_iload_n dL_law_1026 3 rfl ?_
  refine jj_iconst (1) dL_law_1027 rfl ?_
  refine jj_iadd dL_law_1028 ?_
  refine jj_sld hL (lw_in1 hi hM) dL_law_1029 ?_
  refine jj_callVi [.int (xs (nI i + 1).toNatClampNeg)] [] (c_wnf_walked (d + 76) h1) jm_wnf_walked lkL_117 (b := 0) rfl (by decide) (jj_E7 rfl) rfl rfl rfl (by omega) rfl (Nat.le_of_ble_eq_true rfl) dL_law_1030 ?_
  refine jj_aload_n dL_law_1033 2 rfl ?_
  refine jj_aload_n dL_law_1034 0 rfl ?_
  refine jj_iload_n dL_law_1035 3 rfl ?_
  refine jj_iconst (1) dL_law_1036 rfl ?_
  refine jj_iadd dL_law_1037 ?_
  refine jj_sld hL (lw_in1 hi hM) dL_law_1038 ?_
  refine jj_callVi [.int (xs (nI i + 1).toNatClampNeg)] [.int r] (c_mdf_walked (d + 76) h2) jm_mdf_walked lkL_120 (b := 60) rfl (by decide) (jj_E8 rfl) rfl rfl rfl (by omega) rfl (Nat.le_of_ble_eq_true rfl) dL_law_1039 ?_
  refine jj_icmp_eq 1525 dL_law_1042 (by decide) (fun _ => ?_) (fun w => absurd rfl w)
  exact kk μ2 h3
set_option maxRecDepth 100000 in
theorem lc_25 {g : jj_G} {X : jj_X} {b L : Nat} {xs : Nat → Int32} (hL : jj_Ls g X b L xs) (d : Nat) {i : Nat} (hi : i + 6 ≤ L) (hM : L ≤ 3072) {μ : jj_M} (hI : jI μ) (kk : ∀ m2 : jj_M, jI m2 → jj_V g X RL cL_law 4 (d + 80) 1525 [(0, .ref b), (1, .ref (jj_ad g 0)), (2, .ref (jj_ad g 60)), (3, .int (nI i))] [] m2) : jj_V g X RL cL_law 4 (d + 80) 1047 [(0, .ref b), (1, .ref (jj_ad g 0)), (2, .ref (jj_ad g 60)), (3, .int (nI i))] [] μ := by
  obtain ⟨r, μ1, μ2, h1, h2, h3⟩ := st_alive hI (xs (nI i + 1).toNatClampNeg) (xs (nI i + 2).toNatClampNeg) (xs (nI i + 3).toNatClampNeg)
  refine jj_aload_n dL_law_1047 1 rfl ?_
  refine jj_aload_n dL_law_1048 0 rfl ?_
  refine jj_iload_n dL_law_1049 3 rfl ?_
  refine jj_iconst (1) dL_law_1050 rfl ?_
  refine jj_iadd dL_law_1051 ?_
  refine jj_sld hL (lw_in1 hi hM) dL_law_1052 ?_
  refine jj_aload_n dL_law_1053 0 rfl ?_
  refine jj_iload_n dL_law_1054 3 rfl ?_
  refine jj_iconst (2) dL_law_1055 rfl ?_
  refine jj_iadd dL_law_1056 ?_
  refine jj_sld hL (lw_in2 hi hM) dL_law_1057 ?_
  refine jj_aload_n dL_law_1058 0 rfl ?_
  refine jj_iload_n dL_law_1059 3 rfl ?_
  refine jj_iconst (3) dL_law_1060 rfl ?_
  refine jj_iadd dL_law_1061 ?_
  refine jj_sld hL (lw_in3 hi hM) dL_law_1062 ?_
  refine jj_callVi [.int (xs (nI i + 1).toNatClampNeg), .int (xs (nI i + 2).toNatClampNeg), .int (xs (nI i + 3).toNatClampNeg)] [] (c_wnf_alive (d + 74) h1) jm_wnf_alive lkL_121 (b := 0) rfl (by decide) (jj_E7 rfl) rfl rfl rfl (by omega) rfl (Nat.le_of_ble_eq_true rfl) dL_law_1063 ?_
  refine jj_aload_n dL_law_1066 2 rfl ?_
  refine jj_aload_n dL_law_1067 0 rfl ?_
  refine jj_iload_n dL_law_1068 3 rfl ?_
  refine jj_iconst (1) dL_law_1069 rfl ?_
  refine jj_iadd dL_law_1070 ?_
  refine jj_sld hL (lw_in1 hi hM) dL_law_1071 ?_
  refine jj_aload_n dL_law_1072 0 rfl ?_
  refine jj_iload_n dL_law_1073 3 rfl ?_
  refine jj_iconst (2) dL_law_1074 rfl ?_
  refine jj_iadd dL_law_1075 ?_
  refine jj_sld hL (lw_in2 hi hM) dL_law_1076 ?_
  refine jj_aload_n dL_law_1077 0 rfl ?_
  refine jj_iload_n dL_law_1078 3 rfl ?_
  refine jj_iconst (3) dL_law_1079 rfl ?_
  refine jj_iadd dL_law_1080 ?_
  refine jj_sld hL (lw_in3 hi hM) dL_law_1081 ?_
  refine jj_callVi [.int (xs (nI i + 1).toNatClampNeg), .int (xs (nI i + 2).toNatClampNeg), .int (xs (nI i + 3).toNatClampNeg)] [.int r] (c_mdf_alive (d + 23) h2) jm_mdf_alive lkL_124 (b := 60) rfl (by decide) (jj_E8 rfl) rfl rfl rfl (by omega) rfl (Nat.le_of_ble_eq_true rfl) dL_law_1082 ?_
  refine jj_icmp_eq 1525 dL_law_1085 (by decide) (fun _ => ?_) (fun w => absurd rfl w)
  exact kk μ2 h3
set_option maxRecDepth 100000 in
theorem lc_26 {g : jj_G} {X : jj_X} {b L : Nat} {xs : Nat → Int32} (hL : jj_Ls g X b L xs) (d : Nat) {i : Nat} (hi : i + 6 ≤ L) (hM : L ≤ 3072) {μ : jj_M} (hI : jI μ) (kk : ∀ m2 : jj_M, jI m2 → jj_V g X RL cL_law 4 (d + 80) 1525 [(0, .ref b), (1, .ref (jj_ad g 0)), (2, .ref (jj_ad g 60)), (3, .int (nI i))] [] m2) : jj_V g X RL cL_law 4 (d + 80) 1090 [(0, .ref b), (1, .ref (jj_ad g 0)), (2, .ref (jj_ad g 60)), (3, .int (nI i))] [] μ := by
  obtain ⟨r, μ1, μ2, h1, h2, h3⟩ := st_grown hI (xs (nI i + 1).toNatClampNeg) (xs (nI i + 2).toNatClampNeg) (xs (nI i + 3).toNatClampNeg)
  refine jj_aload_n dL_law_1090 1 rfl ?_
  refine jj_aload_n dL_law_1091 0 rfl ?_
  refine jj_iload_n dL_law_1092 3 rfl ?_
  refine jj_iconst (1) dL_law_1093 rfl ?_
  refine jj_iadd dL_law_1094 ?_
  refine jj_sld hL (lw_in1 hi hM) dL_law_1095 ?_
  refine jj_aload_n dL_law_1096 0 rfl ?_
  refine jj_iload_n dL_law_1097 3 rfl ?_
  refine jj_iconst (2) dL_law_1098 rfl ?_
  refine jj_iadd dL_law_1099 ?_
  refine jj_sld hL (lw_in2 hi hM) dL_law_1100 ?_
  refine jj_aload_n dL_law_1101 0 rfl ?_
  refine jj_iload_n dL_law_1102 3 rfl ?_
  refine jj_iconst (3) dL_law_1103 rfl ?_
  refine jj_iadd dL_law_1104 ?_
  refine jj_sld hL (lw_in3 hi hM) dL_law_1105 ?_
  refine jj_callVi [.int (xs (nI i + 1).toNatClampNeg), .int (xs (nI i + 2).toNatClampNeg), .int (xs (nI i + 3).toNatClampNeg)] [] (c_wnf_grown (d + 76) h1) jm_wnf_grown lkL_125 (b := 0) rfl (by decide) (jj_E7 rfl) rfl rfl rfl (by omega) rfl (Nat.le_of_ble_eq_true rfl) dL_law_1106 ?_
  refine jj_aload_n dL_law_1109 2 rfl ?_
  refine jj_aload_n dL_law_1110 0 rfl ?_
  refine jj_iload_n dL_law_1111 3 rfl ?_
  refine jj_iconst (1) dL_law_1112 rfl ?_
  refine jj_iadd dL_law_1113 ?_
  refine jj_sld hL (lw_in1 hi hM) dL_law_1114 ?_
  refine jj_aload_n dL_law_1115 0 rfl ?_
  refine jj_iload_n dL_law_1116 3 rfl ?_
  refine jj_iconst (2) dL_law_1117 rfl ?_
  refine jj_iadd dL_law_1118 ?_
  refine jj_sld hL (lw_in2 hi hM) dL_law_1119 ?_
  refine jj_aload_n dL_law_1120 0 rfl ?_
  refine jj_iload_n dL_law_1121 3 rfl ?_
  refine jj_iconst (3) dL_law_1122 rfl ?_
  refine jj_iadd dL_law_1123 ?_
  refine jj_sld hL (lw_in3 hi hM) dL_law_1124 ?_
  refine jj_callVi [.int (xs (nI i + 1).toNatClampNeg), .int (xs (nI i + 2).toNatClampNeg), .int (xs (nI i + 3).toNatClampNeg)] [.int r] (c_mdf_grown (d + 77) h2) jm_mdf_grown lkL_128 (b := 60) rfl (by decide) (jj_E8 rfl) rfl rfl rfl (by omega) rfl (Nat.le_of_ble_eq_true rfl) dL_law_1125 ?_
  refine jj_icmp_eq 1525 dL_law_1128 (by decide) (fun _ => ?_) (fun w => absurd rfl w)
  exact kk μ2 h3
set_option maxRecDepth 100000 in
theorem lc_27 {g : jj_G} {X : jj_X} {b L : Nat} {xs : Nat → Int32} (hL : jj_Ls g X b L xs) (d : Nat) {i : Nat} (hi : i + 6 ≤ L) (hM : L ≤ 3072) {μ : jj_M} (hI : jI μ) (kk : ∀ m2 : jj_M, jI m2 → jj_V g X RL cL_law 4 (d + 80) 1525 [(0, .ref b), (1, .ref (jj_ad g 0)), (2, .ref (jj_ad g 60)), (3, .int (nI i))] [] m2) : jj_V g X RL cL_law 4 (d + 80) 1133 [(0, .ref b), (1, .ref (jj_ad g 0)), (2, .ref (jj_ad g 60)), (3, .int (nI i))] [] μ := by
  obtain ⟨r, μ1, μ2, h1, h2, h3⟩ := st_seed hI (xs (nI i + 1).toNatClampNeg)
  refine jj_aload_n dL_law_1133 1 rfl ?_
  refine jj_aload_n dL_law_1134 0 rfl ?_
  refine jj_iload_n dL_law_1135 3 rfl ?_
  refine jj_iconst (1) dL_law_1136 rfl ?_
  refine jj_iadd dL_law_1137 ?_
  refine jj_sld hL (lw_in1 hi hM) dL_law_1138 ?_
  refine jj_callVi [.int (xs (nI i + 1).toNatClampNeg)] [] (c_wnf_seed (d + 79) h1) jm_wnf_seed lkL_129 (b := 0) rfl (by decide) (jj_E7 rfl) rfl rfl rfl (by omega) rfl (Nat.le_of_ble_eq_true rfl) dL_law_1139 ?_
  refine jj_aload_n dL_law_1142 2 rfl ?_
  refine jj_aload_n dL_law_1143 0 rfl ?_
  refine jj_iload_n dL_law_1144 3 rfl ?_
  refine jj_iconst (1) dL_law_1145 rfl ?_
  refine jj_iadd dL_law_1146 ?_
  refine jj_sld hL (lw_in1 hi hM) dL_law_1147 ?_
  refine jj_callVi [.int (xs (nI i + 1).toNatClampNeg)] [.int r] (c_mdf_seed (d + 78) h2) jm_mdf_seed lkL_132 (b := 60) rfl (by decide) (jj_E8 rfl) rfl rfl rfl (by omega) rfl (Nat.le_of_ble_eq_true rfl) dL_law_1148 ?_
  refine jj_icmp_eq 1525 dL_law_1151 (by decide) (fun _ => ?_) (fun w => absurd rfl w)
  exact kk μ2 h3
set_option maxRecDepth 100000 in
theorem lc_28 {g : jj_G} {X : jj_X} {b L : Nat} {xs : Nat → Int32} (hL : jj_Ls g X b L xs) (d : Nat) {i : Nat} (hi : i + 6 ≤ L) (hM : L ≤ 3072) {μ : jj_M} (hI : jI μ) (kk : ∀ m2 : jj_M, jI m2 → jj_V g X RL cL_law 4 (d + 80) 1525 [(0, .ref b), (1, .ref (jj_ad g 0)), (2, .ref (jj_ad g 60)), (3, .int (nI i))] [] m2) : jj_V g X RL cL_law 4 (d + 80) 1156 [(0, .ref b), (1, .ref (jj_ad g 0)), (2, .ref (jj_ad g 60)), (3, .int (nI i))] [] μ := by
  obtain ⟨r, μ1, μ2, h1, h2, h3⟩ := st_voice hI (xs (nI i + 1).toNatClampNeg) (xs (nI i + 2).toNatClampNeg) (xs (nI i + 3).toNatClampNeg)
  refine jj_aload_n dL_law_1156 1 rfl ?_
  refine jj_aload_n dL_law_1157 0 rfl ?_
  refine jj_iload_n dL_law_1158 3 rfl ?_
  refine jj_iconst (1) dL_law_1159 rfl ?_
  refine jj_iadd dL_law_1160 ?_
  refine jj_sld hL (lw_in1 hi hM) dL_law_1161 ?_
  refine jj_aload_n dL_law_1162 0 rfl ?_
  refine jj_iload_n dL_law_1163 3 rfl ?_
  refine jj_iconst (2) dL_law_1164 rfl ?_
  refine jj_iadd dL_law_1165 ?_
  refine jj_sld hL (lw_in2 hi hM) dL_law_1166 ?_
  refine jj_aload_n dL_law_1167 0 rfl ?_
  refine jj_iload_n dL_law_1168 3 rfl ?_
  refine jj_iconst (3) dL_law_1169 rfl ?_
  refine jj_iadd dL_law_1170 ?_
  refine jj_sld hL (lw_in3 hi hM) dL_law_1171 ?_
  refine jj_callVi [.int (xs (nI i + 1).toNatClampNeg), .int (xs (nI i + 2).toNatClampNeg), .int (xs (nI i + 3).toNatClampNeg)] [] (c_wnf_voice (d + 57) h1) jm_wnf_voice lkL_133 (b := 0) rfl (by decide) (jj_E7 rfl) rfl rfl rfl (by omega) rfl (Nat.le_of_ble_eq_true rfl) dL_law_1172 ?_
  refine jj_aload_n dL_law_1175 2 rfl ?_
  refine jj_aload_n dL_law_1176 0 rfl ?_
  refine jj_iload_n dL_law_1177 3 rfl ?_
  refine jj_iconst (1) dL_law_1178 rfl ?_
  refine jj_iadd dL_law_1179 ?_
  refine jj_sld hL (lw_in1 hi hM) dL_law_1180 ?_
  refine jj_aload_n dL_law_1181 0 rfl ?_
  refine jj_iload_n dL_law_1182 3 rfl ?_
  refine jj_iconst (2) dL_law_1183 rfl ?_
  refine jj_iadd dL_law_1184 ?_
  refine jj_sld hL (lw_in2 hi hM) dL_law_1185 ?_
  refine jj_aload_n dL_law_1186 0 rfl ?_
  refine jj_iload_n dL_law_1187 3 rfl ?_
  refine jj_iconst (3) dL_law_1188 rfl ?_
  refine jj_iadd dL_law_1189 ?_
  refine jj_sld hL (lw_in3 hi hM) dL_law_1190 ?_
  refine jj_callVi [.int (xs (nI i + 1).toNatClampNeg), .int (xs (nI i + 2).toNatClampNeg), .int (xs (nI i + 3).toNatClampNeg)] [.int r] (c_mdf_voice (d + 71) h2) jm_mdf_voice lkL_136 (b := 60) rfl (by decide) (jj_E8 rfl) rfl rfl rfl (by omega) rfl (Nat.le_of_ble_eq_true rfl) dL_law_1191 ?_
  refine jj_icmp_eq 1525 dL_law_1194 (by decide) (fun _ => ?_) (fun w => absurd rfl w)
  exact kk μ2 h3
set_option maxRecDepth 100000 in
theorem lc_29 {g : jj_G} {X : jj_X} {b L : Nat} {xs : Nat → Int32} (hL : jj_Ls g X b L xs) (d : Nat) {i : Nat} (hi : i + 6 ≤ L) (hM : L ≤ 3072) {μ : jj_M} (hI : jI μ) (kk : ∀ m2 : jj_M, jI m2 → jj_V g X RL cL_law 4 (d + 80) 1525 [(0, .ref b), (1, .ref (jj_ad g 0)), (2, .ref (jj_ad g 60)), (3, .int (nI i))] [] m2) : jj_V g X RL cL_law 4 (d + 80) 1199 [(0, .ref b), (1, .ref (jj_ad g 0)), (2, .ref (jj_ad g 60)), (3, .int (nI i))] [] μ := by
  obtain ⟨r, μ1, μ2, h1, h2, h3⟩ := st_trace hI (xs (nI i + 1).toNatClampNeg)
  refine jj_aload_n dL_law_1199 1 rfl ?_
  refine jj_aload_n dL_law_1200 0 rfl ?_
  refine jj_iload_n dL_law_1201 3 rfl ?_
  refine jj_iconst (1) dL_law_1202 rfl ?_
  refine jj_iadd dL_law_1203 ?_
  refine jj_sld hL (lw_in1 hi hM) dL_law_1204 ?_
  refine jj_callVi [.int (xs (nI i + 1).toNatClampNeg)] [] (c_wnf_trace (d + 78) h1) jm_wnf_trace lkL_137 (b := 0) rfl (by decide) (jj_E7 rfl) rfl rfl rfl (by omega) rfl (Nat.le_of_ble_eq_true rfl) dL_law_1205 ?_
  refine jj_aload_n dL_law_1208 2 rfl ?_
  refine jj_aload_n dL_law_1209 0 rfl ?_
  refine jj_iload_n dL_law_1210 3 rfl ?_
  refine jj_iconst (1) dL_law_1211 rfl ?_
  refine jj_iadd dL_law_1212 ?_
  refine jj_sld hL (lw_in1 hi hM) dL_law_1213 ?_
  refine jj_callVi [.int (xs (nI i + 1).toNatClampNeg)] [.int r] (c_mdf_trace (d + 78) h2) jm_mdf_trace lkL_140 (b := 60) rfl (by decide) (jj_E8 rfl) rfl rfl rfl (by omega) rfl (Nat.le_of_ble_eq_true rfl) dL_law_1214 ?_
  refine jj_icmp_eq 1525 dL_law_1217 (by decide) (fun _ => ?_) (fun w => absurd rfl w)
  exact kk μ2 h3
set_option maxRecDepth 100000 in
theorem lc_30 {g : jj_G} {X : jj_X} {b L : Nat} {xs : Nat → Int32} (hL : jj_Ls g X b L xs) (d : Nat) {i : Nat} (hi : i + 6 ≤ L) (hM : L ≤ 3072) {μ : jj_M} (hI : jI μ) (kk : ∀ m2 : jj_M, jI m2 → jj_V g X RL cL_law 4 (d + 80) 1525 [(0, .ref b), (1, .ref (jj_ad g 0)), (2, .ref (jj_ad g 60)), (3, .int (nI i))] [] m2) : jj_V g X RL cL_law 4 (d + 80) 1222 [(0, .ref b), (1, .ref (jj_ad g 0)), (2, .ref (jj_ad g 60)), (3, .int (nI i))] [] μ := by
  obtain ⟨r, μ1, μ2, h1, h2, h3⟩ := st_sheet hI (xs (nI i + 1).toNatClampNeg) (xs (nI i + 2).toNatClampNeg) (xs (nI i + 3).toNatClampNeg)
  refine jj_aload_n dL_law_1222 1 rfl ?_
  refine jj_aload_n dL_law_1223 0 rfl ?_
  refine jj_iload_n dL_law_1224 3 rfl ?_
  refine jj_iconst (1) dL_law_1225 rfl ?_
  refine jj_iadd dL_law_1226 ?_
  refine jj_sld hL (lw_in1 hi hM) dL_law_1227 ?_
  refine jj_aload_n dL_law_1228 0 rfl ?_
  refine jj_iload_n dL_law_1229 3 rfl ?_
  refine jj_iconst (2) dL_law_1230 rfl ?_
  refine jj_iadd dL_law_1231 ?_
  refine jj_sld hL (lw_in2 hi hM) dL_law_1232 ?_
  refine jj_aload_n dL_law_1233 0 rfl ?_
  refine jj_iload_n dL_law_1234 3 rfl ?_
  refine jj_iconst (3) dL_law_1235 rfl ?_
  refine jj_iadd dL_law_1236 ?_
  refine jj_sld hL (lw_in3 hi hM) dL_law_1237 ?_
  refine jj_callVi [.int (xs (nI i + 1).toNatClampNeg), .int (xs (nI i + 2).toNatClampNeg), .int (xs (nI i + 3).toNatClampNeg)] [] (c_wnf_sheet (d + 77) h1) jm_wnf_sheet lkL_141 (b := 0) rfl (by decide) (jj_E7 rfl) rfl rfl rfl (by omega) rfl (Nat.le_of_ble_eq_true rfl) dL_law_1238 ?_
  refine jj_aload_n dL_law_1241 2 rfl ?_
  refine jj_aload_n dL_law_1242 0 rfl ?_
  refine jj_iload_n dL_law_1243 3 rfl ?_
  refine jj_iconst (1) dL_law_1244 rfl ?_
  refine jj_iadd dL_law_1245 ?_
  refine jj_sld hL (lw_in1 hi hM) dL_law_1246 ?_
  refine jj_aload_n dL_law_1247 0 rfl ?_
  refine jj_iload_n dL_law_1248 3 rfl ?_
  refine jj_iconst (2) dL_law_1249 rfl ?_
  refine jj_iadd dL_law_1250 ?_
  refine jj_sld hL (lw_in2 hi hM) dL_law_1251 ?_
  refine jj_aload_n dL_law_1252 0 rfl ?_
  refine jj_iload_n dL_law_1253 3 rfl ?_
  refine jj_iconst (3) dL_law_1254 rfl ?_
  refine jj_iadd dL_law_1255 ?_
  refine jj_sld hL (lw_in3 hi hM) dL_law_1256 ?_
  refine jj_callVi [.int (xs (nI i + 1).toNatClampNeg), .int (xs (nI i + 2).toNatClampNeg), .int (xs (nI i + 3).toNatClampNeg)] [.int r] (c_mdf_sheet (d + 77) h2) jm_mdf_sheet lkL_144 (b := 60) rfl (by decide) (jj_E8 rfl) rfl rfl rfl (by omega) rfl (Nat.le_of_ble_eq_true rfl) dL_law_1257 ?_
  refine jj_icmp_eq 1525 dL_law_1260 (by decide) (fun _ => ?_) (fun w => absurd rfl w)
  exact kk μ2 h3
set_option maxRecDepth 100000 in
theorem lc_31 {g : jj_G} {X : jj_X} {b L : Nat} {xs : Nat → Int32} (hL : jj_Ls g X b L xs) (d : Nat) {i : Nat} (hi : i + 6 ≤ L) (hM : L ≤ 3072) {μ : jj_M} (hI : jI μ) (kk : ∀ m2 : jj_M, jI m2 → jj_V g X RL cL_law 4 (d + 80) 1525 [(0, .ref b), (1, .ref (jj_ad g 0)), (2, .ref (jj_ad g 60)), (3, .int (nI i))] [] m2) : jj_V g X RL cL_law 4 (d + 80) 1265 [(0, .ref b), (1, .ref (jj_ad g 0)), (2, .ref (jj_ad g 60)), (3, .int (nI i))] [] μ := by
  obtain ⟨r, μ1, μ2, h1, h2, h3⟩ := st_put hI (xs (nI i + 1).toNatClampNeg) (xs (nI i + 2).toNatClampNeg) (xs (nI i + 3).toNatClampNeg)
  refine jj_aload_n dL_law_1265 1 rfl ?_
  refine jj_aload_n dL_law_1266 0 rfl ?_
  refine jj_iload_n dL_law_1267 3 rfl ?_
  refine jj_iconst (1) dL_law_1268 rfl ?_
  refine jj_iadd dL_law_1269 ?_
  refine jj_sld hL (lw_in1 hi hM) dL_law_1270 ?_
  refine jj_aload_n dL_law_1271 0 rfl ?_
  refine jj_iload_n dL_law_1272 3 rfl ?_
  refine jj_iconst (2) dL_law_1273 rfl ?_
  refine jj_iadd dL_law_1274 ?_
  refine jj_sld hL (lw_in2 hi hM) dL_law_1275 ?_
  refine jj_aload_n dL_law_1276 0 rfl ?_
  refine jj_iload_n dL_law_1277 3 rfl ?_
  refine jj_iconst (3) dL_law_1278 rfl ?_
  refine jj_iadd dL_law_1279 ?_
  refine jj_sld hL (lw_in3 hi hM) dL_law_1280 ?_
  refine jj_callVi [.int (xs (nI i + 1).toNatClampNeg), .int (xs (nI i + 2).toNatClampNeg), .int (xs (nI i + 3).toNatClampNeg)] [] (c_wnf_put (d + 77) h1) jm_wnf_put lkL_145 (b := 0) rfl (by decide) (jj_E7 rfl) rfl rfl rfl (by omega) rfl (Nat.le_of_ble_eq_true rfl) dL_law_1281 ?_
  refine jj_aload_n dL_law_1284 2 rfl ?_
  refine jj_aload_n dL_law_1285 0 rfl ?_
  refine jj_iload_n dL_law_1286 3 rfl ?_
  refine jj_iconst (1) dL_law_1287 rfl ?_
  refine jj_iadd dL_law_1288 ?_
  refine jj_sld hL (lw_in1 hi hM) dL_law_1289 ?_
  refine jj_aload_n dL_law_1290 0 rfl ?_
  refine jj_iload_n dL_law_1291 3 rfl ?_
  refine jj_iconst (2) dL_law_1292 rfl ?_
  refine jj_iadd dL_law_1293 ?_
  refine jj_sld hL (lw_in2 hi hM) dL_law_1294 ?_
  refine jj_aload_n dL_law_1295 0 rfl ?_
  refine jj_iload_n dL_law_1296 3 rfl ?_
  refine jj_iconst (3) dL_law_1297 rfl ?_
  refine jj_iadd dL_law_1298 ?_
  refine jj_sld hL (lw_in3 hi hM) dL_law_1299 ?_
  refine jj_callVi [.int (xs (nI i + 1).toNatClampNeg), .int (xs (nI i + 2).toNatClampNeg), .int (xs (nI i + 3).toNatClampNeg)] [.int r] (c_mdf_put (d + 76) h2) jm_mdf_put lkL_148 (b := 60) rfl (by decide) (jj_E8 rfl) rfl rfl rfl (by omega) rfl (Nat.le_of_ble_eq_true rfl) dL_law_1300 ?_
  refine jj_icmp_eq 1525 dL_law_1303 (by decide) (fun _ => ?_) (fun w => absurd rfl w)
  exact kk μ2 h3
set_option maxRecDepth 100000 in
theorem lc_32 {g : jj_G} {X : jj_X} {b L : Nat} {xs : Nat → Int32} (hL : jj_Ls g X b L xs) (d : Nat) {i : Nat} (hi : i + 6 ≤ L) (hM : L ≤ 3072) {μ : jj_M} (hI : jI μ) (kk : ∀ m2 : jj_M, jI m2 → jj_V g X RL cL_law 4 (d + 80) 1525 [(0, .ref b), (1, .ref (jj_ad g 0)), (2, .ref (jj_ad g 60)), (3, .int (nI i))] [] m2) : jj_V g X RL cL_law 4 (d + 80) 1308 [(0, .ref b), (1, .ref (jj_ad g 0)), (2, .ref (jj_ad g 60)), (3, .int (nI i))] [] μ := by
  obtain ⟨r, μ1, μ2, h1, h2, h3⟩ := st_move hI (xs (nI i + 1).toNatClampNeg) (xs (nI i + 2).toNatClampNeg) (xs (nI i + 3).toNatClampNeg) (xs (nI i + 4).toNatClampNeg) (xs (nI i + 5).toNatClampNeg)
  refine jj_aload_n dL_law_1308 1 rfl ?_
  refine jj_aload_n dL_law_1309 0 rfl ?_
  refine jj_iload_n dL_law_1310 3 rfl ?_
  refine jj_iconst (1) dL_law_1311 rfl ?_
  refine jj_iadd dL_law_1312 ?_
  refine jj_sld hL (lw_in1 hi hM) dL_law_1313 ?_
  refine jj_aload_n dL_law_1314 0 rfl ?_
  refine jj_iload_n dL_law_1315 3 rfl ?_
  refine jj_iconst (2) dL_law_1316 rfl ?_
  refine jj_iadd dL_law_1317 ?_
  refine jj_sld hL (lw_in2 hi hM) dL_law_1318 ?_
  refine jj_aload_n dL_law_1319 0 rfl ?_
  refine jj_iload_n dL_law_1320 3 rfl ?_
  refine jj_iconst (3) dL_law_1321 rfl ?_
  refine jj_iadd dL_law_1322 ?_
  refine jj_sld hL (lw_in3 hi hM) dL_law_1323 ?_
  refine jj_aload_n dL_law_1324 0 rfl ?_
  refine jj_iload_n dL_law_1325 3 rfl ?_
  refine jj_iconst (4) dL_law_1326 rfl ?_
  refine jj_iadd dL_law_1327 ?_
  refine jj_sld hL (lw_in4 hi hM) dL_law_1328 ?_
  refine jj_aload_n dL_law_1329 0 rfl ?_
  refine jj_iload_n dL_law_1330 3 rfl ?_
  refine jj_iconst (5) dL_law_1331 rfl ?_
  refine jj_iadd dL_law_1332 ?_
  refine jj_sld hL (lw_in5 hi hM) dL_law_1333 ?_
  refine jj_callVi [.int (xs (nI i + 1).toNatClampNeg), .int (xs (nI i + 2).toNatClampNeg), .int (xs (nI i + 3).toNatClampNeg), .int (xs (nI i + 4).toNatClampNeg), .int (xs (nI i + 5).toNatClampNeg)] [] (c_wnf_move (d + 77) h1) jm_wnf_move lkL_149 (b := 0) rfl (by decide) (jj_E7 rfl) rfl rfl rfl (by omega) rfl (Nat.le_of_ble_eq_true rfl) dL_law_1334 ?_
  refine jj_aload_n dL_law_1337 2 rfl ?_
  refine jj_aload_n dL_law_1338 0 rfl ?_
  refine jj_iload_n dL_law_1339 3 rfl ?_
  refine jj_iconst (1) dL_law_1340 rfl ?_
  refine jj_iadd dL_law_1341 ?_
  refine jj_sld hL (lw_in1 hi hM) dL_law_1342 ?_
  refine jj_aload_n dL_law_1343 0 rfl ?_
  refine jj_iload_n dL_law_1344 3 rfl ?_
  refine jj_iconst (2) dL_law_1345 rfl ?_
  refine jj_iadd dL_law_1346 ?_
  refine jj_sld hL (lw_in2 hi hM) dL_law_1347 ?_
  refine jj_aload_n dL_law_1348 0 rfl ?_
  refine jj_iload_n dL_law_1349 3 rfl ?_
  refine jj_iconst (3) dL_law_1350 rfl ?_
  refine jj_iadd dL_law_1351 ?_
  refine jj_sld hL (lw_in3 hi hM) dL_law_1352 ?_
  refine jj_aload_n dL_law_1353 0 rfl ?_
  refine jj_iload_n dL_law_1354 3 rfl ?_
  refine jj_iconst (4) dL_law_1355 rfl ?_
  refine jj_iadd dL_law_1356 ?_
  refine jj_sld hL (lw_in4 hi hM) dL_law_1357 ?_
  refine jj_aload_n dL_law_1358 0 rfl ?_
  refine jj_iload_n dL_law_1359 3 rfl ?_
  refine jj_iconst (5) dL_law_1360 rfl ?_
  refine jj_iadd dL_law_1361 ?_
  refine jj_sld hL (lw_in5 hi hM) dL_law_1362 ?_
  refine jj_callVi [.int (xs (nI i + 1).toNatClampNeg), .int (xs (nI i + 2).toNatClampNeg), .int (xs (nI i + 3).toNatClampNeg), .int (xs (nI i + 4).toNatClampNeg), .int (xs (nI i + 5).toNatClampNeg)] [.int r] (c_mdf_move (d + 77) h2) jm_mdf_move lkL_153 (b := 60) rfl (by decide) (jj_E8 rfl) rfl rfl rfl (by omega) rfl (Nat.le_of_ble_eq_true rfl) dL_law_1363 ?_
  refine jj_icmp_eq 1525 dL_law_1366 (by decide) (fun _ => ?_) (fun w => absurd rfl w)
  exact kk μ2 h3
set_option maxRecDepth 100000 in
theorem lc_33 {g : jj_G} {X : jj_X} {b L : Nat} {xs : Nat → Int32} (hL : jj_Ls g X b L xs) (d : Nat) {i : Nat} (hi : i + 6 ≤ L) (hM : L ≤ 3072) {μ : jj_M} (hI : jI μ) (kk : ∀ m2 : jj_M, jI m2 → jj_V g X RL cL_law 4 (d + 80) 1525 [(0, .ref b), (1, .ref (jj_ad g 0)), (2, .ref (jj_ad g 60)), (3, .int (nI i))] [] m2) : jj_V g X RL cL_law 4 (d + 80) 1371 [(0, .ref b), (1, .ref (jj_ad g 0)), (2, .ref (jj_ad g 60)), (3, .int (nI i))] [] μ := by
  obtain ⟨r, μ1, μ2, h1, h2, h3⟩ := st_waters hI (xs (nI i + 1).toNatClampNeg)
  refine jj_aload_n dL_law_1371 1 rfl ?_
  refine jj_aload_n dL_law_1372 0 rfl ?_
  refine jj_iload_n dL_law_1373 3 rfl ?_
  refine jj_iconst (1) dL_law_1374 rfl ?_
  refine jj_iadd dL_law_1375 ?_
  refine jj_sld hL (lw_in1 hi hM) dL_law_1376 ?_
  refine jj_callVi [.int (xs (nI i + 1).toNatClampNeg)] [] (c_wnf_waters (d + 76) h1) jm_wnf_waters lkL_154 (b := 0) rfl (by decide) (jj_E7 rfl) rfl rfl rfl (by omega) rfl (Nat.le_of_ble_eq_true rfl) dL_law_1377 ?_
  refine jj_aload_n dL_law_1380 2 rfl ?_
  refine jj_aload_n dL_law_1381 0 rfl ?_
  refine jj_iload_n dL_law_1382 3 rfl ?_
  refine jj_iconst (1) dL_law_1383 rfl ?_
  refine jj_iadd dL_law_1384 ?_
  refine jj_sld hL (lw_in1 hi hM) dL_law_1385 ?_
  refine jj_callVi [.int (xs (nI i + 1).toNatClampNeg)] [.int r] (c_mdf_waters (d + 76) h2) jm_mdf_waters lkL_157 (b := 60) rfl (by decide) (jj_E8 rfl) rfl rfl rfl (by omega) rfl (Nat.le_of_ble_eq_true rfl) dL_law_1386 ?_
  refine jj_icmp_eq 1525 dL_law_1389 (by decide) (fun _ => ?_) (fun w => absurd rfl w)
  exact kk μ2 h3
set_option maxRecDepth 100000 in
theorem lc_34 {g : jj_G} {X : jj_X} {b L : Nat} {xs : Nat → Int32} (hL : jj_Ls g X b L xs) (d : Nat) {i : Nat} (hi : i + 6 ≤ L) (hM : L ≤ 3072) {μ : jj_M} (hI : jI μ) (kk : ∀ m2 : jj_M, jI m2 → jj_V g X RL cL_law 4 (d + 80) 1525 [(0, .ref b), (1, .ref (jj_ad g 0)), (2, .ref (jj_ad g 60)), (3, .int (nI i))] [] m2) : jj_V g X RL cL_law 4 (d + 80) 1394 [(0, .ref b), (1, .ref (jj_ad g 0)), (2, .ref (jj_ad g 60)), (3, .int (nI i))] [] μ := by
  obtain ⟨r, μ1, μ2, h1, h2, h3⟩ := st_judge hI (xs (nI i + 1).toNatClampNeg)
  refine jj_aload_n dL_law_1394 1 rfl ?_
  refine jj_aload_n dL_law_1395 0 rfl ?_
  refine jj_iload_n dL_law_1396 3 rfl ?_
  refine jj_iconst (1) dL_law_1397 rfl ?_
  refine jj_iadd dL_law_1398 ?_
  refine jj_sld hL (lw_in1 hi hM) dL_law_1399 ?_
  refine jj_callVi [.int (xs (nI i + 1).toNatClampNeg)] [] (c_wnf_judge (d + 77) h1) jm_wnf_judge lkL_158 (b := 0) rfl (by decide) (jj_E7 rfl) rfl rfl rfl (by omega) rfl (Nat.le_of_ble_eq_true rfl) dL_law_1400 ?_
  refine jj_aload_n dL_law_1403 2 rfl ?_
  refine jj_aload_n dL_law_1404 0 rfl ?_
  refine jj_iload_n dL_law_1405 3 rfl ?_
  refine jj_iconst (1) dL_law_1406 rfl ?_
  refine jj_iadd dL_law_1407 ?_
  refine jj_sld hL (lw_in1 hi hM) dL_law_1408 ?_
  refine jj_callVi [.int (xs (nI i + 1).toNatClampNeg)] [.int r] (c_mdf_judge (d + 76) h2) jm_mdf_judge lkL_161 (b := 60) rfl (by decide) (jj_E8 rfl) rfl rfl rfl (by omega) rfl (Nat.le_of_ble_eq_true rfl) dL_law_1409 ?_
  refine jj_icmp_eq 1525 dL_law_1412 (by decide) (fun _ => ?_) (fun w => absurd rfl w)
  exact kk μ2 h3
set_option maxRecDepth 100000 in
theorem lc_35 {g : jj_G} {X : jj_X} {b L : Nat} {xs : Nat → Int32} (hL : jj_Ls g X b L xs) (d : Nat) {i : Nat} (hi : i + 6 ≤ L) (hM : L ≤ 3072) {μ : jj_M} (hI : jI μ) (kk : ∀ m2 : jj_M, jI m2 → jj_V g X RL cL_law 4 (d + 80) 1525 [(0, .ref b), (1, .ref (jj_ad g 0)), (2, .ref (jj_ad g 60)), (3, .int (nI i))] [] m2) : jj_V g X RL cL_law 4 (d + 80) 1417 [(0, .ref b), (1, .ref (jj_ad g 0)), (2, .ref (jj_ad g 60)), (3, .int (nI i))] [] μ := by
  obtain ⟨r, μ1, μ2, h1, h2, h3⟩ := st_image hI 
  refine jj_aload_n dL_law_1417 1 rfl ?_
  refine jj_callVi [] [] (c_wnf_image (d + 76) h1) jm_wnf_image lkL_162 (b := 0) rfl (by decide) (jj_E7 rfl) rfl rfl rfl (by omega) rfl (Nat.le_of_ble_eq_true rfl) dL_law_1418 ?_
  refine jj_aload_n dL_law_1421 2 rfl ?_
  refine jj_callVi [] [.int r] (c_mdf_image (d + 79) h2) jm_mdf_image lkL_165 (b := 60) rfl (by decide) (jj_E8 rfl) rfl rfl rfl (by omega) rfl (Nat.le_of_ble_eq_true rfl) dL_law_1422 ?_
  refine jj_icmp_eq 1525 dL_law_1425 (by decide) (fun _ => ?_) (fun w => absurd rfl w)
  exact kk μ2 h3
set_option maxRecDepth 100000 in
theorem lc_36 {g : jj_G} {X : jj_X} {b L : Nat} {xs : Nat → Int32} (hL : jj_Ls g X b L xs) (d : Nat) {i : Nat} (hi : i + 6 ≤ L) (hM : L ≤ 3072) {μ : jj_M} (hI : jI μ) (kk : ∀ m2 : jj_M, jI m2 → jj_V g X RL cL_law 4 (d + 80) 1525 [(0, .ref b), (1, .ref (jj_ad g 0)), (2, .ref (jj_ad g 60)), (3, .int (nI i))] [] m2) : jj_V g X RL cL_law 4 (d + 80) 1430 [(0, .ref b), (1, .ref (jj_ad g 0)), (2, .ref (jj_ad g 60)), (3, .int (nI i))] [] μ := by
  obtain ⟨r, μ1, μ2, h1, h2, h3⟩ := st_restore hI 
  refine jj_aload_n dL_law_1430 1 rfl ?_
  refine jj_callVi [] [] (c_wnf_restore (d + 76) h1) jm_wnf_restore lkL_166 (b := 0) rfl (by decide) (jj_E7 rfl) rfl rfl rfl (by omega) rfl (Nat.le_of_ble_eq_true rfl) dL_law_1431 ?_
  refine jj_aload_n dL_law_1434 2 rfl ?_
  refine jj_callVi [] [.int r] (c_mdf_restore (d + 78) h2) jm_mdf_restore lkL_169 (b := 60) rfl (by decide) (jj_E8 rfl) rfl rfl rfl (by omega) rfl (Nat.le_of_ble_eq_true rfl) dL_law_1435 ?_
  refine jj_icmp_eq 1525 dL_law_1438 (by decide) (fun _ => ?_) (fun w => absurd rfl w)
  exact kk μ2 h3
set_option maxRecDepth 100000 in
theorem lc_37 {g : jj_G} {X : jj_X} {b L : Nat} {xs : Nat → Int32} (hL : jj_Ls g X b L xs) (d : Nat) {i : Nat} (hi : i + 6 ≤ L) (hM : L ≤ 3072) {μ : jj_M} (hI : jI μ) (kk : ∀ m2 : jj_M, jI m2 → jj_V g X RL cL_law 4 (d + 80) 1525 [(0, .ref b), (1, .ref (jj_ad g 0)), (2, .ref (jj_ad g 60)), (3, .int (nI i))] [] m2) : jj_V g X RL cL_law 4 (d + 80) 1443 [(0, .ref b), (1, .ref (jj_ad g 0)), (2, .ref (jj_ad g 60)), (3, .int (nI i))] [] μ := by
  obtain ⟨r, μ1, μ2, h1, h2, h3⟩ := st_tell hI (xs (nI i + 1).toNatClampNeg)
  refine jj_aload_n dL_law_1443 1 rfl ?_
  refine jj_aload_n dL_law_1444 0 rfl ?_
  refine jj_iload_n dL_law_1445 3 rfl ?_
  refine jj_iconst (1) dL_law_1446 rfl ?_
  refine jj_iadd dL_law_1447 ?_
  refine jj_sld hL (lw_in1 hi hM) dL_law_1448 ?_
  refine jj_callVi [.int (xs (nI i + 1).toNatClampNeg)] [] (c_wnf_tell (d + 78) h1) jm_wnf_tell lkL_170 (b := 0) rfl (by decide) (jj_E7 rfl) rfl rfl rfl (by omega) rfl (Nat.le_of_ble_eq_true rfl) dL_law_1449 ?_
  refine jj_aload_n dL_law_1452 2 rfl ?_
  refine jj_aload_n dL_law_1453 0 rfl ?_
  refine jj_iload_n dL_law_1454 3 rfl ?_
  refine jj_iconst (1) dL_law_1455 rfl ?_
  refine jj_iadd dL_law_1456 ?_
  refine jj_sld hL (lw_in1 hi hM) dL_law_1457 ?_
  refine jj_callVi [.int (xs (nI i + 1).toNatClampNeg)] [.int r] (c_mdf_tell (d + 78) h2) jm_mdf_tell lkL_173 (b := 60) rfl (by decide) (jj_E8 rfl) rfl rfl rfl (by omega) rfl (Nat.le_of_ble_eq_true rfl) dL_law_1458 ?_
  refine jj_icmp_eq 1525 dL_law_1461 (by decide) (fun _ => ?_) (fun w => absurd rfl w)
  exact kk μ2 h3
set_option maxRecDepth 100000 in
theorem lc_38 {g : jj_G} {X : jj_X} {b L : Nat} {xs : Nat → Int32} (hL : jj_Ls g X b L xs) (d : Nat) {i : Nat} (hi : i + 6 ≤ L) (hM : L ≤ 3072) {μ : jj_M} (hI : jI μ) (kk : ∀ m2 : jj_M, jI m2 → jj_V g X RL cL_law 4 (d + 80) 1525 [(0, .ref b), (1, .ref (jj_ad g 0)), (2, .ref (jj_ad g 60)), (3, .int (nI i))] [] m2) : jj_V g X RL cL_law 4 (d + 80) 1466 [(0, .ref b), (1, .ref (jj_ad g 0)), (2, .ref (jj_ad g 60)), (3, .int (nI i))] [] μ := by
  obtain ⟨r, μ1, μ2, h1, h2, h3⟩ := st_check hI 
  refine jj_aload_n dL_law_1466 1 rfl ?_
  refine jj_callVi [] [] (c_wnf_check (d + 77) h1) jm_wnf_check lkL_174 (b := 0) rfl (by decide) (jj_E7 rfl) rfl rfl rfl (by omega) rfl (Nat.le_of_ble_eq_true rfl) dL_law_1467 ?_
  refine jj_aload_n dL_law_1470 2 rfl ?_
  refine jj_callVi [] [.int r] (c_mdf_check (d + 74) h2) jm_mdf_check lkL_177 (b := 60) rfl (by decide) (jj_E8 rfl) rfl rfl rfl (by omega) rfl (Nat.le_of_ble_eq_true rfl) dL_law_1471 ?_
  refine jj_icmp_eq 1525 dL_law_1474 (by decide) (fun _ => ?_) (fun w => absurd rfl w)
  exact kk μ2 h3
set_option maxRecDepth 100000 in
theorem lc_39 {g : jj_G} {X : jj_X} {b L : Nat} {xs : Nat → Int32} (hL : jj_Ls g X b L xs) (d : Nat) {i : Nat} (hi : i + 6 ≤ L) (hM : L ≤ 3072) {μ : jj_M} (hI : jI μ) (kk : ∀ m2 : jj_M, jI m2 → jj_V g X RL cL_law 4 (d + 80) 1525 [(0, .ref b), (1, .ref (jj_ad g 0)), (2, .ref (jj_ad g 60)), (3, .int (nI i))] [] m2) : jj_V g X RL cL_law 4 (d + 80) 1479 [(0, .ref b), (1, .ref (jj_ad g 0)), (2, .ref (jj_ad g 60)), (3, .int (nI i))] [] μ := by
  obtain ⟨r, μ1, μ2, h1, h2, h3⟩ := st_count hI (xs (nI i + 1).toNatClampNeg)
  refine jj_aload_n dL_law_1479 1 rfl ?_
  refine jj_aload_n dL_law_1480 0 rfl ?_
  refine jj_iload_n dL_law_1481 3 rfl ?_
  refine jj_iconst (1) dL_law_1482 rfl ?_
  refine jj_iadd dL_law_1483 ?_
  refine jj_sld hL (lw_in1 hi hM) dL_law_1484 ?_
  refine jj_callVi [.int (xs (nI i + 1).toNatClampNeg)] [] (c_wnf_count (d + 74) h1) jm_wnf_count lkL_178 (b := 0) rfl (by decide) (jj_E7 rfl) rfl rfl rfl (by omega) rfl (Nat.le_of_ble_eq_true rfl) dL_law_1485 ?_
  refine jj_aload_n dL_law_1488 2 rfl ?_
  refine jj_aload_n dL_law_1489 0 rfl ?_
  refine jj_iload_n dL_law_1490 3 rfl ?_
  refine jj_iconst (1) dL_law_1491 rfl ?_
  refine jj_iadd dL_law_1492 ?_
  refine jj_sld hL (lw_in1 hi hM) dL_law_1493 ?_
  refine jj_callVi [.int (xs (nI i + 1).toNatClampNeg)] [.int r] (c_mdf_count (d + 76) h2) jm_mdf_count lkL_181 (b := 60) rfl (by decide) (jj_E8 rfl) rfl rfl rfl (by omega) rfl (Nat.le_of_ble_eq_true rfl) dL_law_1494 ?_
  refine jj_icmp_eq 1525 dL_law_1497 (by decide) (fun _ => ?_) (fun w => absurd rfl w)
  exact kk μ2 h3
set_option maxRecDepth 100000 in
theorem lc_40 {g : jj_G} {X : jj_X} {b L : Nat} {xs : Nat → Int32} (hL : jj_Ls g X b L xs) (d : Nat) {i : Nat} (hi : i + 6 ≤ L) (hM : L ≤ 3072) {μ : jj_M} (hI : jI μ) (kk : ∀ m2 : jj_M, jI m2 → jj_V g X RL cL_law 4 (d + 80) 1525 [(0, .ref b), (1, .ref (jj_ad g 0)), (2, .ref (jj_ad g 60)), (3, .int (nI i))] [] m2) : jj_V g X RL cL_law 4 (d + 80) 1502 [(0, .ref b), (1, .ref (jj_ad g 0)), (2, .ref (jj_ad g 60)), (3, .int (nI i))] [] μ := by
  obtain ⟨r, μ1, μ2, h1, h2, h3⟩ := st_told hI (xs (nI i + 1).toNatClampNeg)
  refine jj_aload_n dL_law_1502 1 rfl ?_
  refine jj_aload_n dL_law_1503 0 rfl ?_
  refine jj_iload_n dL_law_1504 3 rfl ?_
  refine jj_iconst (1) dL_law_1505 rfl ?_
  refine jj_iadd dL_law_1506 ?_
  refine jj_sld hL (lw_in1 hi hM) dL_law_1507 ?_
  refine jj_callVi [.int (xs (nI i + 1).toNatClampNeg)] [] (c_wnf_told (d + 78) h1) jm_wnf_told lkL_182 (b := 0) rfl (by decide) (jj_E7 rfl) rfl rfl rfl (by omega) rfl (Nat.le_of_ble_eq_true rfl) dL_law_1508 ?_
  refine jj_aload_n dL_law_1511 2 rfl ?_
  refine jj_aload_n dL_law_1512 0 rfl ?_
  refine jj_iload_n dL_law_1513 3 rfl ?_
  refine jj_iconst (1) dL_law_1514 rfl ?_
  refine jj_iadd dL_law_1515 ?_
  refine jj_sld hL (lw_in1 hi hM) dL_law_1516 ?_
  refine jj_callVi [.int (xs (nI i + 1).toNatClampNeg)] [.int r] (c_mdf_told (d + 78) h2) jm_mdf_told lkL_185 (b := 60) rfl (by decide) (jj_E8 rfl) rfl rfl rfl (by omega) rfl (Nat.le_of_ble_eq_true rfl) dL_law_1517 ?_
  refine jj_icmp_eq 1525 dL_law_1520 (by decide) (fun _ => ?_) (fun w => absurd rfl w)
  exact kk μ2 h3
set_option maxRecDepth 100000 in
/-- the law's switch -/
theorem lw_switch {g : jj_G} {X : jj_X} {b L : Nat} {xs : Nat → Int32} (hL : jj_Ls g X b L xs) (d : Nat) {i : Nat} (hi : i + 6 ≤ L) (hM : L ≤ 3072) {μ : jj_M} (hI : jI μ) (x : Int32) (kk : ∀ m2 : jj_M, jI m2 → jj_V g X RL cL_law 4 (d + 80) 1525 [(0, .ref b), (1, .ref (jj_ad g 0)), (2, .ref (jj_ad g 60)), (3, .int (nI i))] [] m2) : jj_V g X RL cL_law 4 (d + 80) 33 [(0, .ref b), (1, .ref (jj_ad g 0)), (2, .ref (jj_ad g 60)), (3, .int (nI i))] [.int x] μ := by
  by_cases c0 : x = 0
  · subst c0
    exact jj_tableIn 212 dL_law_33 (by decide) (by decide) rfl (show (33 : Int) + 179 = (212 : Nat) by decide) (lc_0 hL d hi hM hI kk)
  by_cases c1 : x = 1
  · subst c1
    exact jj_tableIn 245 dL_law_33 (by decide) (by decide) rfl (show (33 : Int) + 212 = (245 : Nat) by decide) (lc_1 hL d hi hM hI kk)
  by_cases c2 : x = 2
  · subst c2
    exact jj_tableIn 288 dL_law_33 (by decide) (by decide) rfl (show (33 : Int) + 255 = (288 : Nat) by decide) (lc_2 hL d hi hM hI kk)
  by_cases c3 : x = 3
  · subst c3
    exact jj_tableIn 331 dL_law_33 (by decide) (by decide) rfl (show (33 : Int) + 298 = (331 : Nat) by decide) (lc_3 hL d hi hM hI kk)
  by_cases c4 : x = 4
  · subst c4
    exact jj_tableIn 364 dL_law_33 (by decide) (by decide) rfl (show (33 : Int) + 331 = (364 : Nat) by decide) (lc_4 hL d hi hM hI kk)
  by_cases c5 : x = 5
  · subst c5
    exact jj_tableIn 387 dL_law_33 (by decide) (by decide) rfl (show (33 : Int) + 354 = (387 : Nat) by decide) (lc_5 hL d hi hM hI kk)
  by_cases c6 : x = 6
  · subst c6
    exact jj_tableIn 420 dL_law_33 (by decide) (by decide) rfl (show (33 : Int) + 387 = (420 : Nat) by decide) (lc_6 hL d hi hM hI kk)
  by_cases c7 : x = 7
  · subst c7
    exact jj_tableIn 453 dL_law_33 (by decide) (by decide) rfl (show (33 : Int) + 420 = (453 : Nat) by decide) (lc_7 hL d hi hM hI kk)
  by_cases c8 : x = 8
  · subst c8
    exact jj_tableIn 486 dL_law_33 (by decide) (by decide) rfl (show (33 : Int) + 453 = (486 : Nat) by decide) (lc_8 hL d hi hM hI kk)
  by_cases c9 : x = 9
  · subst c9
    exact jj_tableIn 519 dL_law_33 (by decide) (by decide) rfl (show (33 : Int) + 486 = (519 : Nat) by decide) (lc_9 hL d hi hM hI kk)
  by_cases c10 : x = 10
  · subst c10
    exact jj_tableIn 582 dL_law_33 (by decide) (by decide) rfl (show (33 : Int) + 549 = (582 : Nat) by decide) (lc_10 hL d hi hM hI kk)
  by_cases c11 : x = 11
  · subst c11
    exact jj_tableIn 605 dL_law_33 (by decide) (by decide) rfl (show (33 : Int) + 572 = (605 : Nat) by decide) (lc_11 hL d hi hM hI kk)
  by_cases c12 : x = 12
  · subst c12
    exact jj_tableIn 658 dL_law_33 (by decide) (by decide) rfl (show (33 : Int) + 625 = (658 : Nat) by decide) (lc_12 hL d hi hM hI kk)
  by_cases c13 : x = 13
  · subst c13
    exact jj_tableIn 681 dL_law_33 (by decide) (by decide) rfl (show (33 : Int) + 648 = (681 : Nat) by decide) (lc_13 hL d hi hM hI kk)
  by_cases c14 : x = 14
  · subst c14
    exact jj_tableIn 714 dL_law_33 (by decide) (by decide) rfl (show (33 : Int) + 681 = (714 : Nat) by decide) (lc_14 hL d hi hM hI kk)
  by_cases c15 : x = 15
  · subst c15
    exact jj_tableIn 757 dL_law_33 (by decide) (by decide) rfl (show (33 : Int) + 724 = (757 : Nat) by decide) (lc_15 hL d hi hM hI kk)
  by_cases c16 : x = 16
  · subst c16
    exact jj_tableIn 780 dL_law_33 (by decide) (by decide) rfl (show (33 : Int) + 747 = (780 : Nat) by decide) (lc_16 hL d hi hM hI kk)
  by_cases c17 : x = 17
  · subst c17
    exact jj_tableIn 803 dL_law_33 (by decide) (by decide) rfl (show (33 : Int) + 770 = (803 : Nat) by decide) (lc_17 hL d hi hM hI kk)
  by_cases c18 : x = 18
  · subst c18
    exact jj_tableIn 816 dL_law_33 (by decide) (by decide) rfl (show (33 : Int) + 783 = (816 : Nat) by decide) (lc_18 hL d hi hM hI kk)
  by_cases c19 : x = 19
  · subst c19
    exact jj_tableIn 859 dL_law_33 (by decide) (by decide) rfl (show (33 : Int) + 826 = (859 : Nat) by decide) (lc_19 hL d hi hM hI kk)
  by_cases c20 : x = 20
  · subst c20
    exact jj_tableIn 902 dL_law_33 (by decide) (by decide) rfl (show (33 : Int) + 869 = (902 : Nat) by decide) (lc_20 hL d hi hM hI kk)
  by_cases c21 : x = 21
  · subst c21
    exact jj_tableIn 945 dL_law_33 (by decide) (by decide) rfl (show (33 : Int) + 912 = (945 : Nat) by decide) (lc_21 hL d hi hM hI kk)
  by_cases c22 : x = 22
  · subst c22
    exact jj_tableIn 978 dL_law_33 (by decide) (by decide) rfl (show (33 : Int) + 945 = (978 : Nat) by decide) (lc_22 hL d hi hM hI kk)
  by_cases c23 : x = 23
  · subst c23
    exact jj_tableIn 991 dL_law_33 (by decide) (by decide) rfl (show (33 : Int) + 958 = (991 : Nat) by decide) (lc_23 hL d hi hM hI kk)
  by_cases c24 : x = 24
  · subst c24
    exact jj_tableIn 1024 dL_law_33 (by decide) (by decide) rfl (show (33 : Int) + 991 = (1024 : Nat) by decide) (lc_24 hL d hi hM hI kk)
  by_cases c25 : x = 25
  · subst c25
    exact jj_tableIn 1047 dL_law_33 (by decide) (by decide) rfl (show (33 : Int) + 1014 = (1047 : Nat) by decide) (lc_25 hL d hi hM hI kk)
  by_cases c26 : x = 26
  · subst c26
    exact jj_tableIn 1090 dL_law_33 (by decide) (by decide) rfl (show (33 : Int) + 1057 = (1090 : Nat) by decide) (lc_26 hL d hi hM hI kk)
  by_cases c27 : x = 27
  · subst c27
    exact jj_tableIn 1133 dL_law_33 (by decide) (by decide) rfl (show (33 : Int) + 1100 = (1133 : Nat) by decide) (lc_27 hL d hi hM hI kk)
  by_cases c28 : x = 28
  · subst c28
    exact jj_tableIn 1156 dL_law_33 (by decide) (by decide) rfl (show (33 : Int) + 1123 = (1156 : Nat) by decide) (lc_28 hL d hi hM hI kk)
  by_cases c29 : x = 29
  · subst c29
    exact jj_tableIn 1199 dL_law_33 (by decide) (by decide) rfl (show (33 : Int) + 1166 = (1199 : Nat) by decide) (lc_29 hL d hi hM hI kk)
  by_cases c30 : x = 30
  · subst c30
    exact jj_tableIn 1222 dL_law_33 (by decide) (by decide) rfl (show (33 : Int) + 1189 = (1222 : Nat) by decide) (lc_30 hL d hi hM hI kk)
  by_cases c31 : x = 31
  · subst c31
    exact jj_tableIn 1265 dL_law_33 (by decide) (by decide) rfl (show (33 : Int) + 1232 = (1265 : Nat) by decide) (lc_31 hL d hi hM hI kk)
  by_cases c32 : x = 32
  · subst c32
    exact jj_tableIn 1308 dL_law_33 (by decide) (by decide) rfl (show (33 : Int) + 1275 = (1308 : Nat) by decide) (lc_32 hL d hi hM hI kk)
  by_cases c33 : x = 33
  · subst c33
    exact jj_tableIn 1371 dL_law_33 (by decide) (by decide) rfl (show (33 : Int) + 1338 = (1371 : Nat) by decide) (lc_33 hL d hi hM hI kk)
  by_cases c34 : x = 34
  · subst c34
    exact jj_tableIn 1394 dL_law_33 (by decide) (by decide) rfl (show (33 : Int) + 1361 = (1394 : Nat) by decide) (lc_34 hL d hi hM hI kk)
  by_cases c35 : x = 35
  · subst c35
    exact jj_tableIn 1417 dL_law_33 (by decide) (by decide) rfl (show (33 : Int) + 1384 = (1417 : Nat) by decide) (lc_35 hL d hi hM hI kk)
  by_cases c36 : x = 36
  · subst c36
    exact jj_tableIn 1430 dL_law_33 (by decide) (by decide) rfl (show (33 : Int) + 1397 = (1430 : Nat) by decide) (lc_36 hL d hi hM hI kk)
  by_cases c37 : x = 37
  · subst c37
    exact jj_tableIn 1443 dL_law_33 (by decide) (by decide) rfl (show (33 : Int) + 1410 = (1443 : Nat) by decide) (lc_37 hL d hi hM hI kk)
  by_cases c38 : x = 38
  · subst c38
    exact jj_tableIn 1466 dL_law_33 (by decide) (by decide) rfl (show (33 : Int) + 1433 = (1466 : Nat) by decide) (lc_38 hL d hi hM hI kk)
  by_cases c39 : x = 39
  · subst c39
    exact jj_tableIn 1479 dL_law_33 (by decide) (by decide) rfl (show (33 : Int) + 1446 = (1479 : Nat) by decide) (lc_39 hL d hi hM hI kk)
  by_cases c40 : x = 40
  · subst c40
    exact jj_tableIn 1502 dL_law_33 (by decide) (by decide) rfl (show (33 : Int) + 1469 = (1502 : Nat) by decide) (lc_40 hL d hi hM hI kk)
  have c0 : ¬ Int32.toInt x = 0 := fun w => c0 (Int32.toInt_inj.mp (w.trans (by decide)))
  have c1 : ¬ Int32.toInt x = 1 := fun w => c1 (Int32.toInt_inj.mp (w.trans (by decide)))
  have c2 : ¬ Int32.toInt x = 2 := fun w => c2 (Int32.toInt_inj.mp (w.trans (by decide)))
  have c3 : ¬ Int32.toInt x = 3 := fun w => c3 (Int32.toInt_inj.mp (w.trans (by decide)))
  have c4 : ¬ Int32.toInt x = 4 := fun w => c4 (Int32.toInt_inj.mp (w.trans (by decide)))
  have c5 : ¬ Int32.toInt x = 5 := fun w => c5 (Int32.toInt_inj.mp (w.trans (by decide)))
  have c6 : ¬ Int32.toInt x = 6 := fun w => c6 (Int32.toInt_inj.mp (w.trans (by decide)))
  have c7 : ¬ Int32.toInt x = 7 := fun w => c7 (Int32.toInt_inj.mp (w.trans (by decide)))
  have c8 : ¬ Int32.toInt x = 8 := fun w => c8 (Int32.toInt_inj.mp (w.trans (by decide)))
  have c9 : ¬ Int32.toInt x = 9 := fun w => c9 (Int32.toInt_inj.mp (w.trans (by decide)))
  have c10 : ¬ Int32.toInt x = 10 := fun w => c10 (Int32.toInt_inj.mp (w.trans (by decide)))
  have c11 : ¬ Int32.toInt x = 11 := fun w => c11 (Int32.toInt_inj.mp (w.trans (by decide)))
  have c12 : ¬ Int32.toInt x = 12 := fun w => c12 (Int32.toInt_inj.mp (w.trans (by decide)))
  have c13 : ¬ Int32.toInt x = 13 := fun w => c13 (Int32.toInt_inj.mp (w.trans (by decide)))
  have c14 : ¬ Int32.toInt x = 14 := fun w => c14 (Int32.toInt_inj.mp (w.trans (by decide)))
  have c15 : ¬ Int32.toInt x = 15 := fun w => c15 (Int32.toInt_inj.mp (w.trans (by decide)))
  have c16 : ¬ Int32.toInt x = 16 := fun w => c16 (Int32.toInt_inj.mp (w.trans (by decide)))
  have c17 : ¬ Int32.toInt x = 17 := fun w => c17 (Int32.toInt_inj.mp (w.trans (by decide)))
  have c18 : ¬ Int32.toInt x = 18 := fun w => c18 (Int32.toInt_inj.mp (w.trans (by decide)))
  have c19 : ¬ Int32.toInt x = 19 := fun w => c19 (Int32.toInt_inj.mp (w.trans (by decide)))
  have c20 : ¬ Int32.toInt x = 20 := fun w => c20 (Int32.toInt_inj.mp (w.trans (by decide)))
  have c21 : ¬ Int32.toInt x = 21 := fun w => c21 (Int32.toInt_inj.mp (w.trans (by decide)))
  have c22 : ¬ Int32.toInt x = 22 := fun w => c22 (Int32.toInt_inj.mp (w.trans (by decide)))
  have c23 : ¬ Int32.toInt x = 23 := fun w => c23 (Int32.toInt_inj.mp (w.trans (by decide)))
  have c24 : ¬ Int32.toInt x = 24 := fun w => c24 (Int32.toInt_inj.mp (w.trans (by decide)))
  have c25 : ¬ Int32.toInt x = 25 := fun w => c25 (Int32.toInt_inj.mp (w.trans (by decide)))
  have c26 : ¬ Int32.toInt x = 26 := fun w => c26 (Int32.toInt_inj.mp (w.trans (by decide)))
  have c27 : ¬ Int32.toInt x = 27 := fun w => c27 (Int32.toInt_inj.mp (w.trans (by decide)))
  have c28 : ¬ Int32.toInt x = 28 := fun w => c28 (Int32.toInt_inj.mp (w.trans (by decide)))
  have c29 : ¬ Int32.toInt x = 29 := fun w => c29 (Int32.toInt_inj.mp (w.trans (by decide)))
  have c30 : ¬ Int32.toInt x = 30 := fun w => c30 (Int32.toInt_inj.mp (w.trans (by decide)))
  have c31 : ¬ Int32.toInt x = 31 := fun w => c31 (Int32.toInt_inj.mp (w.trans (by decide)))
  have c32 : ¬ Int32.toInt x = 32 := fun w => c32 (Int32.toInt_inj.mp (w.trans (by decide)))
  have c33 : ¬ Int32.toInt x = 33 := fun w => c33 (Int32.toInt_inj.mp (w.trans (by decide)))
  have c34 : ¬ Int32.toInt x = 34 := fun w => c34 (Int32.toInt_inj.mp (w.trans (by decide)))
  have c35 : ¬ Int32.toInt x = 35 := fun w => c35 (Int32.toInt_inj.mp (w.trans (by decide)))
  have c36 : ¬ Int32.toInt x = 36 := fun w => c36 (Int32.toInt_inj.mp (w.trans (by decide)))
  have c37 : ¬ Int32.toInt x = 37 := fun w => c37 (Int32.toInt_inj.mp (w.trans (by decide)))
  have c38 : ¬ Int32.toInt x = 38 := fun w => c38 (Int32.toInt_inj.mp (w.trans (by decide)))
  have c39 : ¬ Int32.toInt x = 39 := fun w => c39 (Int32.toInt_inj.mp (w.trans (by decide)))
  have c40 : ¬ Int32.toInt x = 40 := fun w => c40 (Int32.toInt_inj.mp (w.trans (by decide)))
  exact jj_tableOut 1525 dL_law_33 (by omega) (by decide) (kk μ hI)
set_option maxRecDepth 100000 in
/-- the law's loop -/
theorem lw_loop {g : jj_G} {X : jj_X} {b L : Nat} {xs : Nat → Int32} (hL : jj_Ls g X b L xs) (hX : jj_LX g X b) (d : Nat) (hM : L ≤ 3072) : ∀ (n i : Nat) (μ : jj_M), i ≤ L → L + 1 ≤ i + n → jI μ → jj_V g X RL cL_law 4 (d + 80) 18 [(0, .ref b), (1, .ref (jj_ad g 0)), (2, .ref (jj_ad g 60)), (3, .int (nI i))] [] μ := by
  intro n
  induction n with
  | zero => intro i μ h1 h2; exact absurd h2 (by omega)
  | succ n ih =>
    intro i μ h1 h2 hI
    refine jj_iload_n dL_law_18 3 rfl ?_
    refine jj_aload_n dL_law_19 0 rfl ?_
    refine jj_slen hL dL_law_20 ?_
    refine jj_bipush (6) dL_law_21 rfl ?_
    refine jj_isub dL_law_23 ?_
    refine jj_icmp_gt 1531 dL_law_24 (by decide) (fun c => ?_) (fun c => ?_)
    · refine jj_iconst (1) dL_law_1531 rfl ?_
      exact jj_lend hX dL_law_1532
    · have hi : i + 6 ≤ L := by
        have e1 : (nI i).toInt = (i : Int) := nI_toInt (by omega)
        have e2 : (nI L).toInt = (L : Int) := nI_toInt (by omega)
        have e3 : (nI L - 6).toInt = (L : Int) - 6 := by
          rw [Int32.toInt_sub, e2]
          show ((L : Int) - 6).bmod (2 ^ 32) = _
          apply Int.bmod_eq_of_le <;> omega
        rw [Int32.lt_iff_toInt_lt, e1, e3] at c
        omega
      refine jj_aload_n dL_law_27 0 rfl ?_
      refine jj_iload_n dL_law_28 3 rfl ?_
      refine jj_sld hL (lw_in0 hi hM) dL_law_29 ?_
      refine jj_bipush (63) dL_law_30 rfl ?_
      refine jj_iand dL_law_32 ?_
      refine lw_switch hL d hi hM hI _ (fun m2 h2 => ?_)
      refine jj_iinc (nI (i + 6)) [(3, .int (nI (i + 6))), (0, .ref b), (1, .ref (jj_ad g 0)), (2, .ref (jj_ad g 60))] dL_law_1525 3 rfl (by unfold nI; rw [Int32.ofNat_add]; rfl) (by decide) rfl ?_
      refine jj_goto 18 dL_law_1528 (by decide) ?_
      refine jj_sub [1, 2, 3, 0] rfl ?_
      exact ih (i + 6) m2 hi (by omega) h2

