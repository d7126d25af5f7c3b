def mdf_in  (l0 : Int64) (l2 : Int64) (l4 : Int64)  : Int32 := if (lg_cmp l0 l2) < 0 then 0 else if 0 < (lg_cmp l0 l4) then 0 else 1
theorem z_mdf_in (l0 : Int64) (l2 : Int64) (l4 : Int64)  : mdf_in l0 l2 l4 = 0 ∨ mdf_in l0 l2 l4 = 1 := by
  unfold mdf_in
  first | (first | exact Or.inl rfl | exact Or.inr rfl) | ((repeat' split) <;> first | exact Or.inl rfl | exact Or.inr rfl)
set_option maxRecDepth 100000 in
theorem c_mdf_in {g : jj_G} (d : Nat)  {l0 : Int64} {l2 : Int64} {l4 : Int64} {μ : jj_M} {r : Int32}   (h : mdf_in l0 l2 l4 = r) : jj_N g yX8_in cX8_in 6 (some .boolean) (d + 0) [.long l0, .long l2, .long l4] μ (some (.int r)) μ := by
  refine jj_N_of jn_8 (Nat.le_of_ble_eq_true rfl) (fun X hF => ?_)
  unfold mdf_in at h
  refine jj_sub (own := RX8) (lv2 := [(0, .long l0), (2, .long l2), (4, .long l4)]) [0, 1, 2] rfl ?_
  refine jj_lload_n dX8_in_0 0 rfl ?_
  refine jj_lload_n dX8_in_1 1 rfl ?_
  refine jj_lcmp dX8_in_2 ?_
  refine jj_if_lt 17 dX8_in_3 (by decide) (fun c1 => ?_) (fun c1 => ?_)
  · replace h := (if_pos c1).symm.trans h
    refine jj_iconst (0) dX8_in_17 rfl ?_
    exact jj_zret1 hF dX8_in_18 (Or.inl rfl) h
  · replace h := (if_neg c1).symm.trans h
    refine jj_lload_n dX8_in_6 0 rfl ?_
    refine jj_lload dX8_in_7 2 rfl ?_
    refine jj_lcmp dX8_in_9 ?_
    refine jj_if_gt 17 dX8_in_10 (by decide) (fun c2 => ?_) (fun c2 => ?_)
    · replace h := (if_pos c2).symm.trans h
      refine jj_iconst (0) dX8_in_17 rfl ?_
      exact jj_zret1 hF dX8_in_18 (Or.inl rfl) h
    · replace h := (if_neg c2).symm.trans h
      refine jj_iconst (1) dX8_in_13 rfl ?_
      refine jj_goto 18 dX8_in_14 (by decide) ?_
      exact jj_zret1 hF dX8_in_18 (Or.inr rfl) h
def mdf_errs  (x1 : Int32) (μ : jj_M) : Option (Int32 × jj_M) := if jj_i ((-1000000000) - x1) 6 then if jj_i ((-1000000000) - x1) 6 then (some (jj_u μ 64 ((-1000000000) - x1).toNatClampNeg ((μ 64 ((-1000000000) - x1).toNatClampNeg) + 1))).bind fun m3 => some ((x1, m3)) else none else none
set_option maxRecDepth 100000 in
theorem c_mdf_errs {g : jj_G} (d : Nat)  {x1 : Int32} {μ : jj_M} {r : Int32} {μ' : jj_M}   (h : mdf_errs x1 μ = some (r, μ')) : jj_N g yX8_errs cX8_errs 2 (some .int) (d + 0) [.ref (jj_ad g 60), .int x1] μ (some (.int r)) μ' := by
  refine jj_N_of jn_8 (Nat.le_of_ble_eq_true rfl) (fun X hF => ?_)
  unfold mdf_errs at h
  refine jj_sub (own := RX8) (lv2 := [(0, .ref (jj_ad g 60)), (1, .int x1)]) [0, 1] rfl ?_
  refine jj_aload_n dX8_errs_0 0 rfl ?_
  refine jg_8_3 (k := 60) rfl lk_8_19 dX8_errs_1 ?_
  show jj_V g X _ _ _ _ _ _ (.ref (jj_ad g 64) :: _) _
  refine jj_ldc (-1000000000) lk_8_43 dX8_errs_4 ?_
  refine jj_iload_n dX8_errs_6 1 rfl ?_
  refine jj_isub dX8_errs_7 ?_
  refine jj_dup2 dX8_errs_8 rfl rfl ?_
  obtain ⟨g1, h⟩ := jj_ge h
  refine jj_iaload (k := 64) (n := 6) rfl g1 dX8_errs_9 ?_
  refine jj_iconst (1) dX8_errs_10 rfl ?_
  refine jj_iadd dX8_errs_11 ?_
  obtain ⟨g2, h⟩ := jj_ge h
  refine jj_iastore (k := 64) (n := 6) rfl g2 dX8_errs_12 ?_
  obtain ⟨m3, em3, h⟩ := jj_be h
  refine jj_mu em3 ?_
  refine jj_iload_n dX8_errs_13 1 rfl ?_
  exact jj_iret2 hF dX8_errs_14 (Option.some.inj h)
def mdf_held  (x0 : Int32) (x1 : Int32) (x2 : Int32)  : Int32 := if x1 ≤ x0 then if x0 ≤ x2 then x0 else x2 else x1
set_option maxRecDepth 100000 in
theorem c_mdf_held {g : jj_G} (d : Nat)  {x0 : Int32} {x1 : Int32} {x2 : Int32} {μ : jj_M} {r : Int32}   (h : mdf_held x0 x1 x2 = r) : jj_N g yX8_held cX8_held 3 (some .int) (d + 0) [.int x0, .int x1, .int x2] μ (some (.int r)) μ := by
  refine jj_N_of jn_8 (Nat.le_of_ble_eq_true rfl) (fun X hF => ?_)
  unfold mdf_held at h
  refine jj_sub (own := RX8) (lv2 := [(0, .int x0), (1, .int x1), (2, .int x2)]) [0, 1, 2] rfl ?_
  refine jj_iload_n dX8_held_0 0 rfl ?_
  refine jj_iload_n dX8_held_1 1 rfl ?_
  refine jj_icmp_ge 9 dX8_held_2 (by decide) (fun c1 => ?_) (fun c1 => ?_)
  · replace h := (if_pos c1).symm.trans h
    refine jj_iload_n dX8_held_9 0 rfl ?_
    refine jj_iload_n dX8_held_10 2 rfl ?_
    refine jj_icmp_le 18 dX8_held_11 (by decide) (fun c2 => ?_) (fun c2 => ?_)
    · replace h := (if_pos c2).symm.trans h
      refine jj_iload_n dX8_held_18 0 rfl ?_
      exact jj_iret1 hF dX8_held_19 h
    · replace h := (if_neg c2).symm.trans h
      refine jj_iload_n dX8_held_14 2 rfl ?_
      refine jj_goto 19 dX8_held_15 (by decide) ?_
      exact jj_iret1 hF dX8_held_19 h
  · replace h := (if_neg c1).symm.trans h
    refine jj_iload_n dX8_held_5 1 rfl ?_
    refine jj_goto 19 dX8_held_6 (by decide) ?_
    exact jj_iret1 hF dX8_held_19 h
def mdf_laysAside_L2 (N : Nat)   : Nat → Int32 → jj_M → Option (jj_M)
  | 0, _, _ => none
  | n + 1, x1, μ => if 176 ≤ x1 then some μ else if jj_i x1 351 then if jj_i x1 176 then mdf_laysAside_L2 N n (x1 + 1) (jj_u μ 63 x1.toNatClampNeg (μ 61 x1.toNatClampNeg)) else none else none
set_option maxRecDepth 100000 in
theorem t_mdf_laysAside_L2 {g : jj_G} (d : Nat) {N : Nat}    {μ' : jj_M} {X : jj_X}   (hF : jj_F g none none μ' X)  : ∀ (n : Nat) (x1 : Int32) (μ : jj_M), mdf_laysAside_L2 N n x1 μ = some μ' → jj_V g X RX8 cX8_laysAside 2 (d + 0) 2 [(0, .ref (jj_ad g 60)), (1, .int x1)] [] μ := by
  intro n
  induction n with
  | zero =>
    intro x1 μ h
    exact (jj_no h).elim
  | succ n ih =>
    intro x1 μ h
    rw [mdf_laysAside_L2] at h
    refine jj_iload_n dX8_laysAside_2 1 rfl ?_
    refine jj_sipush (176) dX8_laysAside_3 rfl ?_
    refine jj_icmp_ge 27 dX8_laysAside_6 (by decide) (fun c1 => ?_) (fun c1 => ?_)
    · replace h := (if_pos c1).symm.trans h
      exact jj_vret1 hF dX8_laysAside_27 (Option.some.inj h)
    · replace h := (if_neg c1).symm.trans h
      refine jj_aload_n dX8_laysAside_9 0 rfl ?_
      refine jg_8_2 (k := 60) rfl lk_8_16 dX8_laysAside_10 ?_
      show jj_V g X _ _ _ _ _ _ (.ref (jj_ad g 63) :: _) _
      refine jj_iload_n dX8_laysAside_13 1 rfl ?_
      refine jj_aload_n dX8_laysAside_14 0 rfl ?_
      refine jg_8_0 (k := 60) rfl lk_8_7 dX8_laysAside_15 ?_
      show jj_V g X _ _ _ _ _ _ (.ref (jj_ad g 61) :: _) _
      refine jj_iload_n dX8_laysAside_18 1 rfl ?_
      obtain ⟨g2, h⟩ := jj_ge h
      refine jj_iaload (k := 61) (n := 351) rfl g2 dX8_laysAside_19 ?_
      obtain ⟨g3, h⟩ := jj_ge h
      refine jj_iastore (k := 63) (n := 176) rfl g3 dX8_laysAside_20 ?_
      refine jj_iinc (x1 + 1) [(1, .int (x1 + 1)), (0, .ref (jj_ad g 60))] dX8_laysAside_21 1 rfl rfl (by decide) rfl ?_
      refine jj_goto 2 dX8_laysAside_24 (by decide) ?_
      refine jj_sub [1, 0] rfl ?_
      exact ih _ _ h
def mdf_laysAside (N : Nat)  (μ : jj_M) : Option (jj_M) := mdf_laysAside_L2 N N 0 μ
set_option maxRecDepth 100000 in
theorem c_mdf_laysAside {g : jj_G} (d : Nat) {N : Nat}  {μ : jj_M} {μ' : jj_M}   (h : mdf_laysAside N μ = some μ') : jj_N g yX8_laysAside cX8_laysAside 2 none (d + 0) [.ref (jj_ad g 60)] μ none μ' := by
  refine jj_N_of jn_8 (Nat.le_of_ble_eq_true rfl) (fun X hF => ?_)
  unfold mdf_laysAside at h
  refine jj_sub (own := RX8) (lv2 := [(0, .ref (jj_ad g 60))]) [0] rfl ?_
  refine jj_iconst (0) dX8_laysAside_0 rfl ?_
  refine jj_istore_n [(1, .int 0), (0, .ref (jj_ad g 60))] dX8_laysAside_1 (by decide) rfl ?_
  refine jj_sub [1, 0] rfl ?_
  exact t_mdf_laysAside_L2 d   hF  _ _ _ h
def mdf_takesBack_L2 (N : Nat)  (x1 : Int32) : Nat → Int32 → jj_M → Option (Int32 × jj_M)
  | 0, _, _ => none
  | n + 1, x2, μ => if 176 ≤ x2 then some ((x1, μ)) else if jj_i x2 176 then if jj_i x2 351 then mdf_takesBack_L2 N x1 n (x2 + 1) (jj_u μ 61 x2.toNatClampNeg (μ 63 x2.toNatClampNeg)) else none else none
set_option maxRecDepth 100000 in
theorem t_mdf_takesBack_L2 {g : jj_G} (d : Nat) {N : Nat}  {x1 : Int32}  {r : Int32} {μ' : jj_M} {X : jj_X}   (hF : jj_F g (some .int) (some (.int r)) μ' X)  : ∀ (n : Nat) (x2 : Int32) (μ : jj_M), mdf_takesBack_L2 N x1 n x2 μ = some (r, μ') → jj_V g X RX8 cX8_takesBack 3 (d + 0) 2 [(0, .ref (jj_ad g 60)), (1, .int x1), (2, .int x2)] [] μ := by
  intro n
  induction n with
  | zero =>
    intro x2 μ h
    exact (jj_no h).elim
  | succ n ih =>
    intro x2 μ h
    rw [mdf_takesBack_L2] at h
    refine jj_iload_n dX8_takesBack_2 2 rfl ?_
    refine jj_sipush (176) dX8_takesBack_3 rfl ?_
    refine jj_icmp_ge 27 dX8_takesBack_6 (by decide) (fun c1 => ?_) (fun c1 => ?_)
    · replace h := (if_pos c1).symm.trans h
      refine jj_iload_n dX8_takesBack_27 1 rfl ?_
      exact jj_iret2 hF dX8_takesBack_28 (Option.some.inj h)
    · replace h := (if_neg c1).symm.trans h
      refine jj_aload_n dX8_takesBack_9 0 rfl ?_
      refine jg_8_0 (k := 60) rfl lk_8_7 dX8_takesBack_10 ?_
      show jj_V g X _ _ _ _ _ _ (.ref (jj_ad g 61) :: _) _
      refine jj_iload_n dX8_takesBack_13 2 rfl ?_
      refine jj_aload_n dX8_takesBack_14 0 rfl ?_
      refine jg_8_2 (k := 60) rfl lk_8_16 dX8_takesBack_15 ?_
      show jj_V g X _ _ _ _ _ _ (.ref (jj_ad g 63) :: _) _
      refine jj_iload_n dX8_takesBack_18 2 rfl ?_
      obtain ⟨g2, h⟩ := jj_ge h
      refine jj_iaload (k := 63) (n := 176) rfl g2 dX8_takesBack_19 ?_
      obtain ⟨g3, h⟩ := jj_ge h
      refine jj_iastore (k := 61) (n := 351) rfl g3 dX8_takesBack_20 ?_
      refine jj_iinc (x2 + 1) [(2, .int (x2 + 1)), (0, .ref (jj_ad g 60)), (1, .int x1)] dX8_takesBack_21 2 rfl rfl (by decide) rfl ?_
      refine jj_goto 2 dX8_takesBack_24 (by decide) ?_
      refine jj_sub [1, 2, 0] rfl ?_
      exact ih _ _ h
def mdf_takesBack (N : Nat) (x1 : Int32) (μ : jj_M) : Option (Int32 × jj_M) := mdf_takesBack_L2 N x1 N 0 μ
set_option maxRecDepth 100000 in
theorem c_mdf_takesBack {g : jj_G} (d : Nat) {N : Nat} {x1 : Int32} {μ : jj_M} {r : Int32} {μ' : jj_M}   (h : mdf_takesBack N x1 μ = some (r, μ')) : jj_N g yX8_takesBack cX8_takesBack 3 (some .int) (d + 0) [.ref (jj_ad g 60), .int x1] μ (some (.int r)) μ' := by
  refine jj_N_of jn_8 (Nat.le_of_ble_eq_true rfl) (fun X hF => ?_)
  unfold mdf_takesBack at h
  refine jj_sub (own := RX8) (lv2 := [(0, .ref (jj_ad g 60)), (1, .int x1)]) [0, 1] rfl ?_
  refine jj_iconst (0) dX8_takesBack_0 rfl ?_
  refine jj_istore_n [(2, .int 0), (0, .ref (jj_ad g 60)), (1, .int x1)] dX8_takesBack_1 (by decide) rfl ?_
  refine jj_sub [1, 2, 0] rfl ?_
  exact t_mdf_takesBack_L2 d   hF  _ _ _ h
def mdf_isWell  (x0 : Int32)  : Int32 := mdf_in (Int32.toInt64 x0) 0 7
theorem z_mdf_isWell (x0 : Int32)  : mdf_isWell x0 = 0 ∨ mdf_isWell x0 = 1 := by
  unfold mdf_isWell
  first | (first | exact Or.inl rfl | exact Or.inr rfl | apply z_mdf_in) | ((repeat' split) <;> first | exact Or.inl rfl | exact Or.inr rfl | apply z_mdf_in)
set_option maxRecDepth 100000 in
theorem c_mdf_isWell {g : jj_G} (d : Nat)  {x0 : Int32} {μ : jj_M} {r : Int32}   (h : mdf_isWell x0 = r) : jj_N g yX8_isWell cX8_isWell 1 (some .boolean) (d + 1) [.int x0] μ (some (.int r)) μ := by
  refine jj_N_of jn_8 (Nat.le_of_ble_eq_true rfl) (fun X hF => ?_)
  unfold mdf_isWell at h
  refine jj_sub (own := RX8) (lv2 := [(0, .int x0)]) [0] rfl ?_
  refine jj_iload_n dX8_isWell_0 0 rfl ?_
  refine jj_i2l dX8_isWell_1 ?_
  refine jj_lconst (0) dX8_isWell_2 rfl ?_
  refine jj_ldc2_w (7) lk_8_44 dX8_isWell_3 ?_
  refine jj_callSi [.long (Int32.toInt64 x0), .long 0, .long 7] [] (c_mdf_in (d + 0)  rfl) jm_mdf_in lk_8_46 rfl (by omega) rfl (Nat.le_of_ble_eq_true rfl) dX8_isWell_6 ?_
  exact jj_zret1 hF dX8_isWell_9 (z_mdf_in _ _ _) h
def mdf_isPerson  (x1 : Int32) (μ : jj_M) : Int32 := mdf_in (Int32.toInt64 x1) 0 (Int32.toInt64 ((μ 61 139) - 1))
theorem z_mdf_isPerson (x1 : Int32) (μ : jj_M) : mdf_isPerson x1 μ = 0 ∨ mdf_isPerson x1 μ = 1 := by
  unfold mdf_isPerson
  first | (first | exact Or.inl rfl | exact Or.inr rfl | apply z_mdf_in) | ((repeat' split) <;> first | exact Or.inl rfl | exact Or.inr rfl | apply z_mdf_in)
set_option maxRecDepth 100000 in
theorem c_mdf_isPerson {g : jj_G} (d : Nat)  {x1 : Int32} {μ : jj_M} {r : Int32}   (h : mdf_isPerson x1 μ = r) : jj_N g yX8_isPerson cX8_isPerson 2 (some .boolean) (d + 1) [.ref (jj_ad g 60), .int x1] μ (some (.int r)) μ := by
  refine jj_N_of jn_8 (Nat.le_of_ble_eq_true rfl) (fun X hF => ?_)
  unfold mdf_isPerson at h
  refine jj_sub (own := RX8) (lv2 := [(0, .ref (jj_ad g 60)), (1, .int x1)]) [0, 1] rfl ?_
  refine jj_iload_n dX8_isPerson_0 1 rfl ?_
  refine jj_i2l dX8_isPerson_1 ?_
  refine jj_lconst (0) dX8_isPerson_2 rfl ?_
  refine jj_aload_n dX8_isPerson_3 0 rfl ?_
  refine jg_8_0 (k := 60) rfl lk_8_7 dX8_isPerson_4 ?_
  show jj_V g X _ _ _ _ _ _ (.ref (jj_ad g 61) :: _) _
  refine jj_sipush (139) dX8_isPerson_7 rfl ?_
  refine jj_iaload (k := 61) (n := 351) rfl (show jj_i 139 351 by decide) dX8_isPerson_10 ?_
  show jj_V g X _ _ _ _ _ _ (.int (μ 61 139) :: _) _
  refine jj_iconst (1) dX8_isPerson_11 rfl ?_
  refine jj_isub dX8_isPerson_12 ?_
  refine jj_i2l dX8_isPerson_13 ?_
  refine jj_callSi [.long (Int32.toInt64 x1), .long 0, .long (Int32.toInt64 ((μ 61 139) - 1))] [] (c_mdf_in (d + 0)  rfl) jm_mdf_in lk_8_46 rfl (by omega) rfl (Nat.le_of_ble_eq_true rfl) dX8_isPerson_14 ?_
  exact jj_zret1 hF dX8_isPerson_17 (z_mdf_in _ _ _) h
def mdf_isSet  (x0 : Int32)  : Int32 := mdf_in (Int32.toInt64 x0) 0 255
theorem z_mdf_isSet (x0 : Int32)  : mdf_isSet x0 = 0 ∨ mdf_isSet x0 = 1 := by
  unfold mdf_isSet
  first | (first | exact Or.inl rfl | exact Or.inr rfl | apply z_mdf_in) | ((repeat' split) <;> first | exact Or.inl rfl | exact Or.inr rfl | apply z_mdf_in)
set_option maxRecDepth 100000 in
theorem c_mdf_isSet {g : jj_G} (d : Nat)  {x0 : Int32} {μ : jj_M} {r : Int32}   (h : mdf_isSet x0 = r) : jj_N g yX8_isSet cX8_isSet 1 (some .boolean) (d + 1) [.int x0] μ (some (.int r)) μ := by
  refine jj_N_of jn_8 (Nat.le_of_ble_eq_true rfl) (fun X hF => ?_)
  unfold mdf_isSet at h
  refine jj_sub (own := RX8) (lv2 := [(0, .int x0)]) [0] rfl ?_
  refine jj_iload_n dX8_isSet_0 0 rfl ?_
  refine jj_i2l dX8_isSet_1 ?_
  refine jj_lconst (0) dX8_isSet_2 rfl ?_
  refine jj_ldc2_w (255) lk_8_50 dX8_isSet_3 ?_
  refine jj_callSi [.long (Int32.toInt64 x0), .long 0, .long 255] [] (c_mdf_in (d + 0)  rfl) jm_mdf_in lk_8_46 rfl (by omega) rfl (Nat.le_of_ble_eq_true rfl) dX8_isSet_6 ?_
  exact jj_zret1 hF dX8_isSet_9 (z_mdf_in _ _ _) h
def mdf_isMind  (x0 : Int32)  : Int32 := mdf_in (Int32.toInt64 x0) 0 69
theorem z_mdf_isMind (x0 : Int32)  : mdf_isMind x0 = 0 ∨ mdf_isMind x0 = 1 := by
  unfold mdf_isMind
  first | (first | exact Or.inl rfl | exact Or.inr rfl | apply z_mdf_in) | ((repeat' split) <;> first | exact Or.inl rfl | exact Or.inr rfl | apply z_mdf_in)
set_option maxRecDepth 100000 in
theorem c_mdf_isMind {g : jj_G} (d : Nat)  {x0 : Int32} {μ : jj_M} {r : Int32}   (h : mdf_isMind x0 = r) : jj_N g yX8_isMind cX8_isMind 1 (some .boolean) (d + 1) [.int x0] μ (some (.int r)) μ := by
  refine jj_N_of jn_8 (Nat.le_of_ble_eq_true rfl) (fun X hF => ?_)
  unfold mdf_isMind at h
  refine jj_sub (own := RX8) (lv2 := [(0, .int x0)]) [0] rfl ?_
  refine jj_iload_n dX8_isMind_0 0 rfl ?_
  refine jj_i2l dX8_isMind_1 ?_
  refine jj_lconst (0) dX8_isMind_2 rfl ?_
  refine jj_ldc2_w (69) lk_8_52 dX8_isMind_3 ?_
  refine jj_callSi [.long (Int32.toInt64 x0), .long 0, .long 69] [] (c_mdf_in (d + 0)  rfl) jm_mdf_in lk_8_46 rfl (by omega) rfl (Nat.le_of_ble_eq_true rfl) dX8_isMind_6 ?_
  exact jj_zret1 hF dX8_isMind_9 (z_mdf_in _ _ _) h
def mdf_spot  (x0 : Int32) (x1 : Int32)  : Int32 := (140 + (6 * x0)) + x1
set_option maxRecDepth 100000 in
theorem c_mdf_spot {g : jj_G} (d : Nat)  {x0 : Int32} {x1 : Int32} {μ : jj_M} {r : Int32}   (h : mdf_spot x0 x1 = r) : jj_N g yX8_spot cX8_spot 2 (some .int) (d + 0) [.int x0, .int x1] μ (some (.int r)) μ := by
  refine jj_N_of jn_8 (Nat.le_of_ble_eq_true rfl) (fun X hF => ?_)
  unfold mdf_spot at h
  refine jj_sub (own := RX8) (lv2 := [(0, .int x0), (1, .int x1)]) [0, 1] rfl ?_
  refine jj_sipush (140) dX8_spot_0 rfl ?_
  refine jj_bipush (6) dX8_spot_3 rfl ?_
  refine jj_iload_n dX8_spot_5 0 rfl ?_
  refine jj_imul dX8_spot_6 ?_
  refine jj_iadd dX8_spot_7 ?_
  refine jj_iload_n dX8_spot_8 1 rfl ?_
  refine jj_iadd dX8_spot_9 ?_
  exact jj_iret1 hF dX8_spot_10 h
def mdf_its  (x1 : Int32) (x2 : Int32) (μ : jj_M) : Option (Int32) := if jj_i (mdf_spot x1 x2) 351 then some (μ 61 (mdf_spot x1 x2).toNatClampNeg) else none
set_option maxRecDepth 100000 in
theorem c_mdf_its {g : jj_G} (d : Nat)  {x1 : Int32} {x2 : Int32} {μ : jj_M} {r : Int32}   (h : mdf_its x1 x2 μ = some r) : jj_N g yX8_its cX8_its 3 (some .int) (d + 1) [.ref (jj_ad g 60), .int x1, .int x2] μ (some (.int r)) μ := by
  refine jj_N_of jn_8 (Nat.le_of_ble_eq_true rfl) (fun X hF => ?_)
  unfold mdf_its at h
  refine jj_sub (own := RX8) (lv2 := [(0, .ref (jj_ad g 60)), (1, .int x1), (2, .int x2)]) [0, 1, 2] rfl ?_
  refine jj_aload_n dX8_its_0 0 rfl ?_
  refine jg_8_0 (k := 60) rfl lk_8_7 dX8_its_1 ?_
  show jj_V g X _ _ _ _ _ _ (.ref (jj_ad g 61) :: _) _
  refine jj_iload_n dX8_its_4 1 rfl ?_
  refine jj_iload_n dX8_its_5 2 rfl ?_
  refine jj_callSi [.int x1, .int x2] [.ref (jj_ad g 61)] (c_mdf_spot (d + 0)  rfl) jm_mdf_spot lk_8_54 rfl (by omega) rfl (Nat.le_of_ble_eq_true rfl) dX8_its_6 ?_
  obtain ⟨g1, h⟩ := jj_ge h
  refine jj_iaload (k := 61) (n := 351) rfl g1 dX8_its_9 ?_
  exact jj_iret1 hF dX8_its_10 (Option.some.inj h)
def mdf_becomes  (x1 : Int32) (x2 : Int32) (μ : jj_M) : Option (Int32 × jj_M) := if jj_i x1 351 then if jj_i x1 351 then some ((μ 61 x1.toNatClampNeg, jj_u μ 61 x1.toNatClampNeg x2)) else none else none
set_option maxRecDepth 100000 in
theorem c_mdf_becomes {g : jj_G} (d : Nat)  {x1 : Int32} {x2 : Int32} {μ : jj_M} {r : Int32} {μ' : jj_M}   (h : mdf_becomes x1 x2 μ = some (r, μ')) : jj_N g yX8_becomes cX8_becomes 4 (some .int) (d + 0) [.ref (jj_ad g 60), .int x1, .int x2] μ (some (.int r)) μ' := by
  refine jj_N_of jn_8 (Nat.le_of_ble_eq_true rfl) (fun X hF => ?_)
  unfold mdf_becomes at h
  refine jj_sub (own := RX8) (lv2 := [(0, .ref (jj_ad g 60)), (1, .int x1), (2, .int x2)]) [0, 1, 2] rfl ?_
  refine jj_aload_n dX8_becomes_0 0 rfl ?_
  refine jg_8_0 (k := 60) rfl lk_8_7 dX8_becomes_1 ?_
  show jj_V g X _ _ _ _ _ _ (.ref (jj_ad g 61) :: _) _
  refine jj_iload_n dX8_becomes_4 1 rfl ?_
  obtain ⟨g1, h⟩ := jj_ge h
  refine jj_iaload (k := 61) (n := 351) rfl g1 dX8_becomes_5 ?_
  refine jj_istore_n [(3, .int (μ 61 x1.toNatClampNeg)), (0, .ref (jj_ad g 60)), (1, .int x1), (2, .int x2)] dX8_becomes_6 (by decide) rfl ?_
  refine jj_aload_n dX8_becomes_7 1 rfl ?_
  refine jg_8_0 (k := 60) rfl lk_8_7 dX8_becomes_8 ?_
  show jj_V g X _ _ _ _ _ _ (.ref (jj_ad g 61) :: _) _
  refine jj_iload_n dX8_becomes_11 2 rfl ?_
  refine jj_iload_n dX8_becomes_12 3 rfl ?_
  obtain ⟨g2, h⟩ := jj_ge h
  refine jj_iastore (k := 61) (n := 351) rfl g2 dX8_becomes_13 ?_
  refine jj_iload_n dX8_becomes_14 0 rfl ?_
  exact jj_iret2 hF dX8_becomes_15 (Option.some.inj h)
def mdf_roadOf  (x1 : Int32) (x2 : Int32) (μ : jj_M) : Option (Int32) := if jj_i ((8 + (8 * x1)) + x2) 351 then some (μ 61 ((8 + (8 * x1)) + x2).toNatClampNeg) else none
set_option maxRecDepth 100000 in
theorem c_mdf_roadOf {g : jj_G} (d : Nat)  {x1 : Int32} {x2 : Int32} {μ : jj_M} {r : Int32}   (h : mdf_roadOf x1 x2 μ = some r) : jj_N g yX8_roadOf cX8_roadOf 3 (some .int) (d + 0) [.ref (jj_ad g 60), .int x1, .int x2] μ (some (.int r)) μ := by
  refine jj_N_of jn_8 (Nat.le_of_ble_eq_true rfl) (fun X hF => ?_)
  unfold mdf_roadOf at h
  refine jj_sub (own := RX8) (lv2 := [(0, .ref (jj_ad g 60)), (1, .int x1), (2, .int x2)]) [0, 1, 2] rfl ?_
  refine jj_aload_n dX8_roadOf_0 0 rfl ?_
  refine jg_8_0 (k := 60) rfl lk_8_7 dX8_roadOf_1 ?_
  show jj_V g X _ _ _ _ _ _ (.ref (jj_ad g 61) :: _) _
  refine jj_bipush (8) dX8_roadOf_4 rfl ?_
  refine jj_bipush (8) dX8_roadOf_6 rfl ?_
  refine jj_iload_n dX8_roadOf_8 1 rfl ?_
  refine jj_imul dX8_roadOf_9 ?_
  refine jj_iadd dX8_roadOf_10 ?_
  refine jj_iload_n dX8_roadOf_11 2 rfl ?_
  refine jj_iadd dX8_roadOf_12 ?_
  obtain ⟨g1, h⟩ := jj_ge h
  refine jj_iaload (k := 61) (n := 351) rfl g1 dX8_roadOf_13 ?_
  exact jj_iret1 hF dX8_roadOf_14 (Option.some.inj h)
def mdf_water  (x1 : Int32) (x2 : Int32) (μ : jj_M) : Option (Int32 × jj_M) := if (mdf_isWell x1) = 0 then (mdf_errs (-1000000001) μ).bind fun q2 => some ((q2.1, q2.2)) else if (mdf_in (Int32.toInt64 x2) 0 99) = 0 then (mdf_errs (-1000000001) μ).bind fun q4 => some ((q4.1, q4.2)) else (mdf_becomes (0 + x1) x2 μ).bind fun q5 => some ((q5.1, q5.2))
set_option maxRecDepth 100000 in
theorem c_mdf_water {g : jj_G} (d : Nat)  {x1 : Int32} {x2 : Int32} {μ : jj_M} {r : Int32} {μ' : jj_M}   (h : mdf_water x1 x2 μ = some (r, μ')) : jj_N g yX8_water cX8_water 3 (some .int) (d + 2) [.ref (jj_ad g 60), .int x1, .int x2] μ (some (.int r)) μ' := by
  refine jj_N_of jn_8 (Nat.le_of_ble_eq_true rfl) (fun X hF => ?_)
  unfold mdf_water at h
  refine jj_sub (own := RX8) (lv2 := [(0, .ref (jj_ad g 60)), (1, .int x1), (2, .int x2)]) [0, 1, 2] rfl ?_
  refine jj_iload_n dX8_water_0 1 rfl ?_
  refine jj_callSi [.int x1] [] (c_mdf_isWell (d + 0)  rfl) jm_mdf_isWell lk_8_58 rfl (by omega) rfl (Nat.le_of_ble_eq_true rfl) dX8_water_1 ?_
  refine jj_if_eq 30 dX8_water_4 (by decide) (fun c1 => ?_) (fun c1 => ?_)
  · replace h := (if_pos c1).symm.trans h
    refine jj_aload_n dX8_water_30 0 rfl ?_
    refine jj_ldc (-1000000001) lk_8_67 dX8_water_31 ?_
    obtain ⟨q2, e2, h⟩ := jj_be h
    refine jj_callVi [.int (-1000000001)] [] (c_mdf_errs (d + 1)  e2) jm_mdf_errs lk_8_68 (b := 60) rfl (by decide) (jj_E8 rfl) rfl rfl rfl (by omega) rfl (Nat.le_of_ble_eq_true rfl) dX8_water_33 ?_
    exact jj_iret2 hF dX8_water_36 (Option.some.inj h)
  · replace h := (if_neg c1).symm.trans h
    refine jj_iload_n dX8_water_7 2 rfl ?_
    refine jj_i2l dX8_water_8 ?_
    refine jj_lconst (0) dX8_water_9 rfl ?_
    refine jj_ldc2_w (99) lk_8_62 dX8_water_10 ?_
    refine jj_callSi [.long (Int32.toInt64 x2), .long 0, .long 99] [] (c_mdf_in (d + 1)  rfl) jm_mdf_in lk_8_46 rfl (by omega) rfl (Nat.le_of_ble_eq_true rfl) dX8_water_13 ?_
    refine jj_if_eq 30 dX8_water_16 (by decide) (fun c3 => ?_) (fun c3 => ?_)
    · replace h := (if_pos c3).symm.trans h
      refine jj_aload_n dX8_water_30 0 rfl ?_
      refine jj_ldc (-1000000001) lk_8_67 dX8_water_31 ?_
      obtain ⟨q4, e4, h⟩ := jj_be h
      refine jj_callVi [.int (-1000000001)] [] (c_mdf_errs (d + 1)  e4) jm_mdf_errs lk_8_68 (b := 60) rfl (by decide) (jj_E8 rfl) rfl rfl rfl (by omega) rfl (Nat.le_of_ble_eq_true rfl) dX8_water_33 ?_
      exact jj_iret2 hF dX8_water_36 (Option.some.inj h)
    · replace h := (if_neg c3).symm.trans h
      refine jj_aload_n dX8_water_19 0 rfl ?_
      refine jj_iconst (0) dX8_water_20 rfl ?_
      refine jj_iload_n dX8_water_21 1 rfl ?_
      refine jj_iadd dX8_water_22 ?_
      refine jj_iload_n dX8_water_23 2 rfl ?_
      obtain ⟨q5, e5, h⟩ := jj_be h
      refine jj_callVi [.int (0 + x1), .int x2] [] (c_mdf_becomes (d + 1)  e5) jm_mdf_becomes lk_8_64 (b := 60) rfl (by decide) (jj_E8 rfl) rfl rfl rfl (by omega) rfl (Nat.le_of_ble_eq_true rfl) dX8_water_24 ?_
      refine jj_goto 36 dX8_water_27 (by decide) ?_
      exact jj_iret2 hF dX8_water_36 (Option.some.inj h)
def mdf_road  (x1 : Int32) (x2 : Int32) (x3 : Int32) (μ : jj_M) : Option (Int32 × jj_M) := if (mdf_isWell x1) = 0 then (mdf_errs (-1000000001) μ).bind fun q2 => some ((q2.1, q2.2)) else if (mdf_isWell x2) = 0 then (mdf_errs (-1000000001) μ).bind fun q4 => some ((q4.1, q4.2)) else if x1 = x2 then (mdf_errs (-1000000001) μ).bind fun q6 => some ((q6.1, q6.2)) else if (mdf_in (Int32.toInt64 x3) 0 20) = 0 then (mdf_errs (-1000000001) μ).bind fun q10 => some ((q10.1, q10.2)) else if jj_i ((8 + (8 * x2)) + x1) 351 then (mdf_becomes ((8 + (8 * x1)) + x2) x3 (jj_u μ 61 ((8 + (8 * x2)) + x1).toNatClampNeg x3)).bind fun q9 => some ((q9.1, q9.2)) else none
set_option maxRecDepth 100000 in
theorem c_mdf_road {g : jj_G} (d : Nat)  {x1 : Int32} {x2 : Int32} {x3 : Int32} {μ : jj_M} {r : Int32} {μ' : jj_M}   (h : mdf_road x1 x2 x3 μ = some (r, μ')) : jj_N g yX8_road cX8_road 4 (some .int) (d + 2) [.ref (jj_ad g 60), .int x1, .int x2, .int x3] μ (some (.int r)) μ' := by
  refine jj_N_of jn_8 (Nat.le_of_ble_eq_true rfl) (fun X hF => ?_)
  unfold mdf_road at h
  refine jj_sub (own := RX8) (lv2 := [(0, .ref (jj_ad g 60)), (1, .int x1), (2, .int x2), (3, .int x3)]) [0, 1, 2, 3] rfl ?_
  refine jj_iload_n dX8_road_0 1 rfl ?_
  refine jj_callSi [.int x1] [] (c_mdf_isWell (d + 0)  rfl) jm_mdf_isWell lk_8_58 rfl (by omega) rfl (Nat.le_of_ble_eq_true rfl) dX8_road_1 ?_
  refine jj_if_eq 31 dX8_road_4 (by decide) (fun c1 => ?_) (fun c1 => ?_)
  · replace h := (if_pos c1).symm.trans h
    refine jj_aload_n dX8_road_31 0 rfl ?_
    refine jj_ldc (-1000000001) lk_8_67 dX8_road_32 ?_
    obtain ⟨q2, e2, h⟩ := jj_be h
    refine jj_callVi [.int (-1000000001)] [] (c_mdf_errs (d + 1)  e2) jm_mdf_errs lk_8_68 (b := 60) rfl (by decide) (jj_E8 rfl) rfl rfl rfl (by omega) rfl (Nat.le_of_ble_eq_true rfl) dX8_road_34 ?_
    exact jj_iret2 hF dX8_road_37 (Option.some.inj h)
  · replace h := (if_neg c1).symm.trans h
    refine jj_iload_n dX8_road_7 2 rfl ?_
    refine jj_callSi [.int x2] [] (c_mdf_isWell (d + 0)  rfl) jm_mdf_isWell lk_8_58 rfl (by omega) rfl (Nat.le_of_ble_eq_true rfl) dX8_road_8 ?_
    refine jj_if_eq 31 dX8_road_11 (by decide) (fun c3 => ?_) (fun c3 => ?_)
    · replace h := (if_pos c3).symm.trans h
      refine jj_aload_n dX8_road_31 0 rfl ?_
      refine jj_ldc (-1000000001) lk_8_67 dX8_road_32 ?_
      obtain ⟨q4, e4, h⟩ := jj_be h
      refine jj_callVi [.int (-1000000001)] [] (c_mdf_errs (d + 1)  e4) jm_mdf_errs lk_8_68 (b := 60) rfl (by decide) (jj_E8 rfl) rfl rfl rfl (by omega) rfl (Nat.le_of_ble_eq_true rfl) dX8_road_34 ?_
      exact jj_iret2 hF dX8_road_37 (Option.some.inj h)
    · replace h := (if_neg c3).symm.trans h
      refine jj_iload_n dX8_road_14 1 rfl ?_
      refine jj_iload_n dX8_road_15 2 rfl ?_
      refine jj_icmp_eq 31 dX8_road_16 (by decide) (fun c5 => ?_) (fun c5 => ?_)
      · replace h := (if_pos c5).symm.trans h
        refine jj_aload_n dX8_road_31 0 rfl ?_
        refine jj_ldc (-1000000001) lk_8_67 dX8_road_32 ?_
        obtain ⟨q6, e6, h⟩ := jj_be h
        refine jj_callVi [.int (-1000000001)] [] (c_mdf_errs (d + 1)  e6) jm_mdf_errs lk_8_68 (b := 60) rfl (by decide) (jj_E8 rfl) rfl rfl rfl (by omega) rfl (Nat.le_of_ble_eq_true rfl) dX8_road_34 ?_
        exact jj_iret2 hF dX8_road_37 (Option.some.inj h)
      · replace h := (if_neg c5).symm.trans h
        refine jj_iload_n dX8_road_19 3 rfl ?_
        refine jj_i2l dX8_road_20 ?_
        refine jj_lconst (0) dX8_road_21 rfl ?_
        refine jj_ldc2_w (20) lk_8_72 dX8_road_22 ?_
        refine jj_callSi [.long (Int32.toInt64 x3), .long 0, .long 20] [] (c_mdf_in (d + 1)  rfl) jm_mdf_in lk_8_46 rfl (by omega) rfl (Nat.le_of_ble_eq_true rfl) dX8_road_25 ?_
        refine jj_if_ne 38 dX8_road_28 (by decide) (fun c7 => ?_) (fun c7 => ?_)
        · replace h := (if_neg c7).symm.trans h
          refine jj_aload_n dX8_road_38 0 rfl ?_
          refine jg_8_0 (k := 60) rfl lk_8_7 dX8_road_39 ?_
          show jj_V g X _ _ _ _ _ _ (.ref (jj_ad g 61) :: _) _
          refine jj_bipush (8) dX8_road_42 rfl ?_
          refine jj_bipush (8) dX8_road_44 rfl ?_
          refine jj_iload_n dX8_road_46 2 rfl ?_
          refine jj_imul dX8_road_47 ?_
          refine jj_iadd dX8_road_48 ?_
          refine jj_iload_n dX8_road_49 1 rfl ?_
          refine jj_iadd dX8_road_50 ?_
          refine jj_iload_n dX8_road_51 3 rfl ?_
          obtain ⟨g8, h⟩ := jj_ge h
          refine jj_iastore (k := 61) (n := 351) rfl g8 dX8_road_52 ?_
          refine jj_aload_n dX8_road_53 0 rfl ?_
          refine jj_bipush (8) dX8_road_54 rfl ?_
          refine jj_bipush (8) dX8_road_56 rfl ?_
          refine jj_iload_n dX8_road_58 1 rfl ?_
          refine jj_imul dX8_road_59 ?_
          refine jj_iadd dX8_road_60 ?_
          refine jj_iload_n dX8_road_61 2 rfl ?_
          refine jj_iadd dX8_road_62 ?_
          refine jj_iload_n dX8_road_63 3 rfl ?_
          obtain ⟨q9, e9, h⟩ := jj_be h
          refine jj_callVi [.int ((8 + (8 * x1)) + x2), .int x3] [] (c_mdf_becomes (d + 1)  e9) jm_mdf_becomes lk_8_64 (b := 60) rfl (by decide) (jj_E8 rfl) rfl rfl rfl (by omega) rfl (Nat.le_of_ble_eq_true rfl) dX8_road_64 ?_
          exact jj_iret2 hF dX8_road_67 (Option.some.inj h)
        · replace h := (if_pos c7).symm.trans h
          refine jj_aload_n dX8_road_31 0 rfl ?_
          refine jj_ldc (-1000000001) lk_8_67 dX8_road_32 ?_
          obtain ⟨q10, e10, h⟩ := jj_be h
          refine jj_callVi [.int (-1000000001)] [] (c_mdf_errs (d + 1)  e10) jm_mdf_errs lk_8_68 (b := 60) rfl (by decide) (jj_E8 rfl) rfl rfl rfl (by omega) rfl (Nat.le_of_ble_eq_true rfl) dX8_road_34 ?_
          exact jj_iret2 hF dX8_road_37 (Option.some.inj h)
def mdf_owe  (x1 : Int32) (x2 : Int32) (x3 : Int32) (μ : jj_M) : Option (Int32 × jj_M) := if (mdf_isWell x1) = 0 then (mdf_errs (-1000000001) μ).bind fun q2 => some ((q2.1, q2.2)) else if (mdf_isWell x2) = 0 then (mdf_errs (-1000000001) μ).bind fun q4 => some ((q4.1, q4.2)) else if x1 = x2 then (mdf_errs (-1000000001) μ).bind fun q6 => some ((q6.1, q6.2)) else if (mdf_in (Int32.toInt64 x3) 0 9999) = 0 then (mdf_errs (-1000000001) μ).bind fun q8 => some ((q8.1, q8.2)) else (mdf_becomes ((72 + (8 * x1)) + x2) x3 μ).bind fun q9 => some ((q9.1, q9.2))
set_option maxRecDepth 100000 in
theorem c_mdf_owe {g : jj_G} (d : Nat)  {x1 : Int32} {x2 : Int32} {x3 : Int32} {μ : jj_M} {r : Int32} {μ' : jj_M}   (h : mdf_owe x1 x2 x3 μ = some (r, μ')) : jj_N g yX8_owe cX8_owe 4 (some .int) (d + 2) [.ref (jj_ad g 60), .int x1, .int x2, .int x3] μ (some (.int r)) μ' := by
  refine jj_N_of jn_8 (Nat.le_of_ble_eq_true rfl) (fun X hF => ?_)
  unfold mdf_owe at h
  refine jj_sub (own := RX8) (lv2 := [(0, .ref (jj_ad g 60)), (1, .int x1), (2, .int x2), (3, .int x3)]) [0, 1, 2, 3] rfl ?_
  refine jj_iload_n dX8_owe_0 1 rfl ?_
  refine jj_callSi [.int x1] [] (c_mdf_isWell (d + 0)  rfl) jm_mdf_isWell lk_8_58 rfl (by omega) rfl (Nat.le_of_ble_eq_true rfl) dX8_owe_1 ?_
  refine jj_if_eq 48 dX8_owe_4 (by decide) (fun c1 => ?_) (fun c1 => ?_)
  · replace h := (if_pos c1).symm.trans h
    refine jj_aload_n dX8_owe_48 0 rfl ?_
    refine jj_ldc (-1000000001) lk_8_67 dX8_owe_49 ?_
    obtain ⟨q2, e2, h⟩ := jj_be h
    refine jj_callVi [.int (-1000000001)] [] (c_mdf_errs (d + 1)  e2) jm_mdf_errs lk_8_68 (b := 60) rfl (by decide) (jj_E8 rfl) rfl rfl rfl (by omega) rfl (Nat.le_of_ble_eq_true rfl) dX8_owe_51 ?_
    exact jj_iret2 hF dX8_owe_54 (Option.some.inj h)
  · replace h := (if_neg c1).symm.trans h
    refine jj_iload_n dX8_owe_7 2 rfl ?_
    refine jj_callSi [.int x2] [] (c_mdf_isWell (d + 0)  rfl) jm_mdf_isWell lk_8_58 rfl (by omega) rfl (Nat.le_of_ble_eq_true rfl) dX8_owe_8 ?_
    refine jj_if_eq 48 dX8_owe_11 (by decide) (fun c3 => ?_) (fun c3 => ?_)
    · replace h := (if_pos c3).symm.trans h
      refine jj_aload_n dX8_owe_48 0 rfl ?_
      refine jj_ldc (-1000000001) lk_8_67 dX8_owe_49 ?_
      obtain ⟨q4, e4, h⟩ := jj_be h
      refine jj_callVi [.int (-1000000001)] [] (c_mdf_errs (d + 1)  e4) jm_mdf_errs lk_8_68 (b := 60) rfl (by decide) (jj_E8 rfl) rfl rfl rfl (by omega) rfl (Nat.le_of_ble_eq_true rfl) dX8_owe_51 ?_
      exact jj_iret2 hF dX8_owe_54 (Option.some.inj h)
    · replace h := (if_neg c3).symm.trans h
      refine jj_iload_n dX8_owe_14 1 rfl ?_
      refine jj_iload_n dX8_owe_15 2 rfl ?_
      refine jj_icmp_eq 48 dX8_owe_16 (by decide) (fun c5 => ?_) (fun c5 => ?_)
      · replace h := (if_pos c5).symm.trans h
        refine jj_aload_n dX8_owe_48 0 rfl ?_
        refine jj_ldc (-1000000001) lk_8_67 dX8_owe_49 ?_
        obtain ⟨q6, e6, h⟩ := jj_be h
        refine jj_callVi [.int (-1000000001)] [] (c_mdf_errs (d + 1)  e6) jm_mdf_errs lk_8_68 (b := 60) rfl (by decide) (jj_E8 rfl) rfl rfl rfl (by omega) rfl (Nat.le_of_ble_eq_true rfl) dX8_owe_51 ?_
        exact jj_iret2 hF dX8_owe_54 (Option.some.inj h)
      · replace h := (if_neg c5).symm.trans h
        refine jj_iload_n dX8_owe_19 3 rfl ?_
        refine jj_i2l dX8_owe_20 ?_
        refine jj_lconst (0) dX8_owe_21 rfl ?_
        refine jj_ldc2_w (9999) lk_8_74 dX8_owe_22 ?_
        refine jj_callSi [.long (Int32.toInt64 x3), .long 0, .long 9999] [] (c_mdf_in (d + 1)  rfl) jm_mdf_in lk_8_46 rfl (by omega) rfl (Nat.le_of_ble_eq_true rfl) dX8_owe_25 ?_
        refine jj_if_eq 48 dX8_owe_28 (by decide) (fun c7 => ?_) (fun c7 => ?_)
        · replace h := (if_pos c7).symm.trans h
          refine jj_aload_n dX8_owe_48 0 rfl ?_
          refine jj_ldc (-1000000001) lk_8_67 dX8_owe_49 ?_
          obtain ⟨q8, e8, h⟩ := jj_be h
          refine jj_callVi [.int (-1000000001)] [] (c_mdf_errs (d + 1)  e8) jm_mdf_errs lk_8_68 (b := 60) rfl (by decide) (jj_E8 rfl) rfl rfl rfl (by omega) rfl (Nat.le_of_ble_eq_true rfl) dX8_owe_51 ?_
          exact jj_iret2 hF dX8_owe_54 (Option.some.inj h)
        · replace h := (if_neg c7).symm.trans h
          refine jj_aload_n dX8_owe_31 0 rfl ?_
          refine jj_bipush (72) dX8_owe_32 rfl ?_
          refine jj_bipush (8) dX8_owe_34 rfl ?_
          refine jj_iload_n dX8_owe_36 1 rfl ?_
          refine jj_imul dX8_owe_37 ?_
          refine jj_iadd dX8_owe_38 ?_
          refine jj_iload_n dX8_owe_39 2 rfl ?_
          refine jj_iadd dX8_owe_40 ?_
          refine jj_iload_n dX8_owe_41 3 rfl ?_
          obtain ⟨q9, e9, h⟩ := jj_be h
          refine jj_callVi [.int ((72 + (8 * x1)) + x2), .int x3] [] (c_mdf_becomes (d + 1)  e9) jm_mdf_becomes lk_8_64 (b := 60) rfl (by decide) (jj_E8 rfl) rfl rfl rfl (by omega) rfl (Nat.le_of_ble_eq_true rfl) dX8_owe_42 ?_
          refine jj_goto 54 dX8_owe_45 (by decide) ?_
          exact jj_iret2 hF dX8_owe_54 (Option.some.inj h)
def mdf_owes_L4 (N : Nat)  (x1 : Int32) (μ : jj_M) : Nat → Int32 → Int32 → Option (Int32)
  | 0, _, _ => none
  | n + 1, x2, x3 => if 8 ≤ x3 then some x2 else if x1 < 0 then some x2 else if jj_i ((72 + (8 * x1)) + x3) 351 then mdf_owes_L4 N x1 μ n (x2 + (μ 61 ((72 + (8 * x1)) + x3).toNatClampNeg)) (x3 + 1) else none
set_option maxRecDepth 100000 in
theorem t_mdf_owes_L4 {g : jj_G} (d : Nat) {N : Nat}  {x1 : Int32} {μ : jj_M}  {r : Int32} {X : jj_X}   (hF : jj_F g (some .int) (some (.int r)) μ X)  : ∀ (n : Nat) (x2 : Int32) (x3 : Int32), mdf_owes_L4 N x1 μ n x2 x3 = some r → jj_V g X RX8 cX8_owes 4 (d + 0) 4 [(0, .ref (jj_ad g 60)), (1, .int x1), (2, .int x2), (3, .int x3)] [] μ := by
  intro n
  induction n with
  | zero =>
    intro x2 x3 h
    exact (jj_no h).elim
  | succ n ih =>
    intro x2 x3 h
    rw [mdf_owes_L4] at h
    refine jj_iload_n dX8_owes_4 3 rfl ?_
    refine jj_bipush (8) dX8_owes_5 rfl ?_
    refine jj_icmp_ge 37 dX8_owes_7 (by decide) (fun c1 => ?_) (fun c1 => ?_)
    · replace h := (if_pos c1).symm.trans h
      refine jj_iload_n dX8_owes_37 2 rfl ?_
      exact jj_iret1 hF dX8_owes_38 (Option.some.inj h)
    · replace h := (if_neg c1).symm.trans h
      refine jj_iload_n dX8_owes_10 1 rfl ?_
      refine jj_if_lt 37 dX8_owes_11 (by decide) (fun c2 => ?_) (fun c2 => ?_)
      · replace h := (if_pos c2).symm.trans h
        refine jj_iload_n dX8_owes_37 2 rfl ?_
        exact jj_iret1 hF dX8_owes_38 (Option.some.inj h)
      · replace h := (if_neg c2).symm.trans h
        refine jj_iload_n dX8_owes_14 2 rfl ?_
        refine jj_aload_n dX8_owes_15 0 rfl ?_
        refine jg_8_0 (k := 60) rfl lk_8_7 dX8_owes_16 ?_
        show jj_V g X _ _ _ _ _ _ (.ref (jj_ad g 61) :: _) _
        refine jj_bipush (72) dX8_owes_19 rfl ?_
        refine jj_bipush (8) dX8_owes_21 rfl ?_
        refine jj_iload_n dX8_owes_23 1 rfl ?_
        refine jj_imul dX8_owes_24 ?_
        refine jj_iadd dX8_owes_25 ?_
        refine jj_iload_n dX8_owes_26 3 rfl ?_
        refine jj_iadd dX8_owes_27 ?_
        obtain ⟨g3, h⟩ := jj_ge h
        refine jj_iaload (k := 61) (n := 351) rfl g3 dX8_owes_28 ?_
        refine jj_iadd dX8_owes_29 ?_
        refine jj_istore_n [(2, .int (x2 + (μ 61 ((72 + (8 * x1)) + x3).toNatClampNeg))), (0, .ref (jj_ad g 60)), (1, .int x1), (3, .int x3)] dX8_owes_30 (by decide) rfl ?_
        refine jj_iinc (x3 + 1) [(3, .int (x3 + 1)), (2, .int (x2 + (μ 61 ((72 + (8 * x1)) + x3).toNatClampNeg))), (0, .ref (jj_ad g 60)), (1, .int x1)] dX8_owes_31 3 rfl rfl (by decide) rfl ?_
        refine jj_goto 4 dX8_owes_34 (by decide) ?_
        refine jj_sub [2, 3, 1, 0] rfl ?_
        exact ih _ _ h
def mdf_owes (N : Nat) (x1 : Int32) (μ : jj_M) : Option (Int32) := mdf_owes_L4 N x1 μ N 0 0
set_option maxRecDepth 100000 in
theorem c_mdf_owes {g : jj_G} (d : Nat) {N : Nat} {x1 : Int32} {μ : jj_M} {r : Int32}   (h : mdf_owes N x1 μ = some r) : jj_N g yX8_owes cX8_owes 4 (some .int) (d + 0) [.ref (jj_ad g 60), .int x1] μ (some (.int r)) μ := by
  refine jj_N_of jn_8 (Nat.le_of_ble_eq_true rfl) (fun X hF => ?_)
  unfold mdf_owes at h
  refine jj_sub (own := RX8) (lv2 := [(0, .ref (jj_ad g 60)), (1, .int x1)]) [0, 1] rfl ?_
  refine jj_iconst (0) dX8_owes_0 rfl ?_
  refine jj_istore_n [(2, .int 0), (0, .ref (jj_ad g 60)), (1, .int x1)] dX8_owes_1 (by decide) rfl ?_
  refine jj_iconst (0) dX8_owes_2 rfl ?_
  refine jj_istore_n [(3, .int 0), (2, .int 0), (0, .ref (jj_ad g 60)), (1, .int x1)] dX8_owes_3 (by decide) rfl ?_
  refine jj_sub [2, 3, 1, 0] rfl ?_
  exact t_mdf_owes_L4 d   hF  _ _ _ h
def mdf_roadsOf_L4 (N : Nat)  (x1 : Int32) (μ : jj_M) : Nat → Int32 → Int32 → Option (Int32)
  | 0, _, _ => none
  | n + 1, x2, x3 => if 8 ≤ x3 then some x2 else (mdf_roadOf x1 x3 μ).bind fun q2 => if q2 ≤ 0 then mdf_roadsOf_L4 N x1 μ n (x2 + 0) (x3 + 1) else mdf_roadsOf_L4 N x1 μ n (x2 + 1) (x3 + 1)
set_option maxRecDepth 100000 in
theorem t_mdf_roadsOf_L4 {g : jj_G} (d : Nat) {N : Nat}  {x1 : Int32} {μ : jj_M}  {r : Int32} {X : jj_X}   (hF : jj_F g (some .int) (some (.int r)) μ X)  : ∀ (n : Nat) (x2 : Int32) (x3 : Int32), mdf_roadsOf_L4 N x1 μ n x2 x3 = some r → jj_V g X RX8 cX8_roadsOf 4 (d + 1) 4 [(0, .ref (jj_ad g 60)), (1, .int x1), (2, .int x2), (3, .int x3)] [] μ := by
  intro n
  induction n with
  | zero =>
    intro x2 x3 h
    exact (jj_no h).elim
  | succ n ih =>
    intro x2 x3 h
    rw [mdf_roadsOf_L4] at h
    refine jj_iload_n dX8_roadsOf_4 3 rfl ?_
    refine jj_bipush (8) dX8_roadsOf_5 rfl ?_
    refine jj_icmp_ge 33 dX8_roadsOf_7 (by decide) (fun c1 => ?_) (fun c1 => ?_)
    · replace h := (if_pos c1).symm.trans h
      refine jj_iload_n dX8_roadsOf_33 2 rfl ?_
      exact jj_iret1 hF dX8_roadsOf_34 (Option.some.inj h)
    · replace h := (if_neg c1).symm.trans h
      refine jj_iload_n dX8_roadsOf_10 2 rfl ?_
      refine jj_aload_n dX8_roadsOf_11 0 rfl ?_
      refine jj_iload_n dX8_roadsOf_12 1 rfl ?_
      refine jj_iload_n dX8_roadsOf_13 3 rfl ?_
      obtain ⟨q2, e2, h⟩ := jj_be h
      refine jj_callVi [.int x1, .int x3] [.int x2] (c_mdf_roadOf (d + 0)  e2) jm_mdf_roadOf lk_8_76 (b := 60) rfl (by decide) (jj_E8 rfl) rfl rfl rfl (by omega) rfl (Nat.le_of_ble_eq_true rfl) dX8_roadsOf_14 ?_
      refine jj_if_le 24 dX8_roadsOf_17 (by decide) (fun c3 => ?_) (fun c3 => ?_)
      · replace h := (if_pos c3).symm.trans h
        refine jj_iconst (0) dX8_roadsOf_24 rfl ?_
        refine jj_iadd dX8_roadsOf_25 ?_
        refine jj_istore_n [(2, .int (x2 + 0)), (0, .ref (jj_ad g 60)), (1, .int x1), (3, .int x3)] dX8_roadsOf_26 (by decide) rfl ?_
        refine jj_iinc (x3 + 1) [(3, .int (x3 + 1)), (2, .int (x2 + 0)), (0, .ref (jj_ad g 60)), (1, .int x1)] dX8_roadsOf_27 3 rfl rfl (by decide) rfl ?_
        refine jj_goto 4 dX8_roadsOf_30 (by decide) ?_
        refine jj_sub [2, 3, 1, 0] rfl ?_
        exact ih _ _ h
      · replace h := (if_neg c3).symm.trans h
        refine jj_iconst (1) dX8_roadsOf_20 rfl ?_
        refine jj_goto 25 dX8_roadsOf_21 (by decide) ?_
        refine jj_iadd dX8_roadsOf_25 ?_
        refine jj_istore_n [(2, .int (x2 + 1)), (0, .ref (jj_ad g 60)), (1, .int x1), (3, .int x3)] dX8_roadsOf_26 (by decide) rfl ?_
        refine jj_iinc (x3 + 1) [(3, .int (x3 + 1)), (2, .int (x2 + 1)), (0, .ref (jj_ad g 60)), (1, .int x1)] dX8_roadsOf_27 3 rfl rfl (by decide) rfl ?_
        refine jj_goto 4 dX8_roadsOf_30 (by decide) ?_
        refine jj_sub [2, 3, 1, 0] rfl ?_
        exact ih _ _ h
def mdf_roadsOf (N : Nat) (x1 : Int32) (μ : jj_M) : Option (Int32) := mdf_roadsOf_L4 N x1 μ N 0 0
set_option maxRecDepth 100000 in
theorem c_mdf_roadsOf {g : jj_G} (d : Nat) {N : Nat} {x1 : Int32} {μ : jj_M} {r : Int32}   (h : mdf_roadsOf N x1 μ = some r) : jj_N g yX8_roadsOf cX8_roadsOf 4 (some .int) (d + 1) [.ref (jj_ad g 60), .int x1] μ (some (.int r)) μ := by
  refine jj_N_of jn_8 (Nat.le_of_ble_eq_true rfl) (fun X hF => ?_)
  unfold mdf_roadsOf at h
  refine jj_sub (own := RX8) (lv2 := [(0, .ref (jj_ad g 60)), (1, .int x1)]) [0, 1] rfl ?_
  refine jj_iconst (0) dX8_roadsOf_0 rfl ?_
  refine jj_istore_n [(2, .int 0), (0, .ref (jj_ad g 60)), (1, .int x1)] dX8_roadsOf_1 (by decide) rfl ?_
  refine jj_iconst (0) dX8_roadsOf_2 rfl ?_
  refine jj_istore_n [(3, .int 0), (2, .int 0), (0, .ref (jj_ad g 60)), (1, .int x1)] dX8_roadsOf_3 (by decide) rfl ?_
  refine jj_sub [2, 3, 1, 0] rfl ?_
  exact t_mdf_roadsOf_L4 d   hF  _ _ _ h
def mdf_those_L5 (N : Nat)  (x1 : Int32) (x2 : Int32) (μ : jj_M) : Nat → Int32 → Int32 → Option (Int32)
  | 0, _, _ => none
  | n + 1, x3, x4 => if (μ 61 139) ≤ x4 then some x3 else (mdf_its x4 5 μ).bind fun q2 => if q2 = 0 then (mdf_its x4 x1 μ).bind fun q4 => if q4 = x2 then mdf_those_L5 N x1 x2 μ n (x3 ||| (1 <<< (x4 &&& 31))) (x4 + 1) else mdf_those_L5 N x1 x2 μ n (x3 ||| 0) (x4 + 1) else mdf_those_L5 N x1 x2 μ n (x3 ||| 0) (x4 + 1)
set_option maxRecDepth 100000 in
theorem t_mdf_those_L5 {g : jj_G} (d : Nat) {N : Nat}  {x1 : Int32} {x2 : Int32} {μ : jj_M}  {r : Int32} {X : jj_X}   (hF : jj_F g (some .int) (some (.int r)) μ X)  : ∀ (n : Nat) (x3 : Int32) (x4 : Int32), mdf_those_L5 N x1 x2 μ n x3 x4 = some r → jj_V g X RX8 cX8_those 5 (d + 2) 5 [(0, .ref (jj_ad g 60)), (1, .int x1), (2, .int x2), (3, .int x3), (4, .int x4)] [] μ := by
  intro n
  induction n with
  | zero =>
    intro x3 x4 h
    exact (jj_no h).elim
  | succ n ih =>
    intro x3 x4 h
    rw [mdf_those_L5] at h
    refine jj_iload dX8_those_5 4 rfl ?_
    refine jj_aload_n dX8_those_7 0 rfl ?_
    refine jg_8_0 (k := 60) rfl lk_8_7 dX8_those_8 ?_
    show jj_V g X _ _ _ _ _ _ (.ref (jj_ad g 61) :: _) _
    refine jj_sipush (139) dX8_those_11 rfl ?_
    refine jj_iaload (k := 61) (n := 351) rfl (show jj_i 139 351 by decide) dX8_those_14 ?_
    show jj_V g X _ _ _ _ _ _ (.int (μ 61 139) :: _) _
    refine jj_icmp_ge 56 dX8_those_15 (by decide) (fun c1 => ?_) (fun c1 => ?_)
    · replace h := (if_pos c1).symm.trans h
      refine jj_iload_n dX8_those_56 3 rfl ?_
      exact jj_iret1 hF dX8_those_57 (Option.some.inj h)
    · replace h := (if_neg c1).symm.trans h
      refine jj_iload_n dX8_those_18 3 rfl ?_
      refine jj_aload_n dX8_those_19 0 rfl ?_
      refine jj_iload dX8_those_20 4 rfl ?_
      refine jj_iconst (5) dX8_those_22 rfl ?_
      obtain ⟨q2, e2, h⟩ := jj_be h
      refine jj_callVi [.int x4, .int 5] [.int x3] (c_mdf_its (d + 0)  e2) jm_mdf_its lk_8_79 (b := 60) rfl (by decide) (jj_E8 rfl) rfl rfl rfl (by omega) rfl (Nat.le_of_ble_eq_true rfl) dX8_those_23 ?_
      refine jj_if_ne 47 dX8_those_26 (by decide) (fun c3 => ?_) (fun c3 => ?_)
      · replace h := (if_neg c3).symm.trans h
        refine jj_iconst (0) dX8_those_47 rfl ?_
        refine jj_ior dX8_those_48 ?_
        refine jj_istore_n [(3, .int (x3 ||| 0)), (0, .ref (jj_ad g 60)), (1, .int x1), (2, .int x2), (4, .int x4)] dX8_those_49 (by decide) rfl ?_
        refine jj_iinc (x4 + 1) [(4, .int (x4 + 1)), (3, .int (x3 ||| 0)), (0, .ref (jj_ad g 60)), (1, .int x1), (2, .int x2)] dX8_those_50 4 rfl rfl (by decide) rfl ?_
        refine jj_goto 5 dX8_those_53 (by decide) ?_
        refine jj_sub [2, 3, 4, 1, 0] rfl ?_
        exact ih _ _ h
      · replace h := (if_pos c3).symm.trans h
        refine jj_aload_n dX8_those_29 0 rfl ?_
        refine jj_iload dX8_those_30 4 rfl ?_
        refine jj_iload_n dX8_those_32 1 rfl ?_
        obtain ⟨q4, e4, h⟩ := jj_be h
        refine jj_callVi [.int x4, .int x1] [.int x3] (c_mdf_its (d + 0)  e4) jm_mdf_its lk_8_79 (b := 60) rfl (by decide) (jj_E8 rfl) rfl rfl rfl (by omega) rfl (Nat.le_of_ble_eq_true rfl) dX8_those_33 ?_
        refine jj_iload_n dX8_those_36 2 rfl ?_
        refine jj_icmp_ne 47 dX8_those_37 (by decide) (fun c5 => ?_) (fun c5 => ?_)
        · replace h := (if_neg c5).symm.trans h
          refine jj_iconst (0) dX8_those_47 rfl ?_
          refine jj_ior dX8_those_48 ?_
          refine jj_istore_n [(3, .int (x3 ||| 0)), (0, .ref (jj_ad g 60)), (1, .int x1), (2, .int x2), (4, .int x4)] dX8_those_49 (by decide) rfl ?_
          refine jj_iinc (x4 + 1) [(4, .int (x4 + 1)), (3, .int (x3 ||| 0)), (0, .ref (jj_ad g 60)), (1, .int x1), (2, .int x2)] dX8_those_50 4 rfl rfl (by decide) rfl ?_
          refine jj_goto 5 dX8_those_53 (by decide) ?_
          refine jj_sub [2, 3, 4, 1, 0] rfl ?_
          exact ih _ _ h
        · replace h := (if_pos c5).symm.trans h
          refine jj_iconst (1) dX8_those_40 rfl ?_
          refine jj_iload dX8_those_41 4 rfl ?_
          refine jj_ishl dX8_those_43 ?_
          refine jj_goto 48 dX8_those_44 (by decide) ?_
          refine jj_ior dX8_those_48 ?_
          refine jj_istore_n [(3, .int (x3 ||| (1 <<< (x4 &&& 31)))), (0, .ref (jj_ad g 60)), (1, .int x1), (2, .int x2), (4, .int x4)] dX8_those_49 (by decide) rfl ?_
          refine jj_iinc (x4 + 1) [(4, .int (x4 + 1)), (3, .int (x3 ||| (1 <<< (x4 &&& 31)))), (0, .ref (jj_ad g 60)), (1, .int x1), (2, .int x2)] dX8_those_50 4 rfl rfl (by decide) rfl ?_
          refine jj_goto 5 dX8_those_53 (by decide) ?_
          refine jj_sub [2, 3, 4, 1, 0] rfl ?_
          exact ih _ _ h
def mdf_those (N : Nat) (x1 : Int32) (x2 : Int32) (μ : jj_M) : Option (Int32) := mdf_those_L5 N x1 x2 μ N 0 0
set_option maxRecDepth 100000 in
theorem c_mdf_those {g : jj_G} (d : Nat) {N : Nat} {x1 : Int32} {x2 : Int32} {μ : jj_M} {r : Int32}   (h : mdf_those N x1 x2 μ = some r) : jj_N g yX8_those cX8_those 5 (some .int) (d + 2) [.ref (jj_ad g 60), .int x1, .int x2] μ (some (.int r)) μ := by
  refine jj_N_of jn_8 (Nat.le_of_ble_eq_true rfl) (fun X hF => ?_)
  unfold mdf_those at h
  refine jj_sub (own := RX8) (lv2 := [(0, .ref (jj_ad g 60)), (1, .int x1), (2, .int x2)]) [0, 1, 2] rfl ?_
  refine jj_iconst (0) dX8_those_0 rfl ?_
  refine jj_istore_n [(3, .int 0), (0, .ref (jj_ad g 60)), (1, .int x1), (2, .int x2)] dX8_those_1 (by decide) rfl ?_
  refine jj_iconst (0) dX8_those_2 rfl ?_
  refine jj_istore [(4, .int 0), (3, .int 0), (0, .ref (jj_ad g 60)), (1, .int x1), (2, .int x2)] dX8_those_3 (by decide) rfl ?_
  refine jj_sub [2, 3, 4, 1, 0] rfl ?_
  exact t_mdf_those_L5 d   hF  _ _ _ h
def mdf_ofWell (N : Nat) (x1 : Int32) (x2 : Int32) (μ : jj_M) : Option (Int32 × jj_M) := if (mdf_isWell x1) = 0 then (mdf_errs (-1000000001) μ).bind fun q2 => some ((q2.1, q2.2)) else if (mdf_in (Int32.toInt64 x2) 0 4) = 0 then (mdf_errs (-1000000001) μ).bind fun q13 => some ((q13.1, q13.2)) else if x2 = 0 then if jj_i (0 + x1) 351 then some ((μ 61 (0 + x1).toNatClampNeg, μ)) else none else if x2 = 1 then (mdf_roadsOf N x1 μ).bind fun q7 => some ((q7, μ)) else if x2 = 2 then (mdf_those N 3 x1 μ).bind fun q9 => some ((q9, μ)) else if x2 = 3 then (mdf_those N 2 x1 μ).bind fun q11 => some ((q11, μ)) else (mdf_owes N x1 μ).bind fun q12 => some ((q12, μ))
set_option maxRecDepth 100000 in
theorem c_mdf_ofWell {g : jj_G} (d : Nat) {N : Nat} {x1 : Int32} {x2 : Int32} {μ : jj_M} {r : Int32} {μ' : jj_M}   (h : mdf_ofWell N x1 x2 μ = some (r, μ')) : jj_N g yX8_ofWell cX8_ofWell 3 (some .int) (d + 3) [.ref (jj_ad g 60), .int x1, .int x2] μ (some (.int r)) μ' := by
  refine jj_N_of jn_8 (Nat.le_of_ble_eq_true rfl) (fun X hF => ?_)
  unfold mdf_ofWell at h
  refine jj_sub (own := RX8) (lv2 := [(0, .ref (jj_ad g 60)), (1, .int x1), (2, .int x2)]) [0, 1, 2] rfl ?_
  refine jj_iload_n dX8_ofWell_0 1 rfl ?_
  refine jj_callSi [.int x1] [] (c_mdf_isWell (d + 1)  rfl) jm_mdf_isWell lk_8_58 rfl (by omega) rfl (Nat.le_of_ble_eq_true rfl) dX8_ofWell_1 ?_
  refine jj_if_eq 19 dX8_ofWell_4 (by decide) (fun c1 => ?_) (fun c1 => ?_)
  · replace h := (if_pos c1).symm.trans h
    refine jj_aload_n dX8_ofWell_19 0 rfl ?_
    refine jj_ldc (-1000000001) lk_8_67 dX8_ofWell_20 ?_
    obtain ⟨q2, e2, h⟩ := jj_be h
    refine jj_callVi [.int (-1000000001)] [] (c_mdf_errs (d + 2)  e2) jm_mdf_errs lk_8_68 (b := 60) rfl (by decide) (jj_E8 rfl) rfl rfl rfl (by omega) rfl (Nat.le_of_ble_eq_true rfl) dX8_ofWell_22 ?_
    exact jj_iret2 hF dX8_ofWell_25 (Option.some.inj h)
  · replace h := (if_neg c1).symm.trans h
    refine jj_iload_n dX8_ofWell_7 2 rfl ?_
    refine jj_i2l dX8_ofWell_8 ?_
    refine jj_lconst (0) dX8_ofWell_9 rfl ?_
    refine jj_ldc2_w (4) lk_8_82 dX8_ofWell_10 ?_
    refine jj_callSi [.long (Int32.toInt64 x2), .long 0, .long 4] [] (c_mdf_in (d + 2)  rfl) jm_mdf_in lk_8_46 rfl (by omega) rfl (Nat.le_of_ble_eq_true rfl) dX8_ofWell_13 ?_
    refine jj_if_ne 26 dX8_ofWell_16 (by decide) (fun c3 => ?_) (fun c3 => ?_)
    · replace h := (if_neg c3).symm.trans h
      refine jj_iload_n dX8_ofWell_26 2 rfl ?_
      by_cases c4 : x2 = 0
      · replace h := (if_pos c4).symm.trans h
        refine jj_tableIn 56 dX8_ofWell_27 (by rw [c4]; decide) (by rw [c4]; decide) (by rw [c4]; rfl) (show (27 : Int) + 29 = (56 : Nat) by decide) ?_
        refine jj_aload_n dX8_ofWell_56 0 rfl ?_
        refine jg_8_0 (k := 60) rfl lk_8_7 dX8_ofWell_57 ?_
        show jj_V g X _ _ _ _ _ _ (.ref (jj_ad g 61) :: _) _
        refine jj_iconst (0) dX8_ofWell_60 rfl ?_
        refine jj_iload_n dX8_ofWell_61 1 rfl ?_
        refine jj_iadd dX8_ofWell_62 ?_
        obtain ⟨g5, h⟩ := jj_ge h
        refine jj_iaload (k := 61) (n := 351) rfl g5 dX8_ofWell_63 ?_
        exact jj_iret2 hF dX8_ofWell_64 (Option.some.inj h)
      replace h := (if_neg c4).symm.trans h
      by_cases c6 : x2 = 1
      · replace h := (if_pos c6).symm.trans h
        refine jj_tableIn 65 dX8_ofWell_27 (by rw [c6]; decide) (by rw [c6]; decide) (by rw [c6]; rfl) (show (27 : Int) + 38 = (65 : Nat) by decide) ?_
        refine jj_aload_n dX8_ofWell_65 0 rfl ?_
        refine jj_iload_n dX8_ofWell_66 1 rfl ?_
        obtain ⟨q7, e7, h⟩ := jj_be h
        refine jj_callVi [.int x1] [] (c_mdf_roadsOf (d + 1)  e7) jm_mdf_roadsOf lk_8_84 (b := 60) rfl (by decide) (jj_E8 rfl) rfl rfl rfl (by omega) rfl (Nat.le_of_ble_eq_true rfl) dX8_ofWell_67 ?_
        exact jj_iret2 hF dX8_ofWell_70 (Option.some.inj h)
      replace h := (if_neg c6).symm.trans h
      by_cases c8 : x2 = 2
      · replace h := (if_pos c8).symm.trans h
        refine jj_tableIn 71 dX8_ofWell_27 (by rw [c8]; decide) (by rw [c8]; decide) (by rw [c8]; rfl) (show (27 : Int) + 44 = (71 : Nat) by decide) ?_
        refine jj_aload_n dX8_ofWell_71 0 rfl ?_
        refine jj_iconst (3) dX8_ofWell_72 rfl ?_
        refine jj_iload_n dX8_ofWell_73 1 rfl ?_
        obtain ⟨q9, e9, h⟩ := jj_be h
        refine jj_callVi [.int 3, .int x1] [] (c_mdf_those (d + 0)  e9) jm_mdf_those lk_8_87 (b := 60) rfl (by decide) (jj_E8 rfl) rfl rfl rfl (by omega) rfl (Nat.le_of_ble_eq_true rfl) dX8_ofWell_74 ?_
        exact jj_iret2 hF dX8_ofWell_77 (Option.some.inj h)
      replace h := (if_neg c8).symm.trans h
      by_cases c10 : x2 = 3
      · replace h := (if_pos c10).symm.trans h
        refine jj_tableIn 78 dX8_ofWell_27 (by rw [c10]; decide) (by rw [c10]; decide) (by rw [c10]; rfl) (show (27 : Int) + 51 = (78 : Nat) by decide) ?_
        refine jj_aload_n dX8_ofWell_78 0 rfl ?_
        refine jj_iconst (2) dX8_ofWell_79 rfl ?_
        refine jj_iload_n dX8_ofWell_80 1 rfl ?_
        obtain ⟨q11, e11, h⟩ := jj_be h
        refine jj_callVi [.int 2, .int x1] [] (c_mdf_those (d + 0)  e11) jm_mdf_those lk_8_87 (b := 60) rfl (by decide) (jj_E8 rfl) rfl rfl rfl (by omega) rfl (Nat.le_of_ble_eq_true rfl) dX8_ofWell_81 ?_
        exact jj_iret2 hF dX8_ofWell_84 (Option.some.inj h)
      replace h := (if_neg c10).symm.trans h
      have c4 : ¬ Int32.toInt x2 = 0 := fun w => c4 (Int32.toInt_inj.mp (w.trans (by decide)))
      have c6 : ¬ Int32.toInt x2 = 1 := fun w => c6 (Int32.toInt_inj.mp (w.trans (by decide)))
      have c8 : ¬ Int32.toInt x2 = 2 := fun w => c8 (Int32.toInt_inj.mp (w.trans (by decide)))
      have c10 : ¬ Int32.toInt x2 = 3 := fun w => c10 (Int32.toInt_inj.mp (w.trans (by decide)))
      refine jj_tableOut 85 dX8_ofWell_27 (by omega) (by decide) ?_
      refine jj_aload_n dX8_ofWell_85 0 rfl ?_
      refine jj_iload_n dX8_ofWell_86 1 rfl ?_
      obtain ⟨q12, e12, h⟩ := jj_be h
      refine jj_callVi [.int x1] [] (c_mdf_owes (d + 2)  e12) jm_mdf_owes lk_8_90 (b := 60) rfl (by decide) (jj_E8 rfl) rfl rfl rfl (by omega) rfl (Nat.le_of_ble_eq_true rfl) dX8_ofWell_87 ?_
      exact jj_iret2 hF dX8_ofWell_90 (Option.some.inj h)
    · replace h := (if_pos c3).symm.trans h
      refine jj_aload_n dX8_ofWell_19 0 rfl ?_
      refine jj_ldc (-1000000001) lk_8_67 dX8_ofWell_20 ?_
      obtain ⟨q13, e13, h⟩ := jj_be h
      refine jj_callVi [.int (-1000000001)] [] (c_mdf_errs (d + 2)  e13) jm_mdf_errs lk_8_68 (b := 60) rfl (by decide) (jj_E8 rfl) rfl rfl rfl (by omega) rfl (Nat.le_of_ble_eq_true rfl) dX8_ofWell_22 ?_
      exact jj_iret2 hF dX8_ofWell_25 (Option.some.inj h)
def mdf_rain  (x1 : Int32) (μ : jj_M) : Option (Int32 × jj_M) := if (mdf_in (Int32.toInt64 x1) 0 9) = 0 then (mdf_errs (-1000000001) μ).bind fun q2 => some ((q2.1, q2.2)) else (mdf_becomes 136 x1 μ).bind fun q3 => some ((q3.1, q3.2))
set_option maxRecDepth 100000 in
theorem c_mdf_rain {g : jj_G} (d : Nat)  {x1 : Int32} {μ : jj_M} {r : Int32} {μ' : jj_M}   (h : mdf_rain x1 μ = some (r, μ')) : jj_N g yX8_rain cX8_rain 2 (some .int) (d + 1) [.ref (jj_ad g 60), .int x1] μ (some (.int r)) μ' := by
  refine jj_N_of jn_8 (Nat.le_of_ble_eq_true rfl) (fun X hF => ?_)
  unfold mdf_rain at h
  refine jj_sub (own := RX8) (lv2 := [(0, .ref (jj_ad g 60)), (1, .int x1)]) [0, 1] rfl ?_
  refine jj_iload_n dX8_rain_0 1 rfl ?_
  refine jj_i2l dX8_rain_1 ?_
  refine jj_lconst (0) dX8_rain_2 rfl ?_
  refine jj_ldc2_w (9) lk_8_93 dX8_rain_3 ?_
  refine jj_callSi [.long (Int32.toInt64 x1), .long 0, .long 9] [] (c_mdf_in (d + 0)  rfl) jm_mdf_in lk_8_46 rfl (by omega) rfl (Nat.le_of_ble_eq_true rfl) dX8_rain_6 ?_
  refine jj_if_eq 23 dX8_rain_9 (by decide) (fun c1 => ?_) (fun c1 => ?_)
  · replace h := (if_pos c1).symm.trans h
    refine jj_aload_n dX8_rain_23 0 rfl ?_
    refine jj_ldc (-1000000001) lk_8_67 dX8_rain_24 ?_
    obtain ⟨q2, e2, h⟩ := jj_be h
    refine jj_callVi [.int (-1000000001)] [] (c_mdf_errs (d + 0)  e2) jm_mdf_errs lk_8_68 (b := 60) rfl (by decide) (jj_E8 rfl) rfl rfl rfl (by omega) rfl (Nat.le_of_ble_eq_true rfl) dX8_rain_26 ?_
    exact jj_iret2 hF dX8_rain_29 (Option.some.inj h)
  · replace h := (if_neg c1).symm.trans h
    refine jj_aload_n dX8_rain_12 0 rfl ?_
    refine jj_sipush (136) dX8_rain_13 rfl ?_
    refine jj_iload_n dX8_rain_16 1 rfl ?_
    obtain ⟨q3, e3, h⟩ := jj_be h
    refine jj_callVi [.int 136, .int x1] [] (c_mdf_becomes (d + 0)  e3) jm_mdf_becomes lk_8_64 (b := 60) rfl (by decide) (jj_E8 rfl) rfl rfl rfl (by omega) rfl (Nat.le_of_ble_eq_true rfl) dX8_rain_17 ?_
    refine jj_goto 29 dX8_rain_20 (by decide) ?_
    exact jj_iret2 hF dX8_rain_29 (Option.some.inj h)
def mdf_person  (x1 : Int32) (x2 : Int32) (μ : jj_M) : Option (Int32 × jj_M) := if (mdf_isMind x1) = 0 then (mdf_errs (-1000000001) μ).bind fun q2 => some ((q2.1, q2.2)) else if (mdf_isWell x2) = 0 then (mdf_errs (-1000000001) μ).bind fun q15 => some ((q15.1, q15.2)) else if (μ 61 139) = 6 then (mdf_errs (-1000000004) μ).bind fun q14 => some ((q14.1, q14.2)) else if jj_i (mdf_spot (μ 61 139) 0) 351 then if jj_i (mdf_spot (μ 61 139) 1) 351 then (some (jj_u (jj_u μ 61 (mdf_spot (μ 61 139) 0).toNatClampNeg (x1 / 10)) 61 (mdf_spot (μ 61 139) 1).toNatClampNeg (x1 - x1 / 10 * 10))).bind fun m7 => if jj_i (mdf_spot (μ 61 139) 2) 351 then if jj_i (mdf_spot (μ 61 139) 3) 351 then (some (jj_u (jj_u m7 61 (mdf_spot (μ 61 139) 2).toNatClampNeg x2) 61 (mdf_spot (μ 61 139) 3).toNatClampNeg (-1))).bind fun m10 => if jj_i (mdf_spot (μ 61 139) 4) 351 then if jj_i (mdf_spot (μ 61 139) 5) 351 then (some (jj_u (jj_u m10 61 (mdf_spot (μ 61 139) 4).toNatClampNeg 0) 61 (mdf_spot (μ 61 139) 5).toNatClampNeg 0)).bind fun m13 => some ((μ 61 139, jj_u m13 61 139 ((m13 61 139) + 1))) else none else none else none else none else none else none
set_option maxRecDepth 100000 in
theorem c_mdf_person {g : jj_G} (d : Nat)  {x1 : Int32} {x2 : Int32} {μ : jj_M} {r : Int32} {μ' : jj_M}   (h : mdf_person x1 x2 μ = some (r, μ')) : jj_N g yX8_person cX8_person 4 (some .int) (d + 2) [.ref (jj_ad g 60), .int x1, .int x2] μ (some (.int r)) μ' := by
  refine jj_N_of jn_8 (Nat.le_of_ble_eq_true rfl) (fun X hF => ?_)
  unfold mdf_person at h
  refine jj_sub (own := RX8) (lv2 := [(0, .ref (jj_ad g 60)), (1, .int x1), (2, .int x2)]) [0, 1, 2] rfl ?_
  refine jj_iload_n dX8_person_0 1 rfl ?_
  refine jj_callSi [.int x1] [] (c_mdf_isMind (d + 0)  rfl) jm_mdf_isMind lk_8_95 rfl (by omega) rfl (Nat.le_of_ble_eq_true rfl) dX8_person_1 ?_
  refine jj_if_eq 14 dX8_person_4 (by decide) (fun c1 => ?_) (fun c1 => ?_)
  · replace h := (if_pos c1).symm.trans h
    refine jj_aload_n dX8_person_14 0 rfl ?_
    refine jj_ldc (-1000000001) lk_8_67 dX8_person_15 ?_
    obtain ⟨q2, e2, h⟩ := jj_be h
    refine jj_callVi [.int (-1000000001)] [] (c_mdf_errs (d + 1)  e2) jm_mdf_errs lk_8_68 (b := 60) rfl (by decide) (jj_E8 rfl) rfl rfl rfl (by omega) rfl (Nat.le_of_ble_eq_true rfl) dX8_person_17 ?_
    exact jj_iret2 hF dX8_person_20 (Option.some.inj h)
  · replace h := (if_neg c1).symm.trans h
    refine jj_iload_n dX8_person_7 2 rfl ?_
    refine jj_callSi [.int x2] [] (c_mdf_isWell (d + 0)  rfl) jm_mdf_isWell lk_8_58 rfl (by omega) rfl (Nat.le_of_ble_eq_true rfl) dX8_person_8 ?_
    refine jj_if_ne 21 dX8_person_11 (by decide) (fun c3 => ?_) (fun c3 => ?_)
    · replace h := (if_neg c3).symm.trans h
      refine jj_aload_n dX8_person_21 0 rfl ?_
      refine jg_8_0 (k := 60) rfl lk_8_7 dX8_person_22 ?_
      show jj_V g X _ _ _ _ _ _ (.ref (jj_ad g 61) :: _) _
      refine jj_sipush (139) dX8_person_25 rfl ?_
      refine jj_iaload (k := 61) (n := 351) rfl (show jj_i 139 351 by decide) dX8_person_28 ?_
      show jj_V g X _ _ _ _ _ _ (.int (μ 61 139) :: _) _
      refine jj_bipush (6) dX8_person_29 rfl ?_
      refine jj_icmp_ne 41 dX8_person_31 (by decide) (fun c4 => ?_) (fun c4 => ?_)
      · replace h := (if_neg c4).symm.trans h
        refine jj_aload_n dX8_person_41 0 rfl ?_
        refine jg_8_0 (k := 60) rfl lk_8_7 dX8_person_42 ?_
        show jj_V g X _ _ _ _ _ _ (.ref (jj_ad g 61) :: _) _
        refine jj_sipush (139) dX8_person_45 rfl ?_
        refine jj_iaload (k := 61) (n := 351) rfl (show jj_i 139 351 by decide) dX8_person_48 ?_
        show jj_V g X _ _ _ _ _ _ (.int (μ 61 139) :: _) _
        refine jj_istore_n [(3, .int (μ 61 139)), (0, .ref (jj_ad g 60)), (1, .int x1), (2, .int x2)] dX8_person_49 (by decide) rfl ?_
        refine jj_aload_n dX8_person_50 1 rfl ?_
        refine jg_8_0 (k := 60) rfl lk_8_7 dX8_person_51 ?_
        show jj_V g X _ _ _ _ _ _ (.ref (jj_ad g 61) :: _) _
        refine jj_iload_n dX8_person_54 0 rfl ?_
        refine jj_iconst (0) dX8_person_55 rfl ?_
        refine jj_callSi [.int (μ 61 139), .int 0] [.ref (jj_ad g 61)] (c_mdf_spot (d + 1)  rfl) jm_mdf_spot lk_8_54 rfl (by omega) rfl (Nat.le_of_ble_eq_true rfl) dX8_person_56 ?_
        refine jj_iload_n dX8_person_59 2 rfl ?_
        refine jj_bipush (10) dX8_person_60 rfl ?_
        refine jj_idiv dX8_person_62 (by decide) ?_
        obtain ⟨g5, h⟩ := jj_ge h
        refine jj_iastore (k := 61) (n := 351) rfl g5 dX8_person_63 ?_
        refine jj_aload_n dX8_person_64 1 rfl ?_
        refine jg_8_0 (k := 60) rfl lk_8_7 dX8_person_65 ?_
        show jj_V g X _ _ _ _ _ _ (.ref (jj_ad g 61) :: _) _
        refine jj_iload_n dX8_person_68 0 rfl ?_
        refine jj_iconst (1) dX8_person_69 rfl ?_
        refine jj_callSi [.int (μ 61 139), .int 1] [.ref (jj_ad g 61)] (c_mdf_spot (d + 1)  rfl) jm_mdf_spot lk_8_54 rfl (by omega) rfl (Nat.le_of_ble_eq_true rfl) dX8_person_70 ?_
        refine jj_iload_n dX8_person_73 2 rfl ?_
        refine jj_bipush (10) dX8_person_74 rfl ?_
        refine jj_irem dX8_person_76 (by decide) ?_
        obtain ⟨g6, h⟩ := jj_ge h
        refine jj_iastore (k := 61) (n := 351) rfl g6 dX8_person_77 ?_
        obtain ⟨m7, em7, h⟩ := jj_be h
        refine jj_mu em7 ?_
        refine jj_aload_n dX8_person_78 1 rfl ?_
        refine jg_8_0 (k := 60) rfl lk_8_7 dX8_person_79 ?_
        show jj_V g X _ _ _ _ _ _ (.ref (jj_ad g 61) :: _) _
        refine jj_iload_n dX8_person_82 0 rfl ?_
        refine jj_iconst (2) dX8_person_83 rfl ?_
        refine jj_callSi [.int (μ 61 139), .int 2] [.ref (jj_ad g 61)] (c_mdf_spot (d + 1)  rfl) jm_mdf_spot lk_8_54 rfl (by omega) rfl (Nat.le_of_ble_eq_true rfl) dX8_person_84 ?_
        refine jj_iload_n dX8_person_87 3 rfl ?_
        obtain ⟨g8, h⟩ := jj_ge h
        refine jj_iastore (k := 61) (n := 351) rfl g8 dX8_person_88 ?_
        refine jj_aload_n dX8_person_89 1 rfl ?_
        refine jg_8_0 (k := 60) rfl lk_8_7 dX8_person_90 ?_
        show jj_V g X _ _ _ _ _ _ (.ref (jj_ad g 61) :: _) _
        refine jj_iload_n dX8_person_93 0 rfl ?_
        refine jj_iconst (3) dX8_person_94 rfl ?_
        refine jj_callSi [.int (μ 61 139), .int 3] [.ref (jj_ad g 61)] (c_mdf_spot (d + 1)  rfl) jm_mdf_spot lk_8_54 rfl (by omega) rfl (Nat.le_of_ble_eq_true rfl) dX8_person_95 ?_
        refine jj_iconst (-1) dX8_person_98 rfl ?_
        obtain ⟨g9, h⟩ := jj_ge h
        refine jj_iastore (k := 61) (n := 351) rfl g9 dX8_person_99 ?_
        obtain ⟨m10, em10, h⟩ := jj_be h
        refine jj_mu em10 ?_
        refine jj_aload_n dX8_person_100 1 rfl ?_
        refine jg_8_0 (k := 60) rfl lk_8_7 dX8_person_101 ?_
        show jj_V g X _ _ _ _ _ _ (.ref (jj_ad g 61) :: _) _
        refine jj_iload_n dX8_person_104 0 rfl ?_
        refine jj_iconst (4) dX8_person_105 rfl ?_
        refine jj_callSi [.int (μ 61 139), .int 4] [.ref (jj_ad g 61)] (c_mdf_spot (d + 1)  rfl) jm_mdf_spot lk_8_54 rfl (by omega) rfl (Nat.le_of_ble_eq_true rfl) dX8_person_106 ?_
        refine jj_iconst (0) dX8_person_109 rfl ?_
        obtain ⟨g11, h⟩ := jj_ge h
        refine jj_iastore (k := 61) (n := 351) rfl g11 dX8_person_110 ?_
        refine jj_aload_n dX8_person_111 1 rfl ?_
        refine jg_8_0 (k := 60) rfl lk_8_7 dX8_person_112 ?_
        show jj_V g X _ _ _ _ _ _ (.ref (jj_ad g 61) :: _) _
        refine jj_iload_n dX8_person_115 0 rfl ?_
        refine jj_iconst (5) dX8_person_116 rfl ?_
        refine jj_callSi [.int (μ 61 139), .int 5] [.ref (jj_ad g 61)] (c_mdf_spot (d + 1)  rfl) jm_mdf_spot lk_8_54 rfl (by omega) rfl (Nat.le_of_ble_eq_true rfl) dX8_person_117 ?_
        refine jj_iconst (0) dX8_person_120 rfl ?_
        obtain ⟨g12, h⟩ := jj_ge h
        refine jj_iastore (k := 61) (n := 351) rfl g12 dX8_person_121 ?_
        obtain ⟨m13, em13, h⟩ := jj_be h
        refine jj_mu em13 ?_
        refine jj_aload_n dX8_person_122 1 rfl ?_
        refine jg_8_0 (k := 60) rfl lk_8_7 dX8_person_123 ?_
        show jj_V g X _ _ _ _ _ _ (.ref (jj_ad g 61) :: _) _
        refine jj_sipush (139) dX8_person_126 rfl ?_
        refine jj_dup2 dX8_person_129 rfl rfl ?_
        refine jj_iaload (k := 61) (n := 351) rfl (show jj_i 139 351 by decide) dX8_person_130 ?_
        show jj_V g X _ _ _ _ _ _ (.int (m13 61 139) :: _) _
        refine jj_iconst (1) dX8_person_131 rfl ?_
        refine jj_iadd dX8_person_132 ?_
        refine jj_iastore (k := 61) (n := 351) rfl (show jj_i 139 351 by decide) dX8_person_133 ?_
        show jj_V g X _ _ _ _ _ _ _ (jj_u m13 61 139 ((m13 61 139) + 1))
        refine jj_iload_n dX8_person_134 0 rfl ?_
        exact jj_iret2 hF dX8_person_135 (Option.some.inj h)
      · replace h := (if_pos c4).symm.trans h
        refine jj_aload_n dX8_person_34 0 rfl ?_
        refine jj_ldc (-1000000004) lk_8_98 dX8_person_35 ?_
        obtain ⟨q14, e14, h⟩ := jj_be h
        refine jj_callVi [.int (-1000000004)] [] (c_mdf_errs (d + 1)  e14) jm_mdf_errs lk_8_68 (b := 60) rfl (by decide) (jj_E8 rfl) rfl rfl rfl (by omega) rfl (Nat.le_of_ble_eq_true rfl) dX8_person_37 ?_
        exact jj_iret2 hF dX8_person_40 (Option.some.inj h)
    · replace h := (if_pos c3).symm.trans h
      refine jj_aload_n dX8_person_14 0 rfl ?_
      refine jj_ldc (-1000000001) lk_8_67 dX8_person_15 ?_
      obtain ⟨q15, e15, h⟩ := jj_be h
      refine jj_callVi [.int (-1000000001)] [] (c_mdf_errs (d + 1)  e15) jm_mdf_errs lk_8_68 (b := 60) rfl (by decide) (jj_E8 rfl) rfl rfl rfl (by omega) rfl (Nat.le_of_ble_eq_true rfl) dX8_person_17 ?_
      exact jj_iret2 hF dX8_person_20 (Option.some.inj h)
def mdf_limitOf  (x1 : Int32) (μ : jj_M) : Option (Int32) := (mdf_its x1 1 μ).bind fun q1 => (mdf_its x1 0 μ).bind fun q2 => if q2 = 1 then some (12 + q1) else if q2 = 2 then some 8 else if q2 = 3 then some 36 else if q2 = 4 then some (12 + q1) else if q2 = 5 then some (8 + (q1 / 2)) else if q2 = 6 then some 36 else some 12
set_option maxRecDepth 100000 in
theorem c_mdf_limitOf {g : jj_G} (d : Nat)  {x1 : Int32} {μ : jj_M} {r : Int32}   (h : mdf_limitOf x1 μ = some r) : jj_N g yX8_limitOf cX8_limitOf 3 (some .int) (d + 2) [.ref (jj_ad g 60), .int x1] μ (some (.int r)) μ := by
  refine jj_N_of jn_8 (Nat.le_of_ble_eq_true rfl) (fun X hF => ?_)
  unfold mdf_limitOf at h
  refine jj_sub (own := RX8) (lv2 := [(0, .ref (jj_ad g 60)), (1, .int x1)]) [0, 1] rfl ?_
  refine jj_aload_n dX8_limitOf_0 0 rfl ?_
  refine jj_iload_n dX8_limitOf_1 1 rfl ?_
  refine jj_iconst (1) dX8_limitOf_2 rfl ?_
  obtain ⟨q1, e1, h⟩ := jj_be h
  refine jj_callVi [.int x1, .int 1] [] (c_mdf_its (d + 0)  e1) jm_mdf_its lk_8_79 (b := 60) rfl (by decide) (jj_E8 rfl) rfl rfl rfl (by omega) rfl (Nat.le_of_ble_eq_true rfl) dX8_limitOf_3 ?_
  refine jj_istore_n [(2, .int q1), (0, .ref (jj_ad g 60)), (1, .int x1)] dX8_limitOf_6 (by decide) rfl ?_
  refine jj_aload_n dX8_limitOf_7 1 rfl ?_
  refine jj_iload_n dX8_limitOf_8 2 rfl ?_
  refine jj_iconst (0) dX8_limitOf_9 rfl ?_
  obtain ⟨q2, e2, h⟩ := jj_be h
  refine jj_callVi [.int x1, .int 0] [] (c_mdf_its (d + 0)  e2) jm_mdf_its lk_8_79 (b := 60) rfl (by decide) (jj_E8 rfl) rfl rfl rfl (by omega) rfl (Nat.le_of_ble_eq_true rfl) dX8_limitOf_10 ?_
  by_cases c3 : q2 = 1
  · replace h := (if_pos c3).symm.trans h
    refine jj_tableIn 52 dX8_limitOf_13 (by rw [c3]; decide) (by rw [c3]; decide) (by rw [c3]; rfl) (show (13 : Int) + 39 = (52 : Nat) by decide) ?_
    refine jj_bipush (12) dX8_limitOf_52 rfl ?_
    refine jj_iload_n dX8_limitOf_54 0 rfl ?_
    refine jj_iadd dX8_limitOf_55 ?_
    exact jj_iret1 hF dX8_limitOf_56 (Option.some.inj h)
  replace h := (if_neg c3).symm.trans h
  by_cases c4 : q2 = 2
  · replace h := (if_pos c4).symm.trans h
    refine jj_tableIn 57 dX8_limitOf_13 (by rw [c4]; decide) (by rw [c4]; decide) (by rw [c4]; rfl) (show (13 : Int) + 44 = (57 : Nat) by decide) ?_
    refine jj_bipush (8) dX8_limitOf_57 rfl ?_
    exact jj_iret1 hF dX8_limitOf_59 (Option.some.inj h)
  replace h := (if_neg c4).symm.trans h
  by_cases c5 : q2 = 3
  · replace h := (if_pos c5).symm.trans h
    refine jj_tableIn 60 dX8_limitOf_13 (by rw [c5]; decide) (by rw [c5]; decide) (by rw [c5]; rfl) (show (13 : Int) + 47 = (60 : Nat) by decide) ?_
    refine jj_bipush (36) dX8_limitOf_60 rfl ?_
    exact jj_iret1 hF dX8_limitOf_62 (Option.some.inj h)
  replace h := (if_neg c5).symm.trans h
  by_cases c6 : q2 = 4
  · replace h := (if_pos c6).symm.trans h
    refine jj_tableIn 52 dX8_limitOf_13 (by rw [c6]; decide) (by rw [c6]; decide) (by rw [c6]; rfl) (show (13 : Int) + 39 = (52 : Nat) by decide) ?_
    refine jj_bipush (12) dX8_limitOf_52 rfl ?_
    refine jj_iload_n dX8_limitOf_54 0 rfl ?_
    refine jj_iadd dX8_limitOf_55 ?_
    exact jj_iret1 hF dX8_limitOf_56 (Option.some.inj h)
  replace h := (if_neg c6).symm.trans h
  by_cases c7 : q2 = 5
  · replace h := (if_pos c7).symm.trans h
    refine jj_tableIn 63 dX8_limitOf_13 (by rw [c7]; decide) (by rw [c7]; decide) (by rw [c7]; rfl) (show (13 : Int) + 50 = (63 : Nat) by decide) ?_
    refine jj_bipush (8) dX8_limitOf_63 rfl ?_
    refine jj_iload_n dX8_limitOf_65 0 rfl ?_
    refine jj_iconst (2) dX8_limitOf_66 rfl ?_
    refine jj_idiv dX8_limitOf_67 (by decide) ?_
    refine jj_iadd dX8_limitOf_68 ?_
    exact jj_iret1 hF dX8_limitOf_69 (Option.some.inj h)
  replace h := (if_neg c7).symm.trans h
  by_cases c8 : q2 = 6
  · replace h := (if_pos c8).symm.trans h
    refine jj_tableIn 60 dX8_limitOf_13 (by rw [c8]; decide) (by rw [c8]; decide) (by rw [c8]; rfl) (show (13 : Int) + 47 = (60 : Nat) by decide) ?_
    refine jj_bipush (36) dX8_limitOf_60 rfl ?_
    exact jj_iret1 hF dX8_limitOf_62 (Option.some.inj h)
  replace h := (if_neg c8).symm.trans h
  have c3 : ¬ Int32.toInt q2 = 1 := fun w => c3 (Int32.toInt_inj.mp (w.trans (by decide)))
  have c4 : ¬ Int32.toInt q2 = 2 := fun w => c4 (Int32.toInt_inj.mp (w.trans (by decide)))
  have c5 : ¬ Int32.toInt q2 = 3 := fun w => c5 (Int32.toInt_inj.mp (w.trans (by decide)))
  have c6 : ¬ Int32.toInt q2 = 4 := fun w => c6 (Int32.toInt_inj.mp (w.trans (by decide)))
  have c7 : ¬ Int32.toInt q2 = 5 := fun w => c7 (Int32.toInt_inj.mp (w.trans (by decide)))
  have c8 : ¬ Int32.toInt q2 = 6 := fun w => c8 (Int32.toInt_inj.mp (w.trans (by decide)))
  refine jj_tableOut 70 dX8_limitOf_13 (by omega) (by decide) ?_
  refine jj_bipush (12) dX8_limitOf_70 rfl ?_
  exact jj_iret1 hF dX8_limitOf_72 (Option.some.inj h)
def mdf_here   (μ : jj_M) : Option (Int32) := if (μ 60 6) ≤ (μ 60 7) then some (-1) else if (μ 60 13) = 0 then if jj_i ((μ 60 5) + (μ 60 7)) 351 then some (μ 61 ((μ 60 5) + (μ 60 7)).toNatClampNeg) else none else some (-1)
set_option maxRecDepth 100000 in
theorem c_mdf_here {g : jj_G} (d : Nat)   {μ : jj_M} {r : Int32}   (h : mdf_here μ = some r) : jj_N g yX8_here cX8_here 1 (some .int) (d + 0) [.ref (jj_ad g 60)] μ (some (.int r)) μ := by
  refine jj_N_of jn_8 (Nat.le_of_ble_eq_true rfl) (fun X hF => ?_)
  unfold mdf_here at h
  refine jj_sub (own := RX8) (lv2 := [(0, .ref (jj_ad g 60))]) [0] rfl ?_
  refine jj_aload_n dX8_here_0 0 rfl ?_
  refine jg_8_7 (k := 60) rfl lk_8_121 dX8_here_1 ?_
  refine jj_aload_n dX8_here_4 0 rfl ?_
  refine jg_8_6 (k := 60) rfl lk_8_125 dX8_here_5 ?_
  refine jj_icmp_ge 35 dX8_here_8 (by decide) (fun c1 => ?_) (fun c1 => ?_)
  · replace h := (if_pos c1).symm.trans h
    refine jj_iconst (-1) dX8_here_35 rfl ?_
    exact jj_iret1 hF dX8_here_36 (Option.some.inj h)
  · replace h := (if_neg c1).symm.trans h
    refine jj_aload_n dX8_here_11 0 rfl ?_
    refine jg_8_13 (k := 60) rfl lk_8_128 dX8_here_12 ?_
    refine jj_if_ne 35 dX8_here_15 (by decide) (fun c2 => ?_) (fun c2 => ?_)
    · replace h := (if_neg c2).symm.trans h
      refine jj_iconst (-1) dX8_here_35 rfl ?_
      exact jj_iret1 hF dX8_here_36 (Option.some.inj h)
    · replace h := (if_pos c2).symm.trans h
      refine jj_aload_n dX8_here_18 0 rfl ?_
      refine jg_8_0 (k := 60) rfl lk_8_7 dX8_here_19 ?_
      show jj_V g X _ _ _ _ _ _ (.ref (jj_ad g 61) :: _) _
      refine jj_aload_n dX8_here_22 0 rfl ?_
      refine jg_8_5 (k := 60) rfl lk_8_132 dX8_here_23 ?_
      refine jj_aload_n dX8_here_26 0 rfl ?_
      refine jg_8_7 (k := 60) rfl lk_8_121 dX8_here_27 ?_
      refine jj_iadd dX8_here_30 ?_
      obtain ⟨g3, h⟩ := jj_ge h
      refine jj_iaload (k := 61) (n := 351) rfl g3 dX8_here_31 ?_
      refine jj_goto 36 dX8_here_32 (by decide) ?_
      exact jj_iret1 hF dX8_here_36 (Option.some.inj h)
def mdf_isDigit  (x0 : Int32)  : Int32 := mdf_in (Int32.toInt64 x0) 48 57
theorem z_mdf_isDigit (x0 : Int32)  : mdf_isDigit x0 = 0 ∨ mdf_isDigit x0 = 1 := by
  unfold mdf_isDigit
  first | (first | exact Or.inl rfl | exact Or.inr rfl | apply z_mdf_in) | ((repeat' split) <;> first | exact Or.inl rfl | exact Or.inr rfl | apply z_mdf_in)
set_option maxRecDepth 100000 in
theorem c_mdf_isDigit {g : jj_G} (d : Nat)  {x0 : Int32} {μ : jj_M} {r : Int32}   (h : mdf_isDigit x0 = r) : jj_N g yX8_isDigit cX8_isDigit 1 (some .boolean) (d + 1) [.int x0] μ (some (.int r)) μ := by
  refine jj_N_of jn_8 (Nat.le_of_ble_eq_true rfl) (fun X hF => ?_)
  unfold mdf_isDigit at h
  refine jj_sub (own := RX8) (lv2 := [(0, .int x0)]) [0] rfl ?_
  refine jj_iload_n dX8_isDigit_0 0 rfl ?_
  refine jj_i2l dX8_isDigit_1 ?_
  refine jj_ldc2_w (48) lk_8_142 dX8_isDigit_2 ?_
  refine jj_ldc2_w (57) lk_8_144 dX8_isDigit_5 ?_
  refine jj_callSi [.long (Int32.toInt64 x0), .long 48, .long 57] [] (c_mdf_in (d + 0)  rfl) jm_mdf_in lk_8_46 rfl (by omega) rfl (Nat.le_of_ble_eq_true rfl) dX8_isDigit_8 ?_
  exact jj_zret1 hF dX8_isDigit_11 (z_mdf_in _ _ _) h
def mdf_name  (x1 : Int32) (μ : jj_M) : Int32 := if (μ 60 9) = 0 then if x1 = 109 then 1 else if x1 = 116 then 2 else if x1 = 100 then 3 else 0 else if x1 = 108 then 1 else if x1 = 109 then 2 else if x1 = 100 then 3 else 0
set_option maxRecDepth 100000 in
theorem c_mdf_name {g : jj_G} (d : Nat)  {x1 : Int32} {μ : jj_M} {r : Int32}   (h : mdf_name x1 μ = r) : jj_N g yX8_name cX8_name 2 (some .int) (d + 0) [.ref (jj_ad g 60), .int x1] μ (some (.int r)) μ := by
  refine jj_N_of jn_8 (Nat.le_of_ble_eq_true rfl) (fun X hF => ?_)
  unfold mdf_name at h
  refine jj_sub (own := RX8) (lv2 := [(0, .ref (jj_ad g 60)), (1, .int x1)]) [0, 1] rfl ?_
  refine jj_aload_n dX8_name_0 0 rfl ?_
  refine jg_8_9 (k := 60) rfl lk_8_139 dX8_name_1 ?_
  refine jj_if_ne 39 dX8_name_4 (by decide) (fun c1 => ?_) (fun c1 => ?_)
  · replace h := (if_neg c1).symm.trans h
    refine jj_iload_n dX8_name_39 1 rfl ?_
    refine jj_bipush (108) dX8_name_40 rfl ?_
    refine jj_icmp_ne 49 dX8_name_42 (by decide) (fun c2 => ?_) (fun c2 => ?_)
    · replace h := (if_neg c2).symm.trans h
      refine jj_iload_n dX8_name_49 1 rfl ?_
      refine jj_bipush (109) dX8_name_50 rfl ?_
      refine jj_icmp_ne 59 dX8_name_52 (by decide) (fun c3 => ?_) (fun c3 => ?_)
      · replace h := (if_neg c3).symm.trans h
        refine jj_iload_n dX8_name_59 1 rfl ?_
        refine jj_bipush (100) dX8_name_60 rfl ?_
        refine jj_icmp_ne 69 dX8_name_62 (by decide) (fun c4 => ?_) (fun c4 => ?_)
        · replace h := (if_neg c4).symm.trans h
          refine jj_iconst (0) dX8_name_69 rfl ?_
          exact jj_iret1 hF dX8_name_70 h
        · replace h := (if_pos c4).symm.trans h
          refine jj_iconst (3) dX8_name_65 rfl ?_
          refine jj_goto 70 dX8_name_66 (by decide) ?_
          exact jj_iret1 hF dX8_name_70 h
      · replace h := (if_pos c3).symm.trans h
        refine jj_iconst (2) dX8_name_55 rfl ?_
        refine jj_goto 70 dX8_name_56 (by decide) ?_
        exact jj_iret1 hF dX8_name_70 h
    · replace h := (if_pos c2).symm.trans h
      refine jj_iconst (1) dX8_name_45 rfl ?_
      refine jj_goto 70 dX8_name_46 (by decide) ?_
      exact jj_iret1 hF dX8_name_70 h
  · replace h := (if_pos c1).symm.trans h
    refine jj_iload_n dX8_name_7 1 rfl ?_
    refine jj_bipush (109) dX8_name_8 rfl ?_
    refine jj_icmp_ne 17 dX8_name_10 (by decide) (fun c5 => ?_) (fun c5 => ?_)
    · replace h := (if_neg c5).symm.trans h
      refine jj_iload_n dX8_name_17 1 rfl ?_
      refine jj_bipush (116) dX8_name_18 rfl ?_
      refine jj_icmp_ne 27 dX8_name_20 (by decide) (fun c6 => ?_) (fun c6 => ?_)
      · replace h := (if_neg c6).symm.trans h
        refine jj_iload_n dX8_name_27 1 rfl ?_
        refine jj_bipush (100) dX8_name_28 rfl ?_
        refine jj_icmp_ne 37 dX8_name_30 (by decide) (fun c7 => ?_) (fun c7 => ?_)
        · replace h := (if_neg c7).symm.trans h
          refine jj_iconst (0) dX8_name_37 rfl ?_
          exact jj_iret1 hF dX8_name_38 h
        · replace h := (if_pos c7).symm.trans h
          refine jj_iconst (3) dX8_name_33 rfl ?_
          refine jj_goto 38 dX8_name_34 (by decide) ?_
          exact jj_iret1 hF dX8_name_38 h
      · replace h := (if_pos c6).symm.trans h
        refine jj_iconst (2) dX8_name_23 rfl ?_
        refine jj_goto 38 dX8_name_24 (by decide) ?_
        exact jj_iret1 hF dX8_name_38 h
    · replace h := (if_pos c5).symm.trans h
      refine jj_iconst (1) dX8_name_13 rfl ?_
      refine jj_goto 38 dX8_name_14 (by decide) ?_
      exact jj_iret1 hF dX8_name_38 h
def mdf_takes_B13   (sx0 : Int32) (μ : jj_M) : Option (Int32 × jj_M) := if sx0 = 0 then if sx0 = 0 ∨ sx0 = 1 then some ((sx0, jj_u μ 60 7 ((μ 60 7) + 0))) else none else if sx0 = 0 ∨ sx0 = 1 then some ((sx0, jj_u μ 60 7 ((μ 60 7) + 1))) else none
set_option maxRecDepth 100000 in
theorem t_mdf_takes_B13 {g : jj_G} (d : Nat)   {sx0 : Int32} {μ : jj_M}  {r : Int32} {μ' : jj_M} {X : jj_X}   (hF : jj_F g (some .boolean) (some (.int r)) μ' X)  (h : mdf_takes_B13 sx0 μ = some (r, μ')) : jj_V g X RX8 cX8_takes 3 (d + 1) 13 [(0, .ref (jj_ad g 60))] [.int sx0] μ := by
  unfold mdf_takes_B13 at h
  refine jj_istore_n [(2, .int sx0), (0, .ref (jj_ad g 60))] dX8_takes_13 (by decide) rfl ?_
  refine jj_aload_n dX8_takes_14 1 rfl ?_
  refine jj_dup dX8_takes_15 rfl ?_
  refine jg_8_7 (k := 60) rfl lk_8_121 dX8_takes_16 ?_
  refine jj_iload_n dX8_takes_19 0 rfl ?_
  refine jj_if_eq 27 dX8_takes_20 (by decide) (fun c1 => ?_) (fun c1 => ?_)
  · replace h := (if_pos c1).symm.trans h
    refine jj_iconst (0) dX8_takes_27 rfl ?_
    refine jj_iadd dX8_takes_28 ?_
    refine jp_8_7 (k := 60) rfl lk_8_121 dX8_takes_29 ?_
    refine jj_iload_n dX8_takes_32 0 rfl ?_
    obtain ⟨g2, h⟩ := jj_ge h
    exact jj_zret2 hF dX8_takes_33 g2 (Option.some.inj h)
  · replace h := (if_neg c1).symm.trans h
    refine jj_iconst (1) dX8_takes_23 rfl ?_
    refine jj_goto 28 dX8_takes_24 (by decide) ?_
    refine jj_iadd dX8_takes_28 ?_
    refine jp_8_7 (k := 60) rfl lk_8_121 dX8_takes_29 ?_
    refine jj_iload_n dX8_takes_32 0 rfl ?_
    obtain ⟨g3, h⟩ := jj_ge h
    exact jj_zret2 hF dX8_takes_33 g3 (Option.some.inj h)
def mdf_takes  (x1 : Int32) (μ : jj_M) : Option (Int32 × jj_M) := (mdf_here μ).bind fun q1 => if q1 = x1 then mdf_takes_B13 1 μ else mdf_takes_B13 0 μ
set_option maxRecDepth 100000 in
theorem c_mdf_takes {g : jj_G} (d : Nat)  {x1 : Int32} {μ : jj_M} {r : Int32} {μ' : jj_M}   (h : mdf_takes x1 μ = some (r, μ')) : jj_N g yX8_takes cX8_takes 3 (some .boolean) (d + 1) [.ref (jj_ad g 60), .int x1] μ (some (.int r)) μ' := by
  refine jj_N_of jn_8 (Nat.le_of_ble_eq_true rfl) (fun X hF => ?_)
  unfold mdf_takes at h
  refine jj_sub (own := RX8) (lv2 := [(0, .ref (jj_ad g 60)), (1, .int x1)]) [0, 1] rfl ?_
  refine jj_aload_n dX8_takes_0 0 rfl ?_
  obtain ⟨q1, e1, h⟩ := jj_be h
  refine jj_callVi [] [] (c_mdf_here (d + 0)  e1) jm_mdf_here lk_8_135 (b := 60) rfl (by decide) (jj_E8 rfl) rfl rfl rfl (by omega) rfl (Nat.le_of_ble_eq_true rfl) dX8_takes_1 ?_
  refine jj_iload_n dX8_takes_4 1 rfl ?_
  refine jj_icmp_ne 12 dX8_takes_5 (by decide) (fun c2 => ?_) (fun c2 => ?_)
  · replace h := (if_neg c2).symm.trans h
    refine jj_iconst (0) dX8_takes_12 rfl ?_
    refine jj_sub [0] rfl ?_
    exact t_mdf_takes_B13 d   hF  h
  · replace h := (if_pos c2).symm.trans h
    refine jj_iconst (1) dX8_takes_8 rfl ?_
    refine jj_goto 13 dX8_takes_9 (by decide) ?_
    refine jj_sub [0] rfl ?_
    exact t_mdf_takes_B13 d   hF  h
def mdf_single_L16 (N : Nat) (f_mdf_single : jj_M → Option (Int32 × jj_M)) (f_mdf_any : jj_M → Option (Int32 × jj_M))   : Nat → Int32 → Int32 → jj_M → Option (Int32 × jj_M)
  | 0, _, _, _ => none
  | n + 1, x2, x3, μ => if 4 ≤ x3 then some ((x2, μ)) else (mdf_here μ).bind fun q2 => if (mdf_isDigit q2) = 0 then some ((x2, μ)) else (mdf_here μ).bind fun q4 => mdf_single_L16 N f_mdf_single f_mdf_any n (((10 * x2) + q4) - 48) (x3 + 1) (jj_u μ 60 7 ((μ 60 7) + 1))
set_option maxRecDepth 100000 in
theorem t_mdf_single_L16 {g : jj_G} (d : Nat) {N : Nat} {f_mdf_single : jj_M → Option (Int32 × jj_M)} {f_mdf_any : jj_M → Option (Int32 × jj_M)}    {r : Int32} {μ' : jj_M} {X : jj_X} (h_mdf_single : ∀  {μ : jj_M} {r : Int32} {μ' : jj_M} , f_mdf_single μ = some (r, μ') → jj_N g yX8_single cX8_single 4 (some .int) (d + 1) [.ref (jj_ad g 60)] μ (some (.int r)) μ') (h_mdf_any : ∀  {μ : jj_M} {r : Int32} {μ' : jj_M} , f_mdf_any μ = some (r, μ') → jj_N g yX8_any cX8_any 3 (some .int) (d + 1) [.ref (jj_ad g 60)] μ (some (.int r)) μ')  (hF : jj_F g (some .int) (some (.int r)) μ' X)  : ∀ (n : Nat) (x2 : Int32) (x3 : Int32) (μ : jj_M), mdf_single_L16 N f_mdf_single f_mdf_any n x2 x3 μ = some (r, μ') → jj_V g X RX8 cX8_single 4 (d + 2) 16 [(0, .ref (jj_ad g 60)), (2, .int x2), (3, .int x3)] [] μ := by
  intro n
  induction n with
  | zero =>
    intro x2 x3 μ h
    exact (jj_no h).elim
  | succ n ih =>
    intro x2 x3 μ h
    rw [mdf_single_L16] at h
    refine jj_iload_n dX8_single_16 2 rfl ?_
    refine jj_iconst (4) dX8_single_17 rfl ?_
    refine jj_icmp_ge 60 dX8_single_18 (by decide) (fun c1 => ?_) (fun c1 => ?_)
    · replace h := (if_pos c1).symm.trans h
      refine jj_goto 250 dX8_single_60 (by decide) ?_
      refine jj_iload_n dX8_single_250 1 rfl ?_
      exact jj_iret2 hF dX8_single_251 (Option.some.inj h)
    · replace h := (if_neg c1).symm.trans h
      refine jj_aload_n dX8_single_21 0 rfl ?_
      obtain ⟨q2, e2, h⟩ := jj_be h
      refine jj_callVi [] [] (c_mdf_here (d + 1)  e2) jm_mdf_here lk_8_135 (b := 60) rfl (by decide) (jj_E8 rfl) rfl rfl rfl (by omega) rfl (Nat.le_of_ble_eq_true rfl) dX8_single_22 ?_
      refine jj_callSi [.int q2] [] (c_mdf_isDigit (d + 0)  rfl) jm_mdf_isDigit lk_8_146 rfl (by omega) rfl (Nat.le_of_ble_eq_true rfl) dX8_single_25 ?_
      refine jj_if_eq 60 dX8_single_28 (by decide) (fun c3 => ?_) (fun c3 => ?_)
      · replace h := (if_pos c3).symm.trans h
        refine jj_goto 250 dX8_single_60 (by decide) ?_
        refine jj_iload_n dX8_single_250 1 rfl ?_
        exact jj_iret2 hF dX8_single_251 (Option.some.inj h)
      · replace h := (if_neg c3).symm.trans h
        refine jj_bipush (10) dX8_single_31 rfl ?_
        refine jj_iload_n dX8_single_33 1 rfl ?_
        refine jj_imul dX8_single_34 ?_
        refine jj_aload_n dX8_single_35 0 rfl ?_
        obtain ⟨q4, e4, h⟩ := jj_be h
        refine jj_callVi [] [.int (10 * x2)] (c_mdf_here (d + 1)  e4) jm_mdf_here lk_8_135 (b := 60) rfl (by decide) (jj_E8 rfl) rfl rfl rfl (by omega) rfl (Nat.le_of_ble_eq_true rfl) dX8_single_36 ?_
        refine jj_iadd dX8_single_39 ?_
        refine jj_bipush (48) dX8_single_40 rfl ?_
        refine jj_isub dX8_single_42 ?_
        refine jj_istore_n [(2, .int (((10 * x2) + q4) - 48)), (0, .ref (jj_ad g 60)), (3, .int x3)] dX8_single_43 (by decide) rfl ?_
        refine jj_aload_n dX8_single_44 1 rfl ?_
        refine jj_dup dX8_single_45 rfl ?_
        refine jg_8_7 (k := 60) rfl lk_8_121 dX8_single_46 ?_
        refine jj_iconst (1) dX8_single_49 rfl ?_
        refine jj_iadd dX8_single_50 ?_
        refine jp_8_7 (k := 60) rfl lk_8_121 dX8_single_51 ?_
        refine jj_iinc (x3 + 1) [(3, .int (x3 + 1)), (2, .int (((10 * x2) + q4) - 48)), (0, .ref (jj_ad g 60))] dX8_single_54 2 rfl rfl (by decide) rfl ?_
        refine jj_goto 16 dX8_single_57 (by decide) ?_
        refine jj_sub [2, 1, 0] rfl ?_
        exact ih _ _ _ h
def mdf_single_B198 (N : Nat) (f_mdf_single : jj_M → Option (Int32 × jj_M)) (f_mdf_any : jj_M → Option (Int32 × jj_M))  (x1 : Int32) (sx0 : Int32) (μ : jj_M) : Option (Int32 × jj_M) := if x1 = 40 then (mdf_takes 41 μ).bind fun q2 => if (q2.2 60 13) = 0 then if q2.1 = 0 then (some (jj_u (jj_u q2.2 60 13 1) 60 8 (((jj_u q2.2 60 13 1) 60 8) - 1))).bind fun m7 => some ((sx0, m7)) else (some (jj_u (jj_u q2.2 60 13 0) 60 8 (((jj_u q2.2 60 13 0) 60 8) - 1))).bind fun m6 => some ((sx0, m6)) else (some (jj_u (jj_u q2.2 60 13 1) 60 8 (((jj_u q2.2 60 13 1) 60 8) - 1))).bind fun m4 => some ((sx0, m4)) else some ((sx0, jj_u μ 60 8 ((μ 60 8) - 1)))
set_option maxRecDepth 100000 in
theorem t_mdf_single_B198 {g : jj_G} (d : Nat) {N : Nat} {f_mdf_single : jj_M → Option (Int32 × jj_M)} {f_mdf_any : jj_M → Option (Int32 × jj_M)}  {x1 : Int32} {sx0 : Int32} {μ : jj_M}  {r : Int32} {μ' : jj_M} {X : jj_X} (h_mdf_single : ∀  {μ : jj_M} {r : Int32} {μ' : jj_M} , f_mdf_single μ = some (r, μ') → jj_N g yX8_single cX8_single 4 (some .int) (d + 1) [.ref (jj_ad g 60)] μ (some (.int r)) μ') (h_mdf_any : ∀  {μ : jj_M} {r : Int32} {μ' : jj_M} , f_mdf_any μ = some (r, μ') → jj_N g yX8_any cX8_any 3 (some .int) (d + 1) [.ref (jj_ad g 60)] μ (some (.int r)) μ')  (hF : jj_F g (some .int) (some (.int r)) μ' X)  (h : mdf_single_B198 N f_mdf_single f_mdf_any x1 sx0 μ = some (r, μ')) : jj_V g X RX8 cX8_single 4 (d + 2) 198 [(0, .ref (jj_ad g 60)), (1, .int x1)] [.int sx0] μ := by
  unfold mdf_single_B198 at h
  refine jj_istore_n [(2, .int sx0), (0, .ref (jj_ad g 60)), (1, .int x1)] dX8_single_198 (by decide) rfl ?_
  refine jj_iload_n dX8_single_199 2 rfl ?_
  refine jj_bipush (40) dX8_single_200 rfl ?_
  refine jj_icmp_ne 232 dX8_single_202 (by decide) (fun c1 => ?_) (fun c1 => ?_)
  · replace h := (if_neg c1).symm.trans h
    refine jj_aload_n dX8_single_232 1 rfl ?_
    refine jj_dup dX8_single_233 rfl ?_
    refine jg_8_8 (k := 60) rfl lk_8_161 dX8_single_234 ?_
    refine jj_iconst (1) dX8_single_237 rfl ?_
    refine jj_isub dX8_single_238 ?_
    refine jp_8_8 (k := 60) rfl lk_8_161 dX8_single_239 ?_
    refine jj_goto 250 dX8_single_242 (by decide) ?_
    refine jj_iload_n dX8_single_250 0 rfl ?_
    exact jj_iret2 hF dX8_single_251 (Option.some.inj h)
  · replace h := (if_pos c1).symm.trans h
    refine jj_aload_n dX8_single_205 1 rfl ?_
    refine jj_bipush (41) dX8_single_206 rfl ?_
    obtain ⟨q2, e2, h⟩ := jj_be h
    refine jj_callVi [.int 41] [] (c_mdf_takes (d + 0)  e2) jm_mdf_takes lk_8_170 (b := 60) rfl (by decide) (jj_E8 rfl) rfl rfl rfl (by omega) rfl (Nat.le_of_ble_eq_true rfl) dX8_single_208 ?_
    refine jj_istore_n [(3, .int q2.1), (2, .int sx0), (0, .ref (jj_ad g 60)), (1, .int x1)] dX8_single_211 (by decide) rfl ?_
    refine jj_aload_n dX8_single_212 2 rfl ?_
    refine jj_aload_n dX8_single_213 2 rfl ?_
    refine jg_8_13 (k := 60) rfl lk_8_128 dX8_single_214 ?_
    refine jj_if_ne 224 dX8_single_217 (by decide) (fun c3 => ?_) (fun c3 => ?_)
    · replace h := (if_neg c3).symm.trans h
      refine jj_iconst (1) dX8_single_224 rfl ?_
      refine jj_goto 229 dX8_single_225 (by decide) ?_
      refine jp_8_13 (k := 60) rfl (Or.inr rfl) lk_8_128 dX8_single_229 ?_
      refine jj_aload_n dX8_single_232 2 rfl ?_
      refine jj_dup dX8_single_233 rfl ?_
      refine jg_8_8 (k := 60) rfl lk_8_161 dX8_single_234 ?_
      refine jj_iconst (1) dX8_single_237 rfl ?_
      refine jj_isub dX8_single_238 ?_
      refine jp_8_8 (k := 60) rfl lk_8_161 dX8_single_239 ?_
      obtain ⟨m4, em4, h⟩ := jj_be h
      refine jj_mu em4 ?_
      refine jj_goto 250 dX8_single_242 (by decide) ?_
      refine jj_iload_n dX8_single_250 1 rfl ?_
      exact jj_iret2 hF dX8_single_251 (Option.some.inj h)
    · replace h := (if_pos c3).symm.trans h
      refine jj_iload_n dX8_single_220 0 rfl ?_
      refine jj_if_ne 228 dX8_single_221 (by decide) (fun c5 => ?_) (fun c5 => ?_)
      · replace h := (if_neg c5).symm.trans h
        refine jj_iconst (0) dX8_single_228 rfl ?_
        refine jp_8_13 (k := 60) rfl (Or.inl rfl) lk_8_128 dX8_single_229 ?_
        refine jj_aload_n dX8_single_232 2 rfl ?_
        refine jj_dup dX8_single_233 rfl ?_
        refine jg_8_8 (k := 60) rfl lk_8_161 dX8_single_234 ?_
        refine jj_iconst (1) dX8_single_237 rfl ?_
        refine jj_isub dX8_single_238 ?_
        refine jp_8_8 (k := 60) rfl lk_8_161 dX8_single_239 ?_
        obtain ⟨m6, em6, h⟩ := jj_be h
        refine jj_mu em6 ?_
        refine jj_goto 250 dX8_single_242 (by decide) ?_
        refine jj_iload_n dX8_single_250 1 rfl ?_
        exact jj_iret2 hF dX8_single_251 (Option.some.inj h)
      · replace h := (if_pos c5).symm.trans h
        refine jj_iconst (1) dX8_single_224 rfl ?_
        refine jj_goto 229 dX8_single_225 (by decide) ?_
        refine jp_8_13 (k := 60) rfl (Or.inr rfl) lk_8_128 dX8_single_229 ?_
        refine jj_aload_n dX8_single_232 2 rfl ?_
        refine jj_dup dX8_single_233 rfl ?_
        refine jg_8_8 (k := 60) rfl lk_8_161 dX8_single_234 ?_
        refine jj_iconst (1) dX8_single_237 rfl ?_
        refine jj_isub dX8_single_238 ?_
        refine jp_8_8 (k := 60) rfl lk_8_161 dX8_single_239 ?_
        obtain ⟨m7, em7, h⟩ := jj_be h
        refine jj_mu em7 ?_
        refine jj_goto 250 dX8_single_242 (by decide) ?_
        refine jj_iload_n dX8_single_250 1 rfl ?_
        exact jj_iret2 hF dX8_single_251 (Option.some.inj h)
def mdf_single_B133 (N : Nat) (f_mdf_single : jj_M → Option (Int32 × jj_M)) (f_mdf_any : jj_M → Option (Int32 × jj_M))  (x1 : Int32) (x2 : Int32) (μ : jj_M) : Option (Int32 × jj_M) := if 5 ≤ (μ 60 8) then some ((x2, jj_u μ 60 13 1)) else (some (jj_u (jj_u μ 60 7 ((μ 60 7) + 1)) 60 8 (((jj_u μ 60 7 ((μ 60 7) + 1)) 60 8) + 1))).bind fun m2 => if x1 = 33 then (f_mdf_single m2).bind fun q7 => if x1 = 33 then if q7.1 = 0 then mdf_single_B198 N f_mdf_single f_mdf_any x1 1 q7.2 else mdf_single_B198 N f_mdf_single f_mdf_any x1 0 q7.2 else mdf_single_B198 N f_mdf_single f_mdf_any x1 q7.1 q7.2 else (f_mdf_any m2).bind fun q4 => if x1 = 33 then if q4.1 = 0 then mdf_single_B198 N f_mdf_single f_mdf_any x1 1 q4.2 else mdf_single_B198 N f_mdf_single f_mdf_any x1 0 q4.2 else mdf_single_B198 N f_mdf_single f_mdf_any x1 q4.1 q4.2
set_option maxRecDepth 100000 in
theorem t_mdf_single_B133 {g : jj_G} (d : Nat) {N : Nat} {f_mdf_single : jj_M → Option (Int32 × jj_M)} {f_mdf_any : jj_M → Option (Int32 × jj_M)}  {x1 : Int32} {x2 : Int32} {μ : jj_M}  {r : Int32} {μ' : jj_M} {X : jj_X} (h_mdf_single : ∀  {μ : jj_M} {r : Int32} {μ' : jj_M} , f_mdf_single μ = some (r, μ') → jj_N g yX8_single cX8_single 4 (some .int) (d + 1) [.ref (jj_ad g 60)] μ (some (.int r)) μ') (h_mdf_any : ∀  {μ : jj_M} {r : Int32} {μ' : jj_M} , f_mdf_any μ = some (r, μ') → jj_N g yX8_any cX8_any 3 (some .int) (d + 1) [.ref (jj_ad g 60)] μ (some (.int r)) μ')  (hF : jj_F g (some .int) (some (.int r)) μ' X)  (h : mdf_single_B133 N f_mdf_single f_mdf_any x1 x2 μ = some (r, μ')) : jj_V g X RX8 cX8_single 4 (d + 2) 133 [(0, .ref (jj_ad g 60)), (1, .int x1), (2, .int x2)] [] μ := by
  unfold mdf_single_B133 at h
  refine jj_aload_n dX8_single_133 0 rfl ?_
  refine jg_8_8 (k := 60) rfl lk_8_161 dX8_single_134 ?_
  refine jj_iconst (5) dX8_single_137 rfl ?_
  refine jj_icmp_ge 245 dX8_single_138 (by decide) (fun c1 => ?_) (fun c1 => ?_)
  · replace h := (if_pos c1).symm.trans h
    refine jj_aload_n dX8_single_245 0 rfl ?_
    refine jj_iconst (1) dX8_single_246 rfl ?_
    refine jp_8_13 (k := 60) rfl (Or.inr rfl) lk_8_128 dX8_single_247 ?_
    refine jj_iload_n dX8_single_250 2 rfl ?_
    exact jj_iret2 hF dX8_single_251 (Option.some.inj h)
  · replace h := (if_neg c1).symm.trans h
    refine jj_aload_n dX8_single_141 0 rfl ?_
    refine jj_dup dX8_single_142 rfl ?_
    refine jg_8_7 (k := 60) rfl lk_8_121 dX8_single_143 ?_
    refine jj_iconst (1) dX8_single_146 rfl ?_
    refine jj_iadd dX8_single_147 ?_
    refine jp_8_7 (k := 60) rfl lk_8_121 dX8_single_148 ?_
    refine jj_aload_n dX8_single_151 0 rfl ?_
    refine jj_dup dX8_single_152 rfl ?_
    refine jg_8_8 (k := 60) rfl lk_8_161 dX8_single_153 ?_
    refine jj_iconst (1) dX8_single_156 rfl ?_
    refine jj_iadd dX8_single_157 ?_
    refine jp_8_8 (k := 60) rfl lk_8_161 dX8_single_158 ?_
    obtain ⟨m2, em2, h⟩ := jj_be h
    refine jj_mu em2 ?_
    refine jj_iload_n dX8_single_161 1 rfl ?_
    refine jj_bipush (33) dX8_single_162 rfl ?_
    refine jj_icmp_ne 174 dX8_single_164 (by decide) (fun c3 => ?_) (fun c3 => ?_)
    · replace h := (if_neg c3).symm.trans h
      refine jj_aload_n dX8_single_174 0 rfl ?_
      obtain ⟨q4, e4, h⟩ := jj_be h
      refine jj_callVi [] [] (h_mdf_any  e4) jm_mdf_any lk_8_167 (b := 60) rfl (by decide) (jj_E8 rfl) rfl rfl rfl (by omega) rfl (Nat.le_of_ble_eq_true rfl) dX8_single_175 ?_
      refine jj_istore_n [(2, .int q4.1), (0, .ref (jj_ad g 60)), (1, .int x1)] dX8_single_178 (by decide) rfl ?_
      refine jj_iload_n dX8_single_179 2 rfl ?_
      refine jj_bipush (33) dX8_single_180 rfl ?_
      refine jj_icmp_eq 189 dX8_single_182 (by decide) (fun c5 => ?_) (fun c5 => ?_)
      · replace h := (if_pos c5).symm.trans h
        refine jj_iload_n dX8_single_189 0 rfl ?_
        refine jj_if_ne 197 dX8_single_190 (by decide) (fun c6 => ?_) (fun c6 => ?_)
        · replace h := (if_neg c6).symm.trans h
          refine jj_iconst (0) dX8_single_197 rfl ?_
          refine jj_sub [1, 2] rfl ?_
          exact t_mdf_single_B198 d h_mdf_single h_mdf_any  hF  h
        · replace h := (if_pos c6).symm.trans h
          refine jj_iconst (1) dX8_single_193 rfl ?_
          refine jj_goto 198 dX8_single_194 (by decide) ?_
          refine jj_sub [1, 2] rfl ?_
          exact t_mdf_single_B198 d h_mdf_single h_mdf_any  hF  h
      · replace h := (if_neg c5).symm.trans h
        refine jj_iload_n dX8_single_185 0 rfl ?_
        refine jj_goto 198 dX8_single_186 (by decide) ?_
        refine jj_sub [1, 2] rfl ?_
        exact t_mdf_single_B198 d h_mdf_single h_mdf_any  hF  h
    · replace h := (if_pos c3).symm.trans h
      refine jj_aload_n dX8_single_167 0 rfl ?_
      obtain ⟨q7, e7, h⟩ := jj_be h
      refine jj_callVi [] [] (h_mdf_single  e7) jm_mdf_single lk_8_164 (b := 60) rfl (by decide) (jj_E8 rfl) rfl rfl rfl (by omega) rfl (Nat.le_of_ble_eq_true rfl) dX8_single_168 ?_
      refine jj_goto 178 dX8_single_171 (by decide) ?_
      refine jj_istore_n [(2, .int q7.1), (0, .ref (jj_ad g 60)), (1, .int x1)] dX8_single_178 (by decide) rfl ?_
      refine jj_iload_n dX8_single_179 2 rfl ?_
      refine jj_bipush (33) dX8_single_180 rfl ?_
      refine jj_icmp_eq 189 dX8_single_182 (by decide) (fun c8 => ?_) (fun c8 => ?_)
      · replace h := (if_pos c8).symm.trans h
        refine jj_iload_n dX8_single_189 0 rfl ?_
        refine jj_if_ne 197 dX8_single_190 (by decide) (fun c9 => ?_) (fun c9 => ?_)
        · replace h := (if_neg c9).symm.trans h
          refine jj_iconst (0) dX8_single_197 rfl ?_
          refine jj_sub [1, 2] rfl ?_
          exact t_mdf_single_B198 d h_mdf_single h_mdf_any  hF  h
        · replace h := (if_pos c9).symm.trans h
          refine jj_iconst (1) dX8_single_193 rfl ?_
          refine jj_goto 198 dX8_single_194 (by decide) ?_
          refine jj_sub [1, 2] rfl ?_
          exact t_mdf_single_B198 d h_mdf_single h_mdf_any  hF  h
      · replace h := (if_neg c8).symm.trans h
        refine jj_iload_n dX8_single_185 0 rfl ?_
        refine jj_goto 198 dX8_single_186 (by decide) ?_
        refine jj_sub [1, 2] rfl ?_
        exact t_mdf_single_B198 d h_mdf_single h_mdf_any  hF  h
def mdf_single (N : Nat) (f_mdf_single : jj_M → Option (Int32 × jj_M)) (f_mdf_any : jj_M → Option (Int32 × jj_M))  (μ : jj_M) : Option (Int32 × jj_M) := (mdf_here μ).bind fun q1 => if (mdf_isDigit q1) = 0 then if (mdf_name q1 μ) ≤ 0 then if q1 = 33 then mdf_single_B133 N f_mdf_single f_mdf_any q1 0 μ else if q1 = 40 then mdf_single_B133 N f_mdf_single f_mdf_any q1 0 μ else some ((0, jj_u μ 60 13 1)) else if (mdf_name q1 (jj_u μ 60 7 ((μ 60 7) + 1))) = 1 then some (((jj_u μ 60 7 ((μ 60 7) + 1)) 60 10, jj_u μ 60 7 ((μ 60 7) + 1))) else if (mdf_name q1 (jj_u μ 60 7 ((μ 60 7) + 1))) = 2 then some (((jj_u μ 60 7 ((μ 60 7) + 1)) 60 11, jj_u μ 60 7 ((μ 60 7) + 1))) else some (((jj_u μ 60 7 ((μ 60 7) + 1)) 60 12, jj_u μ 60 7 ((μ 60 7) + 1))) else mdf_single_L16 N f_mdf_single f_mdf_any N 0 0 μ
set_option maxRecDepth 100000 in
theorem c_mdf_single {g : jj_G} (d : Nat) {N : Nat} {f_mdf_single : jj_M → Option (Int32 × jj_M)} {f_mdf_any : jj_M → Option (Int32 × jj_M)}  {μ : jj_M} {r : Int32} {μ' : jj_M} (h_mdf_single : ∀  {μ : jj_M} {r : Int32} {μ' : jj_M} , f_mdf_single μ = some (r, μ') → jj_N g yX8_single cX8_single 4 (some .int) (d + 1) [.ref (jj_ad g 60)] μ (some (.int r)) μ') (h_mdf_any : ∀  {μ : jj_M} {r : Int32} {μ' : jj_M} , f_mdf_any μ = some (r, μ') → jj_N g yX8_any cX8_any 3 (some .int) (d + 1) [.ref (jj_ad g 60)] μ (some (.int r)) μ')  (h : mdf_single N f_mdf_single f_mdf_any μ = some (r, μ')) : jj_N g yX8_single cX8_single 4 (some .int) (d + 2) [.ref (jj_ad g 60)] μ (some (.int r)) μ' := by
  refine jj_N_of jn_8 (Nat.le_of_ble_eq_true rfl) (fun X hF => ?_)
  unfold mdf_single at h
  refine jj_sub (own := RX8) (lv2 := [(0, .ref (jj_ad g 60))]) [0] rfl ?_
  refine jj_aload_n dX8_single_0 0 rfl ?_
  obtain ⟨q1, e1, h⟩ := jj_be h
  refine jj_callVi [] [] (c_mdf_here (d + 1)  e1) jm_mdf_here lk_8_135 (b := 60) rfl (by decide) (jj_E8 rfl) rfl rfl rfl (by omega) rfl (Nat.le_of_ble_eq_true rfl) dX8_single_1 ?_
  refine jj_istore_n [(1, .int q1), (0, .ref (jj_ad g 60))] dX8_single_4 (by decide) rfl ?_
  refine jj_iconst (0) dX8_single_5 rfl ?_
  refine jj_istore_n [(2, .int 0), (1, .int q1), (0, .ref (jj_ad g 60))] dX8_single_6 (by decide) rfl ?_
  refine jj_iload_n dX8_single_7 1 rfl ?_
  refine jj_callSi [.int q1] [] (c_mdf_isDigit (d + 0)  rfl) jm_mdf_isDigit lk_8_146 rfl (by omega) rfl (Nat.le_of_ble_eq_true rfl) dX8_single_8 ?_
  refine jj_if_eq 63 dX8_single_11 (by decide) (fun c2 => ?_) (fun c2 => ?_)
  · replace h := (if_pos c2).symm.trans h
    refine jj_aload_n dX8_single_63 2 rfl ?_
    refine jj_iload_n dX8_single_64 1 rfl ?_
    refine jj_callVi [.int q1] [] (c_mdf_name (d + 1)  rfl) jm_mdf_name lk_8_149 (b := 60) rfl (by decide) (jj_E8 rfl) rfl rfl rfl (by omega) rfl (Nat.le_of_ble_eq_true rfl) dX8_single_65 ?_
    refine jj_if_le 121 dX8_single_68 (by decide) (fun c3 => ?_) (fun c3 => ?_)
    · replace h := (if_pos c3).symm.trans h
      refine jj_iload_n dX8_single_121 1 rfl ?_
      refine jj_bipush (33) dX8_single_122 rfl ?_
      refine jj_icmp_eq 133 dX8_single_124 (by decide) (fun c4 => ?_) (fun c4 => ?_)
      · replace h := (if_pos c4).symm.trans h
        refine jj_sub [2, 1, 0] rfl ?_
        exact t_mdf_single_B133 d h_mdf_single h_mdf_any  hF  h
      · replace h := (if_neg c4).symm.trans h
        refine jj_iload_n dX8_single_127 1 rfl ?_
        refine jj_bipush (40) dX8_single_128 rfl ?_
        refine jj_icmp_ne 245 dX8_single_130 (by decide) (fun c5 => ?_) (fun c5 => ?_)
        · replace h := (if_neg c5).symm.trans h
          refine jj_aload_n dX8_single_245 2 rfl ?_
          refine jj_iconst (1) dX8_single_246 rfl ?_
          refine jp_8_13 (k := 60) rfl (Or.inr rfl) lk_8_128 dX8_single_247 ?_
          refine jj_iload_n dX8_single_250 0 rfl ?_
          exact jj_iret2 hF dX8_single_251 (Option.some.inj h)
        · replace h := (if_pos c5).symm.trans h
          refine jj_sub [2, 1, 0] rfl ?_
          exact t_mdf_single_B133 d h_mdf_single h_mdf_any  hF  h
    · replace h := (if_neg c3).symm.trans h
      refine jj_aload_n dX8_single_71 2 rfl ?_
      refine jj_dup dX8_single_72 rfl ?_
      refine jg_8_7 (k := 60) rfl lk_8_121 dX8_single_73 ?_
      refine jj_iconst (1) dX8_single_76 rfl ?_
      refine jj_iadd dX8_single_77 ?_
      refine jp_8_7 (k := 60) rfl lk_8_121 dX8_single_78 ?_
      refine jj_aload_n dX8_single_81 2 rfl ?_
      refine jj_iload_n dX8_single_82 1 rfl ?_
      refine jj_callVi [.int q1] [] (c_mdf_name (d + 1)  rfl) jm_mdf_name lk_8_149 (b := 60) rfl (by decide) (jj_E8 rfl) rfl rfl rfl (by omega) rfl (Nat.le_of_ble_eq_true rfl) dX8_single_83 ?_
      refine jj_iconst (1) dX8_single_86 rfl ?_
      refine jj_icmp_ne 97 dX8_single_87 (by decide) (fun c6 => ?_) (fun c6 => ?_)
      · replace h := (if_neg c6).symm.trans h
        refine jj_aload_n dX8_single_97 2 rfl ?_
        refine jj_iload_n dX8_single_98 1 rfl ?_
        refine jj_callVi [.int q1] [] (c_mdf_name (d + 1)  rfl) jm_mdf_name lk_8_149 (b := 60) rfl (by decide) (jj_E8 rfl) rfl rfl rfl (by omega) rfl (Nat.le_of_ble_eq_true rfl) dX8_single_99 ?_
        refine jj_iconst (2) dX8_single_102 rfl ?_
        refine jj_icmp_ne 113 dX8_single_103 (by decide) (fun c7 => ?_) (fun c7 => ?_)
        · replace h := (if_neg c7).symm.trans h
          refine jj_aload_n dX8_single_113 2 rfl ?_
          refine jg_8_12 (k := 60) rfl lk_8_158 dX8_single_114 ?_
          refine jj_istore_n [(2, .int ((jj_u μ 60 7 ((μ 60 7) + 1)) 60 12)), (1, .int q1), (0, .ref (jj_ad g 60))] dX8_single_117 (by decide) rfl ?_
          refine jj_goto 250 dX8_single_118 (by decide) ?_
          refine jj_iload_n dX8_single_250 0 rfl ?_
          exact jj_iret2 hF dX8_single_251 (Option.some.inj h)
        · replace h := (if_pos c7).symm.trans h
          refine jj_aload_n dX8_single_106 2 rfl ?_
          refine jg_8_11 (k := 60) rfl lk_8_155 dX8_single_107 ?_
          refine jj_goto 117 dX8_single_110 (by decide) ?_
          refine jj_istore_n [(2, .int ((jj_u μ 60 7 ((μ 60 7) + 1)) 60 11)), (1, .int q1), (0, .ref (jj_ad g 60))] dX8_single_117 (by decide) rfl ?_
          refine jj_goto 250 dX8_single_118 (by decide) ?_
          refine jj_iload_n dX8_single_250 0 rfl ?_
          exact jj_iret2 hF dX8_single_251 (Option.some.inj h)
      · replace h := (if_pos c6).symm.trans h
        refine jj_aload_n dX8_single_90 2 rfl ?_
        refine jg_8_10 (k := 60) rfl lk_8_152 dX8_single_91 ?_
        refine jj_goto 117 dX8_single_94 (by decide) ?_
        refine jj_istore_n [(2, .int ((jj_u μ 60 7 ((μ 60 7) + 1)) 60 10)), (1, .int q1), (0, .ref (jj_ad g 60))] dX8_single_117 (by decide) rfl ?_
        refine jj_goto 250 dX8_single_118 (by decide) ?_
        refine jj_iload_n dX8_single_250 0 rfl ?_
        exact jj_iret2 hF dX8_single_251 (Option.some.inj h)
  · replace h := (if_neg c2).symm.trans h
    refine jj_iconst (0) dX8_single_14 rfl ?_
    refine jj_istore_n [(3, .int 0), (2, .int 0), (1, .int q1), (0, .ref (jj_ad g 60))] dX8_single_15 (by decide) rfl ?_
    refine jj_sub [3, 1, 0] rfl ?_
    exact t_mdf_single_L16 d h_mdf_single h_mdf_any  hF  _ _ _ _ h
def mdf_product_B28 (N : Nat) (f_mdf_single : jj_M → Option (Int32 × jj_M)) (k10 : Int32 → Int32 → jj_M → Option (Int32 × jj_M)) (x1 : Int32) (x2 : Int32) (μ : jj_M) : Option (Int32 × jj_M) := (f_mdf_single (jj_u μ 60 7 ((μ 60 7) + 1))).bind fun q1 => if x2 = 42 then (mdf_here q1.2).bind fun q10 => k10 (x1 * q1.1) q10 q1.2 else if q1.1 = 0 then (mdf_here q1.2).bind fun q9 => k10 0 q9 q1.2 else if x2 = 47 then if ¬ q1.1 = 0 then (mdf_here q1.2).bind fun q8 => k10 (x1 / q1.1) q8 q1.2 else none else if ¬ q1.1 = 0 then (mdf_here q1.2).bind fun q6 => k10 (x1 - x1 / q1.1 * q1.1) q6 q1.2 else none
set_option maxRecDepth 100000 in
theorem t_mdf_product_B28 {g : jj_G} (d : Nat) {N : Nat} {f_mdf_single : jj_M → Option (Int32 × jj_M)} {k10 : Int32 → Int32 → jj_M → Option (Int32 × jj_M)} {x1 : Int32} {x2 : Int32} {μ : jj_M}  {r : Int32} {μ' : jj_M} {X : jj_X} (h_mdf_single : ∀  {μ : jj_M} {r : Int32} {μ' : jj_M} , f_mdf_single μ = some (r, μ') → jj_N g yX8_single cX8_single 4 (some .int) (d + 1) [.ref (jj_ad g 60)] μ (some (.int r)) μ')  (hF : jj_F g (some .int) (some (.int r)) μ' X) (hk10 : ∀ (x1 : Int32) (x2 : Int32) (μ : jj_M), k10 x1 x2 μ = some (r, μ') → jj_V g X RX8 cX8_product 4 (d + 2) 10 [(0, .ref (jj_ad g 60)), (1, .int x1), (2, .int x2)] [] μ) (h : mdf_product_B28 N f_mdf_single k10 x1 x2 μ = some (r, μ')) : jj_V g X RX8 cX8_product 4 (d + 2) 28 [(0, .ref (jj_ad g 60)), (1, .int x1), (2, .int x2)] [] μ := by
  unfold mdf_product_B28 at h
  refine jj_aload_n dX8_product_28 0 rfl ?_
  refine jj_dup dX8_product_29 rfl ?_
  refine jg_8_7 (k := 60) rfl lk_8_121 dX8_product_30 ?_
  refine jj_iconst (1) dX8_product_33 rfl ?_
  refine jj_iadd dX8_product_34 ?_
  refine jp_8_7 (k := 60) rfl lk_8_121 dX8_product_35 ?_
  refine jj_aload_n dX8_product_38 0 rfl ?_
  obtain ⟨q1, e1, h⟩ := jj_be h
  refine jj_callVi [] [] (h_mdf_single  e1) jm_mdf_single lk_8_164 (b := 60) rfl (by decide) (jj_E8 rfl) rfl rfl rfl (by omega) rfl (Nat.le_of_ble_eq_true rfl) dX8_product_39 ?_
  refine jj_istore_n [(3, .int q1.1), (0, .ref (jj_ad g 60)), (1, .int x1), (2, .int x2)] dX8_product_42 (by decide) rfl ?_
  refine jj_iload_n dX8_product_43 3 rfl ?_
  refine jj_bipush (42) dX8_product_44 rfl ?_
  refine jj_icmp_ne 55 dX8_product_46 (by decide) (fun c2 => ?_) (fun c2 => ?_)
  · replace h := (if_neg c2).symm.trans h
    refine jj_iload_n dX8_product_55 0 rfl ?_
    refine jj_if_ne 63 dX8_product_56 (by decide) (fun c3 => ?_) (fun c3 => ?_)
    · replace h := (if_neg c3).symm.trans h
      refine jj_iload_n dX8_product_63 3 rfl ?_
      refine jj_bipush (47) dX8_product_64 rfl ?_
      refine jj_icmp_ne 75 dX8_product_66 (by decide) (fun c4 => ?_) (fun c4 => ?_)
      · replace h := (if_neg c4).symm.trans h
        refine jj_iload_n dX8_product_75 2 rfl ?_
        refine jj_iload_n dX8_product_76 0 rfl ?_
        obtain ⟨g5, h⟩ := jj_ge h
        refine jj_irem dX8_product_77 g5 ?_
        refine jj_istore_n [(1, .int (x1 - x1 / q1.1 * q1.1)), (3, .int q1.1), (0, .ref (jj_ad g 60)), (2, .int x2)] dX8_product_78 (by decide) rfl ?_
        refine jj_aload_n dX8_product_79 2 rfl ?_
        obtain ⟨q6, e6, h⟩ := jj_be h
        refine jj_callVi [] [] (c_mdf_here (d + 1)  e6) jm_mdf_here lk_8_135 (b := 60) rfl (by decide) (jj_E8 rfl) rfl rfl rfl (by omega) rfl (Nat.le_of_ble_eq_true rfl) dX8_product_80 ?_
        refine jj_istore_n [(2, .int q6), (1, .int (x1 - x1 / q1.1 * q1.1)), (3, .int q1.1), (0, .ref (jj_ad g 60))] dX8_product_83 (by decide) rfl ?_
        refine jj_goto 10 dX8_product_84 (by decide) ?_
        refine jj_sub [3, 1, 0] rfl ?_
        exact hk10 _ _ _ h
      · replace h := (if_pos c4).symm.trans h
        refine jj_iload_n dX8_product_69 2 rfl ?_
        refine jj_iload_n dX8_product_70 0 rfl ?_
        obtain ⟨g7, h⟩ := jj_ge h
        refine jj_idiv dX8_product_71 g7 ?_
        refine jj_goto 78 dX8_product_72 (by decide) ?_
        refine jj_istore_n [(1, .int (x1 / q1.1)), (3, .int q1.1), (0, .ref (jj_ad g 60)), (2, .int x2)] dX8_product_78 (by decide) rfl ?_
        refine jj_aload_n dX8_product_79 2 rfl ?_
        obtain ⟨q8, e8, h⟩ := jj_be h
        refine jj_callVi [] [] (c_mdf_here (d + 1)  e8) jm_mdf_here lk_8_135 (b := 60) rfl (by decide) (jj_E8 rfl) rfl rfl rfl (by omega) rfl (Nat.le_of_ble_eq_true rfl) dX8_product_80 ?_
        refine jj_istore_n [(2, .int q8), (1, .int (x1 / q1.1)), (3, .int q1.1), (0, .ref (jj_ad g 60))] dX8_product_83 (by decide) rfl ?_
        refine jj_goto 10 dX8_product_84 (by decide) ?_
        refine jj_sub [3, 1, 0] rfl ?_
        exact hk10 _ _ _ h
    · replace h := (if_pos c3).symm.trans h
      refine jj_iconst (0) dX8_product_59 rfl ?_
      refine jj_goto 78 dX8_product_60 (by decide) ?_
      refine jj_istore_n [(1, .int 0), (3, .int q1.1), (0, .ref (jj_ad g 60)), (2, .int x2)] dX8_product_78 (by decide) rfl ?_
      refine jj_aload_n dX8_product_79 2 rfl ?_
      obtain ⟨q9, e9, h⟩ := jj_be h
      refine jj_callVi [] [] (c_mdf_here (d + 1)  e9) jm_mdf_here lk_8_135 (b := 60) rfl (by decide) (jj_E8 rfl) rfl rfl rfl (by omega) rfl (Nat.le_of_ble_eq_true rfl) dX8_product_80 ?_
      refine jj_istore_n [(2, .int q9), (1, .int 0), (3, .int q1.1), (0, .ref (jj_ad g 60))] dX8_product_83 (by decide) rfl ?_
      refine jj_goto 10 dX8_product_84 (by decide) ?_
      refine jj_sub [3, 1, 0] rfl ?_
      exact hk10 _ _ _ h
  · replace h := (if_pos c2).symm.trans h
    refine jj_iload_n dX8_product_49 2 rfl ?_
    refine jj_iload_n dX8_product_50 0 rfl ?_
    refine jj_imul dX8_product_51 ?_
    refine jj_goto 78 dX8_product_52 (by decide) ?_
    refine jj_istore_n [(1, .int (x1 * q1.1)), (3, .int q1.1), (0, .ref (jj_ad g 60)), (2, .int x2)] dX8_product_78 (by decide) rfl ?_
    refine jj_aload_n dX8_product_79 2 rfl ?_
    obtain ⟨q10, e10, h⟩ := jj_be h
    refine jj_callVi [] [] (c_mdf_here (d + 1)  e10) jm_mdf_here lk_8_135 (b := 60) rfl (by decide) (jj_E8 rfl) rfl rfl rfl (by omega) rfl (Nat.le_of_ble_eq_true rfl) dX8_product_80 ?_
    refine jj_istore_n [(2, .int q10), (1, .int (x1 * q1.1)), (3, .int q1.1), (0, .ref (jj_ad g 60))] dX8_product_83 (by decide) rfl ?_
    refine jj_goto 10 dX8_product_84 (by decide) ?_
    refine jj_sub [3, 1, 0] rfl ?_
    exact hk10 _ _ _ h
def mdf_product_L10 (N : Nat) (f_mdf_single : jj_M → Option (Int32 × jj_M))   : Nat → Int32 → Int32 → jj_M → Option (Int32 × jj_M)
  | 0, _, _, _ => none
  | n + 1, x1, x2, μ => if x2 = 42 then mdf_product_B28 N f_mdf_single (mdf_product_L10 N f_mdf_single n) x1 x2 μ else if x2 = 47 then mdf_product_B28 N f_mdf_single (mdf_product_L10 N f_mdf_single n) x1 x2 μ else if x2 = 37 then mdf_product_B28 N f_mdf_single (mdf_product_L10 N f_mdf_single n) x1 x2 μ else some ((x1, μ))
set_option maxRecDepth 100000 in
theorem t_mdf_product_L10 {g : jj_G} (d : Nat) {N : Nat} {f_mdf_single : jj_M → Option (Int32 × jj_M)}    {r : Int32} {μ' : jj_M} {X : jj_X} (h_mdf_single : ∀  {μ : jj_M} {r : Int32} {μ' : jj_M} , f_mdf_single μ = some (r, μ') → jj_N g yX8_single cX8_single 4 (some .int) (d + 1) [.ref (jj_ad g 60)] μ (some (.int r)) μ')  (hF : jj_F g (some .int) (some (.int r)) μ' X)  : ∀ (n : Nat) (x1 : Int32) (x2 : Int32) (μ : jj_M), mdf_product_L10 N f_mdf_single n x1 x2 μ = some (r, μ') → jj_V g X RX8 cX8_product 4 (d + 2) 10 [(0, .ref (jj_ad g 60)), (1, .int x1), (2, .int x2)] [] μ := by
  intro n
  induction n with
  | zero =>
    intro x1 x2 μ h
    exact (jj_no h).elim
  | succ n ih =>
    intro x1 x2 μ h
    rw [mdf_product_L10] at h
    refine jj_iload_n dX8_product_10 2 rfl ?_
    refine jj_bipush (42) dX8_product_11 rfl ?_
    refine jj_icmp_eq 28 dX8_product_13 (by decide) (fun c1 => ?_) (fun c1 => ?_)
    · replace h := (if_pos c1).symm.trans h
      refine jj_sub [0, 1, 2] rfl ?_
      exact t_mdf_product_B28 d h_mdf_single  hF ih h
    · replace h := (if_neg c1).symm.trans h
      refine jj_iload_n dX8_product_16 2 rfl ?_
      refine jj_bipush (47) dX8_product_17 rfl ?_
      refine jj_icmp_eq 28 dX8_product_19 (by decide) (fun c2 => ?_) (fun c2 => ?_)
      · replace h := (if_pos c2).symm.trans h
        refine jj_sub [0, 1, 2] rfl ?_
        exact t_mdf_product_B28 d h_mdf_single  hF ih h
      · replace h := (if_neg c2).symm.trans h
        refine jj_iload_n dX8_product_22 2 rfl ?_
        refine jj_bipush (37) dX8_product_23 rfl ?_
        refine jj_icmp_ne 87 dX8_product_25 (by decide) (fun c3 => ?_) (fun c3 => ?_)
        · replace h := (if_neg c3).symm.trans h
          refine jj_iload_n dX8_product_87 1 rfl ?_
          exact jj_iret2 hF dX8_product_88 (Option.some.inj h)
        · replace h := (if_pos c3).symm.trans h
          refine jj_sub [0, 1, 2] rfl ?_
          exact t_mdf_product_B28 d h_mdf_single  hF ih h
def mdf_product (N : Nat) (f_mdf_single : jj_M → Option (Int32 × jj_M))  (μ : jj_M) : Option (Int32 × jj_M) := (f_mdf_single μ).bind fun q1 => (mdf_here q1.2).bind fun q2 => mdf_product_L10 N f_mdf_single N q1.1 q2 q1.2
set_option maxRecDepth 100000 in
theorem c_mdf_product {g : jj_G} (d : Nat) {N : Nat} {f_mdf_single : jj_M → Option (Int32 × jj_M)}  {μ : jj_M} {r : Int32} {μ' : jj_M} (h_mdf_single : ∀  {μ : jj_M} {r : Int32} {μ' : jj_M} , f_mdf_single μ = some (r, μ') → jj_N g yX8_single cX8_single 4 (some .int) (d + 1) [.ref (jj_ad g 60)] μ (some (.int r)) μ')  (h : mdf_product N f_mdf_single μ = some (r, μ')) : jj_N g yX8_product cX8_product 4 (some .int) (d + 2) [.ref (jj_ad g 60)] μ (some (.int r)) μ' := by
  refine jj_N_of jn_8 (Nat.le_of_ble_eq_true rfl) (fun X hF => ?_)
  unfold mdf_product at h
  refine jj_sub (own := RX8) (lv2 := [(0, .ref (jj_ad g 60))]) [0] rfl ?_
  refine jj_aload_n dX8_product_0 0 rfl ?_
  obtain ⟨q1, e1, h⟩ := jj_be h
  refine jj_callVi [] [] (h_mdf_single  e1) jm_mdf_single lk_8_164 (b := 60) rfl (by decide) (jj_E8 rfl) rfl rfl rfl (by omega) rfl (Nat.le_of_ble_eq_true rfl) dX8_product_1 ?_
  refine jj_istore_n [(1, .int q1.1), (0, .ref (jj_ad g 60))] dX8_product_4 (by decide) rfl ?_
  refine jj_aload_n dX8_product_5 1 rfl ?_
  obtain ⟨q2, e2, h⟩ := jj_be h
  refine jj_callVi [] [] (c_mdf_here (d + 1)  e2) jm_mdf_here lk_8_135 (b := 60) rfl (by decide) (jj_E8 rfl) rfl rfl rfl (by omega) rfl (Nat.le_of_ble_eq_true rfl) dX8_product_6 ?_
  refine jj_istore_n [(2, .int q2), (1, .int q1.1), (0, .ref (jj_ad g 60))] dX8_product_9 (by decide) rfl ?_
  refine jj_sub [2, 1, 0] rfl ?_
  exact t_mdf_product_L10 d h_mdf_single  hF  _ _ _ _ h
def mdf_sum_B22 (N : Nat) (f_mdf_product : jj_M → Option (Int32 × jj_M)) (k10 : Int32 → Int32 → jj_M → Option (Int32 × jj_M)) (x1 : Int32) (x2 : Int32) (μ : jj_M) : Option (Int32 × jj_M) := (f_mdf_product (jj_u μ 60 7 ((μ 60 7) + 1))).bind fun q1 => if x2 = 43 then (mdf_here q1.2).bind fun q4 => k10 (x1 + q1.1) q4 q1.2 else (mdf_here q1.2).bind fun q3 => k10 (x1 - q1.1) q3 q1.2
set_option maxRecDepth 100000 in
theorem t_mdf_sum_B22 {g : jj_G} (d : Nat) {N : Nat} {f_mdf_product : jj_M → Option (Int32 × jj_M)} {k10 : Int32 → Int32 → jj_M → Option (Int32 × jj_M)} {x1 : Int32} {x2 : Int32} {μ : jj_M}  {r : Int32} {μ' : jj_M} {X : jj_X} (h_mdf_product : ∀  {μ : jj_M} {r : Int32} {μ' : jj_M} , f_mdf_product μ = some (r, μ') → jj_N g yX8_product cX8_product 4 (some .int) (d + 1) [.ref (jj_ad g 60)] μ (some (.int r)) μ')  (hF : jj_F g (some .int) (some (.int r)) μ' X) (hk10 : ∀ (x1 : Int32) (x2 : Int32) (μ : jj_M), k10 x1 x2 μ = some (r, μ') → jj_V g X RX8 cX8_sum 4 (d + 2) 10 [(0, .ref (jj_ad g 60)), (1, .int x1), (2, .int x2)] [] μ) (h : mdf_sum_B22 N f_mdf_product k10 x1 x2 μ = some (r, μ')) : jj_V g X RX8 cX8_sum 4 (d + 2) 22 [(0, .ref (jj_ad g 60)), (1, .int x1), (2, .int x2)] [] μ := by
  unfold mdf_sum_B22 at h
  refine jj_aload_n dX8_sum_22 0 rfl ?_
  refine jj_dup dX8_sum_23 rfl ?_
  refine jg_8_7 (k := 60) rfl lk_8_121 dX8_sum_24 ?_
  refine jj_iconst (1) dX8_sum_27 rfl ?_
  refine jj_iadd dX8_sum_28 ?_
  refine jp_8_7 (k := 60) rfl lk_8_121 dX8_sum_29 ?_
  refine jj_aload_n dX8_sum_32 0 rfl ?_
  obtain ⟨q1, e1, h⟩ := jj_be h
  refine jj_callVi [] [] (h_mdf_product  e1) jm_mdf_product lk_8_173 (b := 60) rfl (by decide) (jj_E8 rfl) rfl rfl rfl (by omega) rfl (Nat.le_of_ble_eq_true rfl) dX8_sum_33 ?_
  refine jj_istore_n [(3, .int q1.1), (0, .ref (jj_ad g 60)), (1, .int x1), (2, .int x2)] dX8_sum_36 (by decide) rfl ?_
  refine jj_iload_n dX8_sum_37 3 rfl ?_
  refine jj_bipush (43) dX8_sum_38 rfl ?_
  refine jj_icmp_ne 49 dX8_sum_40 (by decide) (fun c2 => ?_) (fun c2 => ?_)
  · replace h := (if_neg c2).symm.trans h
    refine jj_iload_n dX8_sum_49 2 rfl ?_
    refine jj_iload_n dX8_sum_50 0 rfl ?_
    refine jj_isub dX8_sum_51 ?_
    refine jj_istore_n [(1, .int (x1 - q1.1)), (3, .int q1.1), (0, .ref (jj_ad g 60)), (2, .int x2)] dX8_sum_52 (by decide) rfl ?_
    refine jj_aload_n dX8_sum_53 2 rfl ?_
    obtain ⟨q3, e3, h⟩ := jj_be h
    refine jj_callVi [] [] (c_mdf_here (d + 1)  e3) jm_mdf_here lk_8_135 (b := 60) rfl (by decide) (jj_E8 rfl) rfl rfl rfl (by omega) rfl (Nat.le_of_ble_eq_true rfl) dX8_sum_54 ?_
    refine jj_istore_n [(2, .int q3), (1, .int (x1 - q1.1)), (3, .int q1.1), (0, .ref (jj_ad g 60))] dX8_sum_57 (by decide) rfl ?_
    refine jj_goto 10 dX8_sum_58 (by decide) ?_
    refine jj_sub [3, 1, 0] rfl ?_
    exact hk10 _ _ _ h
  · replace h := (if_pos c2).symm.trans h
    refine jj_iload_n dX8_sum_43 2 rfl ?_
    refine jj_iload_n dX8_sum_44 0 rfl ?_
    refine jj_iadd dX8_sum_45 ?_
    refine jj_goto 52 dX8_sum_46 (by decide) ?_
    refine jj_istore_n [(1, .int (x1 + q1.1)), (3, .int q1.1), (0, .ref (jj_ad g 60)), (2, .int x2)] dX8_sum_52 (by decide) rfl ?_
    refine jj_aload_n dX8_sum_53 2 rfl ?_
    obtain ⟨q4, e4, h⟩ := jj_be h
    refine jj_callVi [] [] (c_mdf_here (d + 1)  e4) jm_mdf_here lk_8_135 (b := 60) rfl (by decide) (jj_E8 rfl) rfl rfl rfl (by omega) rfl (Nat.le_of_ble_eq_true rfl) dX8_sum_54 ?_
    refine jj_istore_n [(2, .int q4), (1, .int (x1 + q1.1)), (3, .int q1.1), (0, .ref (jj_ad g 60))] dX8_sum_57 (by decide) rfl ?_
    refine jj_goto 10 dX8_sum_58 (by decide) ?_
    refine jj_sub [3, 1, 0] rfl ?_
    exact hk10 _ _ _ h
def mdf_sum_L10 (N : Nat) (f_mdf_product : jj_M → Option (Int32 × jj_M))   : Nat → Int32 → Int32 → jj_M → Option (Int32 × jj_M)
  | 0, _, _, _ => none
  | n + 1, x1, x2, μ => if x2 = 43 then mdf_sum_B22 N f_mdf_product (mdf_sum_L10 N f_mdf_product n) x1 x2 μ else if x2 = 45 then mdf_sum_B22 N f_mdf_product (mdf_sum_L10 N f_mdf_product n) x1 x2 μ else some ((x1, μ))
set_option maxRecDepth 100000 in
theorem t_mdf_sum_L10 {g : jj_G} (d : Nat) {N : Nat} {f_mdf_product : jj_M → Option (Int32 × jj_M)}    {r : Int32} {μ' : jj_M} {X : jj_X} (h_mdf_product : ∀  {μ : jj_M} {r : Int32} {μ' : jj_M} , f_mdf_product μ = some (r, μ') → jj_N g yX8_product cX8_product 4 (some .int) (d + 1) [.ref (jj_ad g 60)] μ (some (.int r)) μ')  (hF : jj_F g (some .int) (some (.int r)) μ' X)  : ∀ (n : Nat) (x1 : Int32) (x2 : Int32) (μ : jj_M), mdf_sum_L10 N f_mdf_product n x1 x2 μ = some (r, μ') → jj_V g X RX8 cX8_sum 4 (d + 2) 10 [(0, .ref (jj_ad g 60)), (1, .int x1), (2, .int x2)] [] μ := by
  intro n
  induction n with
  | zero =>
    intro x1 x2 μ h
    exact (jj_no h).elim
  | succ n ih =>
    intro x1 x2 μ h
    rw [mdf_sum_L10] at h
    refine jj_iload_n dX8_sum_10 2 rfl ?_
    refine jj_bipush (43) dX8_sum_11 rfl ?_
    refine jj_icmp_eq 22 dX8_sum_13 (by decide) (fun c1 => ?_) (fun c1 => ?_)
    · replace h := (if_pos c1).symm.trans h
      refine jj_sub [0, 1, 2] rfl ?_
      exact t_mdf_sum_B22 d h_mdf_product  hF ih h
    · replace h := (if_neg c1).symm.trans h
      refine jj_iload_n dX8_sum_16 2 rfl ?_
      refine jj_bipush (45) dX8_sum_17 rfl ?_
      refine jj_icmp_ne 61 dX8_sum_19 (by decide) (fun c2 => ?_) (fun c2 => ?_)
      · replace h := (if_neg c2).symm.trans h
        refine jj_iload_n dX8_sum_61 1 rfl ?_
        exact jj_iret2 hF dX8_sum_62 (Option.some.inj h)
      · replace h := (if_pos c2).symm.trans h
        refine jj_sub [0, 1, 2] rfl ?_
        exact t_mdf_sum_B22 d h_mdf_product  hF ih h
def mdf_sum (N : Nat) (f_mdf_product : jj_M → Option (Int32 × jj_M))  (μ : jj_M) : Option (Int32 × jj_M) := (f_mdf_product μ).bind fun q1 => (mdf_here q1.2).bind fun q2 => mdf_sum_L10 N f_mdf_product N q1.1 q2 q1.2
set_option maxRecDepth 100000 in
theorem c_mdf_sum {g : jj_G} (d : Nat) {N : Nat} {f_mdf_product : jj_M → Option (Int32 × jj_M)}  {μ : jj_M} {r : Int32} {μ' : jj_M} (h_mdf_product : ∀  {μ : jj_M} {r : Int32} {μ' : jj_M} , f_mdf_product μ = some (r, μ') → jj_N g yX8_product cX8_product 4 (some .int) (d + 1) [.ref (jj_ad g 60)] μ (some (.int r)) μ')  (h : mdf_sum N f_mdf_product μ = some (r, μ')) : jj_N g yX8_sum cX8_sum 4 (some .int) (d + 2) [.ref (jj_ad g 60)] μ (some (.int r)) μ' := by
  refine jj_N_of jn_8 (Nat.le_of_ble_eq_true rfl) (fun X hF => ?_)
  unfold mdf_sum at h
  refine jj_sub (own := RX8) (lv2 := [(0, .ref (jj_ad g 60))]) [0] rfl ?_
  refine jj_aload_n dX8_sum_0 0 rfl ?_
  obtain ⟨q1, e1, h⟩ := jj_be h
  refine jj_callVi [] [] (h_mdf_product  e1) jm_mdf_product lk_8_173 (b := 60) rfl (by decide) (jj_E8 rfl) rfl rfl rfl (by omega) rfl (Nat.le_of_ble_eq_true rfl) dX8_sum_1 ?_
  refine jj_istore_n [(1, .int q1.1), (0, .ref (jj_ad g 60))] dX8_sum_4 (by decide) rfl ?_
  refine jj_aload_n dX8_sum_5 1 rfl ?_
  obtain ⟨q2, e2, h⟩ := jj_be h
  refine jj_callVi [] [] (c_mdf_here (d + 1)  e2) jm_mdf_here lk_8_135 (b := 60) rfl (by decide) (jj_E8 rfl) rfl rfl rfl (by omega) rfl (Nat.le_of_ble_eq_true rfl) dX8_sum_6 ?_
  refine jj_istore_n [(2, .int q2), (1, .int q1.1), (0, .ref (jj_ad g 60))] dX8_sum_9 (by decide) rfl ?_
  refine jj_sub [2, 1, 0] rfl ?_
  exact t_mdf_sum_L10 d h_mdf_product  hF  _ _ _ _ h
def mdf_test_B30 (N : Nat) (f_mdf_sum : jj_M → Option (Int32 × jj_M))  (x1 : Int32) (x2 : Int32) (μ : jj_M) : Option (Int32 × jj_M) := (f_mdf_sum (jj_u μ 60 7 ((μ 60 7) + 1))).bind fun q1 => if x2 = 60 then if q1.1 ≤ x1 then some ((0, q1.2)) else some ((1, q1.2)) else if x2 = 61 then if x1 = q1.1 then some ((1, q1.2)) else some ((0, q1.2)) else if x1 ≤ q1.1 then some ((0, q1.2)) else some ((1, q1.2))
set_option maxRecDepth 100000 in
theorem t_mdf_test_B30 {g : jj_G} (d : Nat) {N : Nat} {f_mdf_sum : jj_M → Option (Int32 × jj_M)}  {x1 : Int32} {x2 : Int32} {μ : jj_M}  {r : Int32} {μ' : jj_M} {X : jj_X} (h_mdf_sum : ∀  {μ : jj_M} {r : Int32} {μ' : jj_M} , f_mdf_sum μ = some (r, μ') → jj_N g yX8_sum cX8_sum 4 (some .int) (d + 1) [.ref (jj_ad g 60)] μ (some (.int r)) μ')  (hF : jj_F g (some .int) (some (.int r)) μ' X)  (h : mdf_test_B30 N f_mdf_sum x1 x2 μ = some (r, μ')) : jj_V g X RX8 cX8_test 5 (d + 2) 30 [(0, .ref (jj_ad g 60)), (1, .int x1), (2, .int x2)] [] μ := by
  unfold mdf_test_B30 at h
  refine jj_aload_n dX8_test_30 0 rfl ?_
  refine jj_dup dX8_test_31 rfl ?_
  refine jg_8_7 (k := 60) rfl lk_8_121 dX8_test_32 ?_
  refine jj_iconst (1) dX8_test_35 rfl ?_
  refine jj_iadd dX8_test_36 ?_
  refine jp_8_7 (k := 60) rfl lk_8_121 dX8_test_37 ?_
  refine jj_aload_n dX8_test_40 0 rfl ?_
  obtain ⟨q1, e1, h⟩ := jj_be h
  refine jj_callVi [] [] (h_mdf_sum  e1) jm_mdf_sum lk_8_176 (b := 60) rfl (by decide) (jj_E8 rfl) rfl rfl rfl (by omega) rfl (Nat.le_of_ble_eq_true rfl) dX8_test_41 ?_
  refine jj_istore_n [(3, .int q1.1), (0, .ref (jj_ad g 60)), (1, .int x1), (2, .int x2)] dX8_test_44 (by decide) rfl ?_
  refine jj_iload_n dX8_test_45 3 rfl ?_
  refine jj_bipush (60) dX8_test_46 rfl ?_
  refine jj_icmp_ne 64 dX8_test_48 (by decide) (fun c2 => ?_) (fun c2 => ?_)
  · replace h := (if_neg c2).symm.trans h
    refine jj_iload_n dX8_test_64 3 rfl ?_
    refine jj_bipush (61) dX8_test_65 rfl ?_
    refine jj_icmp_ne 83 dX8_test_67 (by decide) (fun c3 => ?_) (fun c3 => ?_)
    · replace h := (if_neg c3).symm.trans h
      refine jj_iload_n dX8_test_83 2 rfl ?_
      refine jj_iload_n dX8_test_84 0 rfl ?_
      refine jj_icmp_le 92 dX8_test_85 (by decide) (fun c4 => ?_) (fun c4 => ?_)
      · replace h := (if_pos c4).symm.trans h
        refine jj_iconst (0) dX8_test_92 rfl ?_
        refine jj_istore [(4, .int 0), (3, .int q1.1), (0, .ref (jj_ad g 60)), (1, .int x1), (2, .int x2)] dX8_test_93 (by decide) rfl ?_
        refine jj_iload dX8_test_95 0 rfl ?_
        refine jj_if_eq 104 dX8_test_97 (by decide) (fun _ => ?_) (fun w => absurd w (by decide))
        refine jj_iconst (0) dX8_test_104 rfl ?_
        exact jj_iret2 hF dX8_test_105 (Option.some.inj h)
      · replace h := (if_neg c4).symm.trans h
        refine jj_iconst (1) dX8_test_88 rfl ?_
        refine jj_goto 93 dX8_test_89 (by decide) ?_
        refine jj_istore [(4, .int 1), (3, .int q1.1), (0, .ref (jj_ad g 60)), (1, .int x1), (2, .int x2)] dX8_test_93 (by decide) rfl ?_
        refine jj_iload dX8_test_95 0 rfl ?_
        refine jj_if_eq 104 dX8_test_97 (by decide) (fun w => absurd w (by decide)) (fun _ => ?_)
        refine jj_iconst (1) dX8_test_100 rfl ?_
        refine jj_goto 105 dX8_test_101 (by decide) ?_
        exact jj_iret2 hF dX8_test_105 (Option.some.inj h)
    · replace h := (if_pos c3).symm.trans h
      refine jj_iload_n dX8_test_70 2 rfl ?_
      refine jj_iload_n dX8_test_71 0 rfl ?_
      refine jj_icmp_ne 79 dX8_test_72 (by decide) (fun c5 => ?_) (fun c5 => ?_)
      · replace h := (if_neg c5).symm.trans h
        refine jj_iconst (0) dX8_test_79 rfl ?_
        refine jj_goto 93 dX8_test_80 (by decide) ?_
        refine jj_istore [(4, .int 0), (3, .int q1.1), (0, .ref (jj_ad g 60)), (1, .int x1), (2, .int x2)] dX8_test_93 (by decide) rfl ?_
        refine jj_iload dX8_test_95 0 rfl ?_
        refine jj_if_eq 104 dX8_test_97 (by decide) (fun _ => ?_) (fun w => absurd w (by decide))
        refine jj_iconst (0) dX8_test_104 rfl ?_
        exact jj_iret2 hF dX8_test_105 (Option.some.inj h)
      · replace h := (if_pos c5).symm.trans h
        refine jj_iconst (1) dX8_test_75 rfl ?_
        refine jj_goto 93 dX8_test_76 (by decide) ?_
        refine jj_istore [(4, .int 1), (3, .int q1.1), (0, .ref (jj_ad g 60)), (1, .int x1), (2, .int x2)] dX8_test_93 (by decide) rfl ?_
        refine jj_iload dX8_test_95 0 rfl ?_
        refine jj_if_eq 104 dX8_test_97 (by decide) (fun w => absurd w (by decide)) (fun _ => ?_)
        refine jj_iconst (1) dX8_test_100 rfl ?_
        refine jj_goto 105 dX8_test_101 (by decide) ?_
        exact jj_iret2 hF dX8_test_105 (Option.some.inj h)
  · replace h := (if_pos c2).symm.trans h
    refine jj_iload_n dX8_test_51 2 rfl ?_
    refine jj_iload_n dX8_test_52 0 rfl ?_
    refine jj_icmp_ge 60 dX8_test_53 (by decide) (fun c6 => ?_) (fun c6 => ?_)
    · replace h := (if_pos c6).symm.trans h
      refine jj_iconst (0) dX8_test_60 rfl ?_
      refine jj_goto 93 dX8_test_61 (by decide) ?_
      refine jj_istore [(4, .int 0), (3, .int q1.1), (0, .ref (jj_ad g 60)), (1, .int x1), (2, .int x2)] dX8_test_93 (by decide) rfl ?_
      refine jj_iload dX8_test_95 0 rfl ?_
      refine jj_if_eq 104 dX8_test_97 (by decide) (fun _ => ?_) (fun w => absurd w (by decide))
      refine jj_iconst (0) dX8_test_104 rfl ?_
      exact jj_iret2 hF dX8_test_105 (Option.some.inj h)
    · replace h := (if_neg c6).symm.trans h
      refine jj_iconst (1) dX8_test_56 rfl ?_
      refine jj_goto 93 dX8_test_57 (by decide) ?_
      refine jj_istore [(4, .int 1), (3, .int q1.1), (0, .ref (jj_ad g 60)), (1, .int x1), (2, .int x2)] dX8_test_93 (by decide) rfl ?_
      refine jj_iload dX8_test_95 0 rfl ?_
      refine jj_if_eq 104 dX8_test_97 (by decide) (fun w => absurd w (by decide)) (fun _ => ?_)
      refine jj_iconst (1) dX8_test_100 rfl ?_
      refine jj_goto 105 dX8_test_101 (by decide) ?_
      exact jj_iret2 hF dX8_test_105 (Option.some.inj h)
def mdf_test (N : Nat) (f_mdf_sum : jj_M → Option (Int32 × jj_M))  (μ : jj_M) : Option (Int32 × jj_M) := (f_mdf_sum μ).bind fun q1 => (mdf_here q1.2).bind fun q2 => if q2 = 60 then mdf_test_B30 N f_mdf_sum q1.1 q2 q1.2 else if q2 = 61 then mdf_test_B30 N f_mdf_sum q1.1 q2 q1.2 else if q2 = 62 then mdf_test_B30 N f_mdf_sum q1.1 q2 q1.2 else some ((q1.1, q1.2))
set_option maxRecDepth 100000 in
theorem c_mdf_test {g : jj_G} (d : Nat) {N : Nat} {f_mdf_sum : jj_M → Option (Int32 × jj_M)}  {μ : jj_M} {r : Int32} {μ' : jj_M} (h_mdf_sum : ∀  {μ : jj_M} {r : Int32} {μ' : jj_M} , f_mdf_sum μ = some (r, μ') → jj_N g yX8_sum cX8_sum 4 (some .int) (d + 1) [.ref (jj_ad g 60)] μ (some (.int r)) μ')  (h : mdf_test N f_mdf_sum μ = some (r, μ')) : jj_N g yX8_test cX8_test 5 (some .int) (d + 2) [.ref (jj_ad g 60)] μ (some (.int r)) μ' := by
  refine jj_N_of jn_8 (Nat.le_of_ble_eq_true rfl) (fun X hF => ?_)
  unfold mdf_test at h
  refine jj_sub (own := RX8) (lv2 := [(0, .ref (jj_ad g 60))]) [0] rfl ?_
  refine jj_aload_n dX8_test_0 0 rfl ?_
  obtain ⟨q1, e1, h⟩ := jj_be h
  refine jj_callVi [] [] (h_mdf_sum  e1) jm_mdf_sum lk_8_176 (b := 60) rfl (by decide) (jj_E8 rfl) rfl rfl rfl (by omega) rfl (Nat.le_of_ble_eq_true rfl) dX8_test_1 ?_
  refine jj_istore_n [(1, .int q1.1), (0, .ref (jj_ad g 60))] dX8_test_4 (by decide) rfl ?_
  refine jj_aload_n dX8_test_5 1 rfl ?_
  obtain ⟨q2, e2, h⟩ := jj_be h
  refine jj_callVi [] [] (c_mdf_here (d + 1)  e2) jm_mdf_here lk_8_135 (b := 60) rfl (by decide) (jj_E8 rfl) rfl rfl rfl (by omega) rfl (Nat.le_of_ble_eq_true rfl) dX8_test_6 ?_
  refine jj_istore_n [(2, .int q2), (1, .int q1.1), (0, .ref (jj_ad g 60))] dX8_test_9 (by decide) rfl ?_
  refine jj_iload_n dX8_test_10 0 rfl ?_
  refine jj_bipush (60) dX8_test_11 rfl ?_
  refine jj_icmp_eq 30 dX8_test_13 (by decide) (fun c3 => ?_) (fun c3 => ?_)
  · replace h := (if_pos c3).symm.trans h
    refine jj_sub [2, 1, 0] rfl ?_
    exact t_mdf_test_B30 d h_mdf_sum  hF  h
  · replace h := (if_neg c3).symm.trans h
    refine jj_iload_n dX8_test_16 0 rfl ?_
    refine jj_bipush (61) dX8_test_17 rfl ?_
    refine jj_icmp_eq 30 dX8_test_19 (by decide) (fun c4 => ?_) (fun c4 => ?_)
    · replace h := (if_pos c4).symm.trans h
      refine jj_sub [2, 1, 0] rfl ?_
      exact t_mdf_test_B30 d h_mdf_sum  hF  h
    · replace h := (if_neg c4).symm.trans h
      refine jj_iload_n dX8_test_22 0 rfl ?_
      refine jj_bipush (62) dX8_test_23 rfl ?_
      refine jj_icmp_eq 30 dX8_test_25 (by decide) (fun c5 => ?_) (fun c5 => ?_)
      · replace h := (if_pos c5).symm.trans h
        refine jj_sub [2, 1, 0] rfl ?_
        exact t_mdf_test_B30 d h_mdf_sum  hF  h
      · replace h := (if_neg c5).symm.trans h
        refine jj_iload_n dX8_test_28 1 rfl ?_
        exact jj_iret2 hF dX8_test_29 (Option.some.inj h)
def mdf_both_L5 (N : Nat) (f_mdf_test : jj_M → Option (Int32 × jj_M))   : Nat → Int32 → jj_M → Option (Int32 × jj_M)
  | 0, _, _ => none
  | n + 1, x1, μ => (mdf_takes 38 μ).bind fun q1 => if q1.1 = 0 then some ((x1, q1.2)) else (f_mdf_test q1.2).bind fun q3 => if x1 = 0 then mdf_both_L5 N f_mdf_test n 0 q3.2 else if q3.1 = 0 then mdf_both_L5 N f_mdf_test n 0 q3.2 else mdf_both_L5 N f_mdf_test n 1 q3.2
set_option maxRecDepth 100000 in
theorem t_mdf_both_L5 {g : jj_G} (d : Nat) {N : Nat} {f_mdf_test : jj_M → Option (Int32 × jj_M)}    {r : Int32} {μ' : jj_M} {X : jj_X} (h_mdf_test : ∀  {μ : jj_M} {r : Int32} {μ' : jj_M} , f_mdf_test μ = some (r, μ') → jj_N g yX8_test cX8_test 5 (some .int) (d + 1) [.ref (jj_ad g 60)] μ (some (.int r)) μ')  (hF : jj_F g (some .int) (some (.int r)) μ' X)  : ∀ (n : Nat) (x1 : Int32) (μ : jj_M), mdf_both_L5 N f_mdf_test n x1 μ = some (r, μ') → jj_V g X RX8 cX8_both 3 (d + 2) 5 [(0, .ref (jj_ad g 60)), (1, .int x1)] [] μ := by
  intro n
  induction n with
  | zero =>
    intro x1 μ h
    exact (jj_no h).elim
  | succ n ih =>
    intro x1 μ h
    rw [mdf_both_L5] at h
    refine jj_aload_n dX8_both_5 0 rfl ?_
    refine jj_bipush (38) dX8_both_6 rfl ?_
    obtain ⟨q1, e1, h⟩ := jj_be h
    refine jj_callVi [.int 38] [] (c_mdf_takes (d + 0)  e1) jm_mdf_takes lk_8_170 (b := 60) rfl (by decide) (jj_E8 rfl) rfl rfl rfl (by omega) rfl (Nat.le_of_ble_eq_true rfl) dX8_both_8 ?_
    refine jj_if_eq 36 dX8_both_11 (by decide) (fun c2 => ?_) (fun c2 => ?_)
    · replace h := (if_pos c2).symm.trans h
      refine jj_iload_n dX8_both_36 1 rfl ?_
      exact jj_iret2 hF dX8_both_37 (Option.some.inj h)
    · replace h := (if_neg c2).symm.trans h
      refine jj_aload_n dX8_both_14 0 rfl ?_
      obtain ⟨q3, e3, h⟩ := jj_be h
      refine jj_callVi [] [] (h_mdf_test  e3) jm_mdf_test lk_8_179 (b := 60) rfl (by decide) (jj_E8 rfl) rfl rfl rfl (by omega) rfl (Nat.le_of_ble_eq_true rfl) dX8_both_15 ?_
      refine jj_istore_n [(2, .int q3.1), (0, .ref (jj_ad g 60)), (1, .int x1)] dX8_both_18 (by decide) rfl ?_
      refine jj_iload_n dX8_both_19 2 rfl ?_
      refine jj_if_eq 31 dX8_both_20 (by decide) (fun c4 => ?_) (fun c4 => ?_)
      · replace h := (if_pos c4).symm.trans h
        refine jj_iconst (0) dX8_both_31 rfl ?_
        refine jj_istore_n [(1, .int 0), (2, .int q3.1), (0, .ref (jj_ad g 60))] dX8_both_32 (by decide) rfl ?_
        refine jj_goto 5 dX8_both_33 (by decide) ?_
        refine jj_sub [2, 0] rfl ?_
        exact ih _ _ h
      · replace h := (if_neg c4).symm.trans h
        refine jj_iload_n dX8_both_23 0 rfl ?_
        refine jj_if_eq 31 dX8_both_24 (by decide) (fun c5 => ?_) (fun c5 => ?_)
        · replace h := (if_pos c5).symm.trans h
          refine jj_iconst (0) dX8_both_31 rfl ?_
          refine jj_istore_n [(1, .int 0), (2, .int q3.1), (0, .ref (jj_ad g 60))] dX8_both_32 (by decide) rfl ?_
          refine jj_goto 5 dX8_both_33 (by decide) ?_
          refine jj_sub [2, 0] rfl ?_
          exact ih _ _ h
        · replace h := (if_neg c5).symm.trans h
          refine jj_iconst (1) dX8_both_27 rfl ?_
          refine jj_goto 32 dX8_both_28 (by decide) ?_
          refine jj_istore_n [(1, .int 1), (2, .int q3.1), (0, .ref (jj_ad g 60))] dX8_both_32 (by decide) rfl ?_
          refine jj_goto 5 dX8_both_33 (by decide) ?_
          refine jj_sub [2, 0] rfl ?_
          exact ih _ _ h
def mdf_both (N : Nat) (f_mdf_test : jj_M → Option (Int32 × jj_M))  (μ : jj_M) : Option (Int32 × jj_M) := (f_mdf_test μ).bind fun q1 => mdf_both_L5 N f_mdf_test N q1.1 q1.2
set_option maxRecDepth 100000 in
theorem c_mdf_both {g : jj_G} (d : Nat) {N : Nat} {f_mdf_test : jj_M → Option (Int32 × jj_M)}  {μ : jj_M} {r : Int32} {μ' : jj_M} (h_mdf_test : ∀  {μ : jj_M} {r : Int32} {μ' : jj_M} , f_mdf_test μ = some (r, μ') → jj_N g yX8_test cX8_test 5 (some .int) (d + 1) [.ref (jj_ad g 60)] μ (some (.int r)) μ')  (h : mdf_both N f_mdf_test μ = some (r, μ')) : jj_N g yX8_both cX8_both 3 (some .int) (d + 2) [.ref (jj_ad g 60)] μ (some (.int r)) μ' := by
  refine jj_N_of jn_8 (Nat.le_of_ble_eq_true rfl) (fun X hF => ?_)
  unfold mdf_both at h
  refine jj_sub (own := RX8) (lv2 := [(0, .ref (jj_ad g 60))]) [0] rfl ?_
  refine jj_aload_n dX8_both_0 0 rfl ?_
  obtain ⟨q1, e1, h⟩ := jj_be h
  refine jj_callVi [] [] (h_mdf_test  e1) jm_mdf_test lk_8_179 (b := 60) rfl (by decide) (jj_E8 rfl) rfl rfl rfl (by omega) rfl (Nat.le_of_ble_eq_true rfl) dX8_both_1 ?_
  refine jj_istore_n [(1, .int q1.1), (0, .ref (jj_ad g 60))] dX8_both_4 (by decide) rfl ?_
  refine jj_sub [1, 0] rfl ?_
  exact t_mdf_both_L5 d h_mdf_test  hF  _ _ _ h
def mdf_any_L5 (N : Nat) (f_mdf_both : jj_M → Option (Int32 × jj_M))   : Nat → Int32 → jj_M → Option (Int32 × jj_M)
  | 0, _, _ => none
  | n + 1, x1, μ => (mdf_takes 124 μ).bind fun q1 => if q1.1 = 0 then some ((x1, q1.2)) else (f_mdf_both q1.2).bind fun q3 => if x1 = 0 then if q3.1 = 0 then mdf_any_L5 N f_mdf_both n 0 q3.2 else mdf_any_L5 N f_mdf_both n 1 q3.2 else mdf_any_L5 N f_mdf_both n 1 q3.2
set_option maxRecDepth 100000 in
theorem t_mdf_any_L5 {g : jj_G} (d : Nat) {N : Nat} {f_mdf_both : jj_M → Option (Int32 × jj_M)}    {r : Int32} {μ' : jj_M} {X : jj_X} (h_mdf_both : ∀  {μ : jj_M} {r : Int32} {μ' : jj_M} , f_mdf_both μ = some (r, μ') → jj_N g yX8_both cX8_both 3 (some .int) (d + 1) [.ref (jj_ad g 60)] μ (some (.int r)) μ')  (hF : jj_F g (some .int) (some (.int r)) μ' X)  : ∀ (n : Nat) (x1 : Int32) (μ : jj_M), mdf_any_L5 N f_mdf_both n x1 μ = some (r, μ') → jj_V g X RX8 cX8_any 3 (d + 2) 5 [(0, .ref (jj_ad g 60)), (1, .int x1)] [] μ := by
  intro n
  induction n with
  | zero =>
    intro x1 μ h
    exact (jj_no h).elim
  | succ n ih =>
    intro x1 μ h
    rw [mdf_any_L5] at h
    refine jj_aload_n dX8_any_5 0 rfl ?_
    refine jj_bipush (124) dX8_any_6 rfl ?_
    obtain ⟨q1, e1, h⟩ := jj_be h
    refine jj_callVi [.int 124] [] (c_mdf_takes (d + 0)  e1) jm_mdf_takes lk_8_170 (b := 60) rfl (by decide) (jj_E8 rfl) rfl rfl rfl (by omega) rfl (Nat.le_of_ble_eq_true rfl) dX8_any_8 ?_
    refine jj_if_eq 36 dX8_any_11 (by decide) (fun c2 => ?_) (fun c2 => ?_)
    · replace h := (if_pos c2).symm.trans h
      refine jj_iload_n dX8_any_36 1 rfl ?_
      exact jj_iret2 hF dX8_any_37 (Option.some.inj h)
    · replace h := (if_neg c2).symm.trans h
      refine jj_aload_n dX8_any_14 0 rfl ?_
      obtain ⟨q3, e3, h⟩ := jj_be h
      refine jj_callVi [] [] (h_mdf_both  e3) jm_mdf_both lk_8_182 (b := 60) rfl (by decide) (jj_E8 rfl) rfl rfl rfl (by omega) rfl (Nat.le_of_ble_eq_true rfl) dX8_any_15 ?_
      refine jj_istore_n [(2, .int q3.1), (0, .ref (jj_ad g 60)), (1, .int x1)] dX8_any_18 (by decide) rfl ?_
      refine jj_iload_n dX8_any_19 2 rfl ?_
      refine jj_if_ne 27 dX8_any_20 (by decide) (fun c4 => ?_) (fun c4 => ?_)
      · replace h := (if_neg c4).symm.trans h
        refine jj_iconst (1) dX8_any_27 rfl ?_
        refine jj_goto 32 dX8_any_28 (by decide) ?_
        refine jj_istore_n [(1, .int 1), (2, .int q3.1), (0, .ref (jj_ad g 60))] dX8_any_32 (by decide) rfl ?_
        refine jj_goto 5 dX8_any_33 (by decide) ?_
        refine jj_sub [2, 0] rfl ?_
        exact ih _ _ h
      · replace h := (if_pos c4).symm.trans h
        refine jj_iload_n dX8_any_23 0 rfl ?_
        refine jj_if_eq 31 dX8_any_24 (by decide) (fun c5 => ?_) (fun c5 => ?_)
        · replace h := (if_pos c5).symm.trans h
          refine jj_iconst (0) dX8_any_31 rfl ?_
          refine jj_istore_n [(1, .int 0), (2, .int q3.1), (0, .ref (jj_ad g 60))] dX8_any_32 (by decide) rfl ?_
          refine jj_goto 5 dX8_any_33 (by decide) ?_
          refine jj_sub [2, 0] rfl ?_
          exact ih _ _ h
        · replace h := (if_neg c5).symm.trans h
          refine jj_iconst (1) dX8_any_27 rfl ?_
          refine jj_goto 32 dX8_any_28 (by decide) ?_
          refine jj_istore_n [(1, .int 1), (2, .int q3.1), (0, .ref (jj_ad g 60))] dX8_any_32 (by decide) rfl ?_
          refine jj_goto 5 dX8_any_33 (by decide) ?_
          refine jj_sub [2, 0] rfl ?_
          exact ih _ _ h
def mdf_any (N : Nat) (f_mdf_both : jj_M → Option (Int32 × jj_M))  (μ : jj_M) : Option (Int32 × jj_M) := (f_mdf_both μ).bind fun q1 => mdf_any_L5 N f_mdf_both N q1.1 q1.2
set_option maxRecDepth 100000 in
theorem c_mdf_any {g : jj_G} (d : Nat) {N : Nat} {f_mdf_both : jj_M → Option (Int32 × jj_M)}  {μ : jj_M} {r : Int32} {μ' : jj_M} (h_mdf_both : ∀  {μ : jj_M} {r : Int32} {μ' : jj_M} , f_mdf_both μ = some (r, μ') → jj_N g yX8_both cX8_both 3 (some .int) (d + 1) [.ref (jj_ad g 60)] μ (some (.int r)) μ')  (h : mdf_any N f_mdf_both μ = some (r, μ')) : jj_N g yX8_any cX8_any 3 (some .int) (d + 2) [.ref (jj_ad g 60)] μ (some (.int r)) μ' := by
  refine jj_N_of jn_8 (Nat.le_of_ble_eq_true rfl) (fun X hF => ?_)
  unfold mdf_any at h
  refine jj_sub (own := RX8) (lv2 := [(0, .ref (jj_ad g 60))]) [0] rfl ?_
  refine jj_aload_n dX8_any_0 0 rfl ?_
  obtain ⟨q1, e1, h⟩ := jj_be h
  refine jj_callVi [] [] (h_mdf_both  e1) jm_mdf_both lk_8_182 (b := 60) rfl (by decide) (jj_E8 rfl) rfl rfl rfl (by omega) rfl (Nat.le_of_ble_eq_true rfl) dX8_any_1 ?_
  refine jj_istore_n [(1, .int q1.1), (0, .ref (jj_ad g 60))] dX8_any_4 (by decide) rfl ?_
  refine jj_sub [1, 0] rfl ?_
  exact t_mdf_any_L5 d h_mdf_both  hF  _ _ _ h
/-- the group of methods that call one another, by depth -/
def mdf_grp (N : Nat) : Nat → Nat → jj_M → Option (Int32 × jj_M)
  | 0, _, _ => none
  | k + 1, mode, μ => if mode = 0 then mdf_single N (fun μ => mdf_grp N k 0  μ) (fun μ => mdf_grp N k 5  μ)  μ else if mode = 1 then mdf_product N (fun μ => mdf_grp N k 0  μ)  μ else if mode = 2 then mdf_sum N (fun μ => mdf_grp N k 1  μ)  μ else if mode = 3 then mdf_test N (fun μ => mdf_grp N k 2  μ)  μ else if mode = 4 then mdf_both N (fun μ => mdf_grp N k 3  μ)  μ else if mode = 5 then mdf_any N (fun μ => mdf_grp N k 4  μ)  μ else none
theorem t_mdf_grp {g : jj_G} (d N : Nat) : ∀ k : Nat, (∀  (μ : jj_M) (r : Int32) (μ' : jj_M), mdf_grp N k 0  μ = some (r, μ') → jj_N g yX8_single cX8_single 4 (some .int) (d + k + 1) [.ref (jj_ad g 60)] μ (some (.int r)) μ') ∧ (∀  (μ : jj_M) (r : Int32) (μ' : jj_M), mdf_grp N k 1  μ = some (r, μ') → jj_N g yX8_product cX8_product 4 (some .int) (d + k + 1) [.ref (jj_ad g 60)] μ (some (.int r)) μ') ∧ (∀  (μ : jj_M) (r : Int32) (μ' : jj_M), mdf_grp N k 2  μ = some (r, μ') → jj_N g yX8_sum cX8_sum 4 (some .int) (d + k + 1) [.ref (jj_ad g 60)] μ (some (.int r)) μ') ∧ (∀  (μ : jj_M) (r : Int32) (μ' : jj_M), mdf_grp N k 3  μ = some (r, μ') → jj_N g yX8_test cX8_test 5 (some .int) (d + k + 1) [.ref (jj_ad g 60)] μ (some (.int r)) μ') ∧ (∀  (μ : jj_M) (r : Int32) (μ' : jj_M), mdf_grp N k 4  μ = some (r, μ') → jj_N g yX8_both cX8_both 3 (some .int) (d + k + 1) [.ref (jj_ad g 60)] μ (some (.int r)) μ') ∧ (∀  (μ : jj_M) (r : Int32) (μ' : jj_M), mdf_grp N k 5  μ = some (r, μ') → jj_N g yX8_any cX8_any 3 (some .int) (d + k + 1) [.ref (jj_ad g 60)] μ (some (.int r)) μ') := by
  intro k
  induction k with
  | zero => exact ⟨fun _ _ _ h => (jj_no h).elim, fun _ _ _ h => (jj_no h).elim, fun _ _ _ h => (jj_no h).elim, fun _ _ _ h => (jj_no h).elim, fun _ _ _ h => (jj_no h).elim, fun _ _ _ h => (jj_no h).elim⟩
  | succ k ih =>
    obtain ⟨ih0, ih1, ih2, ih3, ih4, ih5⟩ := ih
    refine ⟨?_, ?_, ?_, ?_, ?_, ?_⟩
    · intro μ r μ' h
      rw [mdf_grp, if_pos rfl] at h
      exact c_mdf_single (d + k) (fun h => ih0 _ _ _ h) (fun h => ih5 _ _ _ h) h
    · intro μ r μ' h
      rw [mdf_grp, if_neg (show ¬ ((1 : Nat) = 0) by decide), if_pos rfl] at h
      exact c_mdf_product (d + k) (fun h => ih0 _ _ _ h) h
    · intro μ r μ' h
      rw [mdf_grp, if_neg (show ¬ ((2 : Nat) = 0) by decide), if_neg (show ¬ ((2 : Nat) = 1) by decide), if_pos rfl] at h
      exact c_mdf_sum (d + k) (fun h => ih1 _ _ _ h) h
    · intro μ r μ' h
      rw [mdf_grp, if_neg (show ¬ ((3 : Nat) = 0) by decide), if_neg (show ¬ ((3 : Nat) = 1) by decide), if_neg (show ¬ ((3 : Nat) = 2) by decide), if_pos rfl] at h
      exact c_mdf_test (d + k) (fun h => ih2 _ _ _ h) h
    · intro μ r μ' h
      rw [mdf_grp, if_neg (show ¬ ((4 : Nat) = 0) by decide), if_neg (show ¬ ((4 : Nat) = 1) by decide), if_neg (show ¬ ((4 : Nat) = 2) by decide), if_neg (show ¬ ((4 : Nat) = 3) by decide), if_pos rfl] at h
      exact c_mdf_both (d + k) (fun h => ih3 _ _ _ h) h
    · intro μ r μ' h
      rw [mdf_grp, if_neg (show ¬ ((5 : Nat) = 0) by decide), if_neg (show ¬ ((5 : Nat) = 1) by decide), if_neg (show ¬ ((5 : Nat) = 2) by decide), if_neg (show ¬ ((5 : Nat) = 3) by decide), if_neg (show ¬ ((5 : Nat) = 4) by decide), if_pos rfl] at h
      exact c_mdf_any (d + k) (fun h => ih4 _ _ _ h) h
def mdf_single_G (N : Nat)  (μ : jj_M) : Option (Int32 × jj_M) := mdf_grp N 50 0  μ
theorem c_mdf_single_G {g : jj_G} (d : Nat) {N : Nat}  {μ : jj_M} {r : Int32} {μ' : jj_M} (h : mdf_single_G N  μ = some (r, μ')) : jj_N g yX8_single cX8_single 4 (some .int) (d + 51) [.ref (jj_ad g 60)] μ (some (.int r)) μ' :=
  (t_mdf_grp d N 50).1 _ _ _ h
def mdf_product_G (N : Nat)  (μ : jj_M) : Option (Int32 × jj_M) := mdf_grp N 50 1  μ
theorem c_mdf_product_G {g : jj_G} (d : Nat) {N : Nat}  {μ : jj_M} {r : Int32} {μ' : jj_M} (h : mdf_product_G N  μ = some (r, μ')) : jj_N g yX8_product cX8_product 4 (some .int) (d + 51) [.ref (jj_ad g 60)] μ (some (.int r)) μ' :=
  (t_mdf_grp d N 50).2.1 _ _ _ h
def mdf_sum_G (N : Nat)  (μ : jj_M) : Option (Int32 × jj_M) := mdf_grp N 50 2  μ
theorem c_mdf_sum_G {g : jj_G} (d : Nat) {N : Nat}  {μ : jj_M} {r : Int32} {μ' : jj_M} (h : mdf_sum_G N  μ = some (r, μ')) : jj_N g yX8_sum cX8_sum 4 (some .int) (d + 51) [.ref (jj_ad g 60)] μ (some (.int r)) μ' :=
  (t_mdf_grp d N 50).2.2.1 _ _ _ h
def mdf_test_G (N : Nat)  (μ : jj_M) : Option (Int32 × jj_M) := mdf_grp N 50 3  μ
theorem c_mdf_test_G {g : jj_G} (d : Nat) {N : Nat}  {μ : jj_M} {r : Int32} {μ' : jj_M} (h : mdf_test_G N  μ = some (r, μ')) : jj_N g yX8_test cX8_test 5 (some .int) (d + 51) [.ref (jj_ad g 60)] μ (some (.int r)) μ' :=
  (t_mdf_grp d N 50).2.2.2.1 _ _ _ h
def mdf_both_G (N : Nat)  (μ : jj_M) : Option (Int32 × jj_M) := mdf_grp N 50 4  μ
theorem c_mdf_both_G {g : jj_G} (d : Nat) {N : Nat}  {μ : jj_M} {r : Int32} {μ' : jj_M} (h : mdf_both_G N  μ = some (r, μ')) : jj_N g yX8_both cX8_both 3 (some .int) (d + 51) [.ref (jj_ad g 60)] μ (some (.int r)) μ' :=
  (t_mdf_grp d N 50).2.2.2.2.1 _ _ _ h
def mdf_any_G (N : Nat)  (μ : jj_M) : Option (Int32 × jj_M) := mdf_grp N 50 5  μ
theorem c_mdf_any_G {g : jj_G} (d : Nat) {N : Nat}  {μ : jj_M} {r : Int32} {μ' : jj_M} (h : mdf_any_G N  μ = some (r, μ')) : jj_N g yX8_any cX8_any 3 (some .int) (d + 51) [.ref (jj_ad g 60)] μ (some (.int r)) μ' :=
  (t_mdf_grp d N 50).2.2.2.2.2 _ _ _ h
def mdf_readsText (N : Nat) (x1 : Int32) (x2 : Int32) (x3 : Int32) (x4 : Int32) (x5 : Int32) (x6 : Int32) (μ : jj_M) : Option (Int32 × jj_M) := (some (jj_u (jj_u (jj_u (jj_u (jj_u μ 60 5 x1) 60 6 x2) 60 7 0) 60 8 0) 60 9 x3)).bind fun m1 => (some (jj_u (jj_u (jj_u (jj_u m1 60 10 x4) 60 11 x5) 60 12 x6) 60 13 0)).bind fun m2 => (mdf_any_G N m2).bind fun q3 => if (q3.2 60 13) = 0 then if (q3.2 60 6) ≤ (q3.2 60 7) then some ((q3.1, jj_u q3.2 60 13 0)) else some ((q3.1, jj_u q3.2 60 13 1)) else some ((q3.1, jj_u q3.2 60 13 1))
set_option maxRecDepth 100000 in
theorem c_mdf_readsText {g : jj_G} (d : Nat) {N : Nat} {x1 : Int32} {x2 : Int32} {x3 : Int32} {x4 : Int32} {x5 : Int32} {x6 : Int32} {μ : jj_M} {r : Int32} {μ' : jj_M}   (h : mdf_readsText N x1 x2 x3 x4 x5 x6 μ = some (r, μ')) : jj_N g yX8_readsText cX8_readsText 8 (some .int) (d + 52) [.ref (jj_ad g 60), .int x1, .int x2, .int x3, .int x4, .int x5, .int x6] μ (some (.int r)) μ' := by
  refine jj_N_of jn_8 (Nat.le_of_ble_eq_true rfl) (fun X hF => ?_)
  unfold mdf_readsText at h
  refine jj_sub (own := RX8) (lv2 := [(0, .ref (jj_ad g 60)), (1, .int x1), (2, .int x2), (3, .int x3), (4, .int x4), (5, .int x5), (6, .int x6)]) [0, 1, 2, 3, 4, 5, 6] rfl ?_
  refine jj_aload_n dX8_readsText_0 0 rfl ?_
  refine jj_iload_n dX8_readsText_1 1 rfl ?_
  refine jp_8_5 (k := 60) rfl lk_8_132 dX8_readsText_2 ?_
  refine jj_aload_n dX8_readsText_5 0 rfl ?_
  refine jj_iload_n dX8_readsText_6 2 rfl ?_
  refine jp_8_6 (k := 60) rfl lk_8_125 dX8_readsText_7 ?_
  refine jj_aload_n dX8_readsText_10 0 rfl ?_
  refine jj_iconst (0) dX8_readsText_11 rfl ?_
  refine jp_8_7 (k := 60) rfl lk_8_121 dX8_readsText_12 ?_
  refine jj_aload_n dX8_readsText_15 0 rfl ?_
  refine jj_iconst (0) dX8_readsText_16 rfl ?_
  refine jp_8_8 (k := 60) rfl lk_8_161 dX8_readsText_17 ?_
  refine jj_aload_n dX8_readsText_20 0 rfl ?_
  refine jj_iload_n dX8_readsText_21 3 rfl ?_
  refine jp_8_9 (k := 60) rfl lk_8_139 dX8_readsText_22 ?_
  obtain ⟨m1, em1, h⟩ := jj_be h
  refine jj_mu em1 ?_
  refine jj_aload_n dX8_readsText_25 0 rfl ?_
  refine jj_iload dX8_readsText_26 4 rfl ?_
  refine jp_8_10 (k := 60) rfl lk_8_152 dX8_readsText_28 ?_
  refine jj_aload_n dX8_readsText_31 0 rfl ?_
  refine jj_iload dX8_readsText_32 5 rfl ?_
  refine jp_8_11 (k := 60) rfl lk_8_155 dX8_readsText_34 ?_
  refine jj_aload_n dX8_readsText_37 0 rfl ?_
  refine jj_iload dX8_readsText_38 6 rfl ?_
  refine jp_8_12 (k := 60) rfl lk_8_158 dX8_readsText_40 ?_
  refine jj_aload_n dX8_readsText_43 0 rfl ?_
  refine jj_iconst (0) dX8_readsText_44 rfl ?_
  refine jp_8_13 (k := 60) rfl (Or.inl rfl) lk_8_128 dX8_readsText_45 ?_
  obtain ⟨m2, em2, h⟩ := jj_be h
  refine jj_mu em2 ?_
  refine jj_aload_n dX8_readsText_48 0 rfl ?_
  obtain ⟨q3, e3, h⟩ := jj_be h
  refine jj_callVi [] [] (c_mdf_any_G (d + 0)  e3) jm_mdf_any lk_8_167 (b := 60) rfl (by decide) (jj_E8 rfl) rfl rfl rfl (by omega) rfl (Nat.le_of_ble_eq_true rfl) dX8_readsText_49 ?_
  refine jj_istore [(7, .int q3.1), (0, .ref (jj_ad g 60)), (1, .int x1), (2, .int x2), (3, .int x3), (4, .int x4), (5, .int x5), (6, .int x6)] dX8_readsText_52 (by decide) rfl ?_
  refine jj_aload_n dX8_readsText_54 1 rfl ?_
  refine jj_aload_n dX8_readsText_55 1 rfl ?_
  refine jg_8_13 (k := 60) rfl lk_8_128 dX8_readsText_56 ?_
  refine jj_if_ne 73 dX8_readsText_59 (by decide) (fun c4 => ?_) (fun c4 => ?_)
  · replace h := (if_neg c4).symm.trans h
    refine jj_iconst (1) dX8_readsText_73 rfl ?_
    refine jj_goto 78 dX8_readsText_74 (by decide) ?_
    refine jp_8_13 (k := 60) rfl (Or.inr rfl) lk_8_128 dX8_readsText_78 ?_
    refine jj_iload dX8_readsText_81 0 rfl ?_
    exact jj_iret2 hF dX8_readsText_83 (Option.some.inj h)
  · replace h := (if_pos c4).symm.trans h
    refine jj_aload_n dX8_readsText_62 1 rfl ?_
    refine jg_8_7 (k := 60) rfl lk_8_121 dX8_readsText_63 ?_
    refine jj_aload_n dX8_readsText_66 1 rfl ?_
    refine jg_8_6 (k := 60) rfl lk_8_125 dX8_readsText_67 ?_
    refine jj_icmp_ge 77 dX8_readsText_70 (by decide) (fun c5 => ?_) (fun c5 => ?_)
    · replace h := (if_pos c5).symm.trans h
      refine jj_iconst (0) dX8_readsText_77 rfl ?_
      refine jp_8_13 (k := 60) rfl (Or.inl rfl) lk_8_128 dX8_readsText_78 ?_
      refine jj_iload dX8_readsText_81 0 rfl ?_
      exact jj_iret2 hF dX8_readsText_83 (Option.some.inj h)
    · replace h := (if_neg c5).symm.trans h
      refine jj_iconst (1) dX8_readsText_73 rfl ?_
      refine jj_goto 78 dX8_readsText_74 (by decide) ?_
      refine jp_8_13 (k := 60) rfl (Or.inr rfl) lk_8_128 dX8_readsText_78 ?_
      refine jj_iload dX8_readsText_81 0 rfl ?_
      exact jj_iret2 hF dX8_readsText_83 (Option.some.inj h)
def mdf_worked (N : Nat) (x1 : Int32) (x2 : Int32) (x3 : Int32) (x4 : Int32) (μ : jj_M) : Option (Int32 × jj_M) := if jj_i (179 + x1) 351 then (mdf_readsText N (231 + (50 * x1)) (μ 61 (179 + x1).toNatClampNeg) x1 x2 x3 x4 μ).bind fun q2 => some ((q2.1, q2.2)) else none
set_option maxRecDepth 100000 in
theorem c_mdf_worked {g : jj_G} (d : Nat) {N : Nat} {x1 : Int32} {x2 : Int32} {x3 : Int32} {x4 : Int32} {μ : jj_M} {r : Int32} {μ' : jj_M}   (h : mdf_worked N x1 x2 x3 x4 μ = some (r, μ')) : jj_N g yX8_worked cX8_worked 5 (some .int) (d + 53) [.ref (jj_ad g 60), .int x1, .int x2, .int x3, .int x4] μ (some (.int r)) μ' := by
  refine jj_N_of jn_8 (Nat.le_of_ble_eq_true rfl) (fun X hF => ?_)
  unfold mdf_worked at h
  refine jj_sub (own := RX8) (lv2 := [(0, .ref (jj_ad g 60)), (1, .int x1), (2, .int x2), (3, .int x3), (4, .int x4)]) [0, 1, 2, 3, 4] rfl ?_
  refine jj_aload_n dX8_worked_0 0 rfl ?_
  refine jj_sipush (231) dX8_worked_1 rfl ?_
  refine jj_bipush (50) dX8_worked_4 rfl ?_
  refine jj_iload_n dX8_worked_6 1 rfl ?_
  refine jj_imul dX8_worked_7 ?_
  refine jj_iadd dX8_worked_8 ?_
  refine jj_aload_n dX8_worked_9 0 rfl ?_
  refine jg_8_0 (k := 60) rfl lk_8_7 dX8_worked_10 ?_
  show jj_V g X _ _ _ _ _ _ (.ref (jj_ad g 61) :: _) _
  refine jj_sipush (179) dX8_worked_13 rfl ?_
  refine jj_iload_n dX8_worked_16 1 rfl ?_
  refine jj_iadd dX8_worked_17 ?_
  obtain ⟨g1, h⟩ := jj_ge h
  refine jj_iaload (k := 61) (n := 351) rfl g1 dX8_worked_18 ?_
  refine jj_iload_n dX8_worked_19 1 rfl ?_
  refine jj_iload_n dX8_worked_20 2 rfl ?_
  refine jj_iload_n dX8_worked_21 3 rfl ?_
  refine jj_iload dX8_worked_22 4 rfl ?_
  obtain ⟨q2, e2, h⟩ := jj_be h
  refine jj_callVi [.int (231 + (50 * x1)), .int (μ 61 (179 + x1).toNatClampNeg), .int x1, .int x2, .int x3, .int x4] [] (c_mdf_readsText (d + 0)  e2) jm_mdf_readsText lk_8_185 (b := 60) rfl (by decide) (jj_E8 rfl) rfl rfl rfl (by omega) rfl (Nat.le_of_ble_eq_true rfl) dX8_worked_24 ?_
  exact jj_iret2 hF dX8_worked_27 (Option.some.inj h)
def mdf_needed (N : Nat) (x1 : Int32) (x2 : Int32) (x3 : Int32) (μ : jj_M) : Option (Int32 × jj_M) := if 0 ≤ (μ 61 179) then (mdf_worked N 0 x1 x2 x3 μ).bind fun q2 => some ((mdf_held q2.1 0 99, q2.2)) else some ((mdf_held (1 + (x2 / 4)) 0 99, μ))
set_option maxRecDepth 100000 in
theorem c_mdf_needed {g : jj_G} (d : Nat) {N : Nat} {x1 : Int32} {x2 : Int32} {x3 : Int32} {μ : jj_M} {r : Int32} {μ' : jj_M}   (h : mdf_needed N x1 x2 x3 μ = some (r, μ')) : jj_N g yX8_needed cX8_needed 4 (some .int) (d + 54) [.ref (jj_ad g 60), .int x1, .int x2, .int x3] μ (some (.int r)) μ' := by
  refine jj_N_of jn_8 (Nat.le_of_ble_eq_true rfl) (fun X hF => ?_)
  unfold mdf_needed at h
  refine jj_sub (own := RX8) (lv2 := [(0, .ref (jj_ad g 60)), (1, .int x1), (2, .int x2), (3, .int x3)]) [0, 1, 2, 3] rfl ?_
  refine jj_aload_n dX8_needed_0 0 rfl ?_
  refine jg_8_0 (k := 60) rfl lk_8_7 dX8_needed_1 ?_
  show jj_V g X _ _ _ _ _ _ (.ref (jj_ad g 61) :: _) _
  refine jj_sipush (179) dX8_needed_4 rfl ?_
  refine jj_iaload (k := 61) (n := 351) rfl (show jj_i 179 351 by decide) dX8_needed_7 ?_
  show jj_V g X _ _ _ _ _ _ (.int (μ 61 179) :: _) _
  refine jj_if_ge 19 dX8_needed_8 (by decide) (fun c1 => ?_) (fun c1 => ?_)
  · replace h := (if_pos c1).symm.trans h
    refine jj_aload_n dX8_needed_19 0 rfl ?_
    refine jj_iconst (0) dX8_needed_20 rfl ?_
    refine jj_iload_n dX8_needed_21 1 rfl ?_
    refine jj_iload_n dX8_needed_22 2 rfl ?_
    refine jj_iload_n dX8_needed_23 3 rfl ?_
    obtain ⟨q2, e2, h⟩ := jj_be h
    refine jj_callVi [.int 0, .int x1, .int x2, .int x3] [] (c_mdf_worked (d + 0)  e2) jm_mdf_worked lk_8_189 (b := 60) rfl (by decide) (jj_E8 rfl) rfl rfl rfl (by omega) rfl (Nat.le_of_ble_eq_true rfl) dX8_needed_24 ?_
    refine jj_iconst (0) dX8_needed_27 rfl ?_
    refine jj_bipush (99) dX8_needed_28 rfl ?_
    refine jj_callSi [.int q2.1, .int 0, .int 99] [] (c_mdf_held (d + 53)  rfl) jm_mdf_held lk_8_193 rfl (by omega) rfl (Nat.le_of_ble_eq_true rfl) dX8_needed_30 ?_
    exact jj_iret2 hF dX8_needed_33 (Option.some.inj h)
  · replace h := (if_neg c1).symm.trans h
    refine jj_iconst (1) dX8_needed_11 rfl ?_
    refine jj_iload_n dX8_needed_12 2 rfl ?_
    refine jj_iconst (4) dX8_needed_13 rfl ?_
    refine jj_idiv dX8_needed_14 (by decide) ?_
    refine jj_iadd dX8_needed_15 ?_
    refine jj_goto 27 dX8_needed_16 (by decide) ?_
    refine jj_iconst (0) dX8_needed_27 rfl ?_
    refine jj_bipush (99) dX8_needed_28 rfl ?_
    refine jj_callSi [.int (1 + (x2 / 4)), .int 0, .int 99] [] (c_mdf_held (d + 53)  rfl) jm_mdf_held lk_8_193 rfl (by omega) rfl (Nat.le_of_ble_eq_true rfl) dX8_needed_30 ?_
    exact jj_iret2 hF dX8_needed_33 (Option.some.inj h)
def mdf_needsOf (N : Nat) (x1 : Int32) (x2 : Int32) (μ : jj_M) : Option (Int32 × jj_M) := (mdf_its x1 1 μ).bind fun q1 => (mdf_its x1 0 μ).bind fun q2 => if q2 = 3 then (mdf_needed N q1 x2 (μ 61 138) μ).bind fun q4 => some ((q4.1, q4.2)) else if q2 = 6 then (mdf_needed N q1 x2 (μ 61 138) μ).bind fun q6 => some ((q6.1 + q1, q6.2)) else some ((1, μ))
set_option maxRecDepth 100000 in
theorem c_mdf_needsOf {g : jj_G} (d : Nat) {N : Nat} {x1 : Int32} {x2 : Int32} {μ : jj_M} {r : Int32} {μ' : jj_M}   (h : mdf_needsOf N x1 x2 μ = some (r, μ')) : jj_N g yX8_needsOf cX8_needsOf 4 (some .int) (d + 55) [.ref (jj_ad g 60), .int x1, .int x2] μ (some (.int r)) μ' := by
  refine jj_N_of jn_8 (Nat.le_of_ble_eq_true rfl) (fun X hF => ?_)
  unfold mdf_needsOf at h
  refine jj_sub (own := RX8) (lv2 := [(0, .ref (jj_ad g 60)), (1, .int x1), (2, .int x2)]) [0, 1, 2] rfl ?_
  refine jj_aload_n dX8_needsOf_0 0 rfl ?_
  refine jj_iload_n dX8_needsOf_1 1 rfl ?_
  refine jj_iconst (1) dX8_needsOf_2 rfl ?_
  obtain ⟨q1, e1, h⟩ := jj_be h
  refine jj_callVi [.int x1, .int 1] [] (c_mdf_its (d + 53)  e1) jm_mdf_its lk_8_79 (b := 60) rfl (by decide) (jj_E8 rfl) rfl rfl rfl (by omega) rfl (Nat.le_of_ble_eq_true rfl) dX8_needsOf_3 ?_
  refine jj_istore_n [(3, .int q1), (0, .ref (jj_ad g 60)), (1, .int x1), (2, .int x2)] dX8_needsOf_6 (by decide) rfl ?_
  refine jj_aload_n dX8_needsOf_7 1 rfl ?_
  refine jj_iload_n dX8_needsOf_8 2 rfl ?_
  refine jj_iconst (0) dX8_needsOf_9 rfl ?_
  obtain ⟨q2, e2, h⟩ := jj_be h
  refine jj_callVi [.int x1, .int 0] [] (c_mdf_its (d + 53)  e2) jm_mdf_its lk_8_79 (b := 60) rfl (by decide) (jj_E8 rfl) rfl rfl rfl (by omega) rfl (Nat.le_of_ble_eq_true rfl) dX8_needsOf_10 ?_
  by_cases c3 : q2 = 3
  · replace h := (if_pos c3).symm.trans h
    refine jj_lookup 40 dX8_needsOf_13 (by decide +kernel) (by rw [c3]; rfl) (show (13 : Int) + 27 = (40 : Nat) by decide) ?_
    refine jj_aload_n dX8_needsOf_40 1 rfl ?_
    refine jj_iload_n dX8_needsOf_41 0 rfl ?_
    refine jj_iload_n dX8_needsOf_42 3 rfl ?_
    refine jj_aload_n dX8_needsOf_43 1 rfl ?_
    refine jg_8_0 (k := 60) rfl lk_8_7 dX8_needsOf_44 ?_
    show jj_V g X _ _ _ _ _ _ (.ref (jj_ad g 61) :: _) _
    refine jj_sipush (138) dX8_needsOf_47 rfl ?_
    refine jj_iaload (k := 61) (n := 351) rfl (show jj_i 138 351 by decide) dX8_needsOf_50 ?_
    show jj_V g X _ _ _ _ _ _ (.int (μ 61 138) :: _) _
    obtain ⟨q4, e4, h⟩ := jj_be h
    refine jj_callVi [.int q1, .int x2, .int (μ 61 138)] [] (c_mdf_needed (d + 0)  e4) jm_mdf_needed lk_8_99 (b := 60) rfl (by decide) (jj_E8 rfl) rfl rfl rfl (by omega) rfl (Nat.le_of_ble_eq_true rfl) dX8_needsOf_51 ?_
    exact jj_iret2 hF dX8_needsOf_54 (Option.some.inj h)
  replace h := (if_neg c3).symm.trans h
  by_cases c5 : q2 = 6
  · replace h := (if_pos c5).symm.trans h
    refine jj_lookup 55 dX8_needsOf_13 (by decide +kernel) (by rw [c5]; rfl) (show (13 : Int) + 42 = (55 : Nat) by decide) ?_
    refine jj_aload_n dX8_needsOf_55 1 rfl ?_
    refine jj_iload_n dX8_needsOf_56 0 rfl ?_
    refine jj_iload_n dX8_needsOf_57 3 rfl ?_
    refine jj_aload_n dX8_needsOf_58 1 rfl ?_
    refine jg_8_0 (k := 60) rfl lk_8_7 dX8_needsOf_59 ?_
    show jj_V g X _ _ _ _ _ _ (.ref (jj_ad g 61) :: _) _
    refine jj_sipush (138) dX8_needsOf_62 rfl ?_
    refine jj_iaload (k := 61) (n := 351) rfl (show jj_i 138 351 by decide) dX8_needsOf_65 ?_
    show jj_V g X _ _ _ _ _ _ (.int (μ 61 138) :: _) _
    obtain ⟨q6, e6, h⟩ := jj_be h
    refine jj_callVi [.int q1, .int x2, .int (μ 61 138)] [] (c_mdf_needed (d + 0)  e6) jm_mdf_needed lk_8_99 (b := 60) rfl (by decide) (jj_E8 rfl) rfl rfl rfl (by omega) rfl (Nat.le_of_ble_eq_true rfl) dX8_needsOf_66 ?_
    refine jj_iload_n dX8_needsOf_69 0 rfl ?_
    refine jj_iadd dX8_needsOf_70 ?_
    exact jj_iret2 hF dX8_needsOf_71 (Option.some.inj h)
  replace h := (if_neg c5).symm.trans h
  have c3 : ¬ Int32.toInt q2 = 3 := fun w => c3 (Int32.toInt_inj.mp (w.trans (by decide)))
  have c5 : ¬ Int32.toInt q2 = 6 := fun w => c5 (Int32.toInt_inj.mp (w.trans (by decide)))
  refine jj_lookup 72 dX8_needsOf_13 (by decide +kernel) (show Op.lookupswitch.offset [(3, 27), (6, 42)] 59 (Int32.toInt q2) = 59 by rw [Op.lookupswitch.offset_cons, if_neg (Ne.symm c3), Op.lookupswitch.offset_cons, if_neg (Ne.symm c5), Op.lookupswitch.offset_nil]) (show (13 : Int) + 59 = (72 : Nat) by decide) ?_
  refine jj_iconst (1) dX8_needsOf_72 rfl ?_
  exact jj_iret2 hF dX8_needsOf_73 (Option.some.inj h)
def mdf_calledOf  (x1 : Int32) (x2 : Int32) (μ : jj_M) : Option (Int32) := (mdf_its x1 3 μ).bind fun q1 => (mdf_its x1 0 μ).bind fun q2 => if q2 = 3 then if ((μ 61 137) - (μ 61 137) / 2 * 2) = 0 then some x2 else some q1 else if q2 = 4 then if 0 ≤ q1 then some q1 else some x2 else if q2 = 5 then if q1 = x2 then some (-1) else some x2 else if q2 = 6 then if ((μ 61 137) - (μ 61 137) / 2 * 2) = 0 then some x2 else some q1 else some x2
set_option maxRecDepth 100000 in
theorem c_mdf_calledOf {g : jj_G} (d : Nat)  {x1 : Int32} {x2 : Int32} {μ : jj_M} {r : Int32}   (h : mdf_calledOf x1 x2 μ = some r) : jj_N g yX8_calledOf cX8_calledOf 4 (some .int) (d + 2) [.ref (jj_ad g 60), .int x1, .int x2] μ (some (.int r)) μ := by
  refine jj_N_of jn_8 (Nat.le_of_ble_eq_true rfl) (fun X hF => ?_)
  unfold mdf_calledOf at h
  refine jj_sub (own := RX8) (lv2 := [(0, .ref (jj_ad g 60)), (1, .int x1), (2, .int x2)]) [0, 1, 2] rfl ?_
  refine jj_aload_n dX8_calledOf_0 0 rfl ?_
  refine jj_iload_n dX8_calledOf_1 1 rfl ?_
  refine jj_iconst (3) dX8_calledOf_2 rfl ?_
  obtain ⟨q1, e1, h⟩ := jj_be h
  refine jj_callVi [.int x1, .int 3] [] (c_mdf_its (d + 0)  e1) jm_mdf_its lk_8_79 (b := 60) rfl (by decide) (jj_E8 rfl) rfl rfl rfl (by omega) rfl (Nat.le_of_ble_eq_true rfl) dX8_calledOf_3 ?_
  refine jj_istore_n [(3, .int q1), (0, .ref (jj_ad g 60)), (1, .int x1), (2, .int x2)] dX8_calledOf_6 (by decide) rfl ?_
  refine jj_aload_n dX8_calledOf_7 1 rfl ?_
  refine jj_iload_n dX8_calledOf_8 2 rfl ?_
  refine jj_iconst (0) dX8_calledOf_9 rfl ?_
  obtain ⟨q2, e2, h⟩ := jj_be h
  refine jj_callVi [.int x1, .int 0] [] (c_mdf_its (d + 0)  e2) jm_mdf_its lk_8_79 (b := 60) rfl (by decide) (jj_E8 rfl) rfl rfl rfl (by omega) rfl (Nat.le_of_ble_eq_true rfl) dX8_calledOf_10 ?_
  by_cases c3 : q2 = 3
  · replace h := (if_pos c3).symm.trans h
    refine jj_tableIn 54 dX8_calledOf_13 (by rw [c3]; decide) (by rw [c3]; decide) (by rw [c3]; rfl) (show (13 : Int) + 41 = (54 : Nat) by decide) ?_
    refine jj_aload_n dX8_calledOf_54 1 rfl ?_
    refine jg_8_0 (k := 60) rfl lk_8_7 dX8_calledOf_55 ?_
    show jj_V g X _ _ _ _ _ _ (.ref (jj_ad g 61) :: _) _
    refine jj_sipush (137) dX8_calledOf_58 rfl ?_
    refine jj_iaload (k := 61) (n := 351) rfl (show jj_i 137 351 by decide) dX8_calledOf_61 ?_
    show jj_V g X _ _ _ _ _ _ (.int (μ 61 137) :: _) _
    refine jj_iconst (2) dX8_calledOf_62 rfl ?_
    refine jj_irem dX8_calledOf_63 (by decide) ?_
    refine jj_if_ne 71 dX8_calledOf_64 (by decide) (fun c4 => ?_) (fun c4 => ?_)
    · replace h := (if_neg c4).symm.trans h
      refine jj_iload_n dX8_calledOf_71 0 rfl ?_
      exact jj_iret1 hF dX8_calledOf_72 (Option.some.inj h)
    · replace h := (if_pos c4).symm.trans h
      refine jj_iload_n dX8_calledOf_67 3 rfl ?_
      refine jj_goto 72 dX8_calledOf_68 (by decide) ?_
      exact jj_iret1 hF dX8_calledOf_72 (Option.some.inj h)
  replace h := (if_neg c3).symm.trans h
  by_cases c5 : q2 = 4
  · replace h := (if_pos c5).symm.trans h
    refine jj_tableIn 44 dX8_calledOf_13 (by rw [c5]; decide) (by rw [c5]; decide) (by rw [c5]; rfl) (show (13 : Int) + 31 = (44 : Nat) by decide) ?_
    refine jj_iload_n dX8_calledOf_44 0 rfl ?_
    refine jj_if_ge 52 dX8_calledOf_45 (by decide) (fun c6 => ?_) (fun c6 => ?_)
    · replace h := (if_pos c6).symm.trans h
      refine jj_iload_n dX8_calledOf_52 0 rfl ?_
      exact jj_iret1 hF dX8_calledOf_53 (Option.some.inj h)
    · replace h := (if_neg c6).symm.trans h
      refine jj_iload_n dX8_calledOf_48 3 rfl ?_
      refine jj_goto 53 dX8_calledOf_49 (by decide) ?_
      exact jj_iret1 hF dX8_calledOf_53 (Option.some.inj h)
  replace h := (if_neg c5).symm.trans h
  by_cases c7 : q2 = 5
  · replace h := (if_pos c7).symm.trans h
    refine jj_tableIn 73 dX8_calledOf_13 (by rw [c7]; decide) (by rw [c7]; decide) (by rw [c7]; rfl) (show (13 : Int) + 60 = (73 : Nat) by decide) ?_
    refine jj_iload_n dX8_calledOf_73 0 rfl ?_
    refine jj_iload_n dX8_calledOf_74 3 rfl ?_
    refine jj_icmp_ne 82 dX8_calledOf_75 (by decide) (fun c8 => ?_) (fun c8 => ?_)
    · replace h := (if_neg c8).symm.trans h
      refine jj_iload_n dX8_calledOf_82 3 rfl ?_
      exact jj_iret1 hF dX8_calledOf_83 (Option.some.inj h)
    · replace h := (if_pos c8).symm.trans h
      refine jj_iconst (-1) dX8_calledOf_78 rfl ?_
      refine jj_goto 83 dX8_calledOf_79 (by decide) ?_
      exact jj_iret1 hF dX8_calledOf_83 (Option.some.inj h)
  replace h := (if_neg c7).symm.trans h
  by_cases c9 : q2 = 6
  · replace h := (if_pos c9).symm.trans h
    refine jj_tableIn 54 dX8_calledOf_13 (by rw [c9]; decide) (by rw [c9]; decide) (by rw [c9]; rfl) (show (13 : Int) + 41 = (54 : Nat) by decide) ?_
    refine jj_aload_n dX8_calledOf_54 1 rfl ?_
    refine jg_8_0 (k := 60) rfl lk_8_7 dX8_calledOf_55 ?_
    show jj_V g X _ _ _ _ _ _ (.ref (jj_ad g 61) :: _) _
    refine jj_sipush (137) dX8_calledOf_58 rfl ?_
    refine jj_iaload (k := 61) (n := 351) rfl (show jj_i 137 351 by decide) dX8_calledOf_61 ?_
    show jj_V g X _ _ _ _ _ _ (.int (μ 61 137) :: _) _
    refine jj_iconst (2) dX8_calledOf_62 rfl ?_
    refine jj_irem dX8_calledOf_63 (by decide) ?_
    refine jj_if_ne 71 dX8_calledOf_64 (by decide) (fun c10 => ?_) (fun c10 => ?_)
    · replace h := (if_neg c10).symm.trans h
      refine jj_iload_n dX8_calledOf_71 0 rfl ?_
      exact jj_iret1 hF dX8_calledOf_72 (Option.some.inj h)
    · replace h := (if_pos c10).symm.trans h
      refine jj_iload_n dX8_calledOf_67 3 rfl ?_
      refine jj_goto 72 dX8_calledOf_68 (by decide) ?_
      exact jj_iret1 hF dX8_calledOf_72 (Option.some.inj h)
  replace h := (if_neg c9).symm.trans h
  have c3 : ¬ Int32.toInt q2 = 3 := fun w => c3 (Int32.toInt_inj.mp (w.trans (by decide)))
  have c5 : ¬ Int32.toInt q2 = 4 := fun w => c5 (Int32.toInt_inj.mp (w.trans (by decide)))
  have c7 : ¬ Int32.toInt q2 = 5 := fun w => c7 (Int32.toInt_inj.mp (w.trans (by decide)))
  have c9 : ¬ Int32.toInt q2 = 6 := fun w => c9 (Int32.toInt_inj.mp (w.trans (by decide)))
  refine jj_tableOut 84 dX8_calledOf_13 (by omega) (by decide) ?_
  refine jj_iload_n dX8_calledOf_84 3 rfl ?_
  exact jj_iret1 hF dX8_calledOf_85 (Option.some.inj h)
def mdf_ofPerson (N : Nat) (x1 : Int32) (x2 : Int32) (μ : jj_M) : Option (Int32 × jj_M) := if (mdf_isPerson x1 μ) = 0 then (mdf_errs (-1000000001) μ).bind fun q2 => some ((q2.1, q2.2)) else if (mdf_in (Int32.toInt64 x2) 0 8) = 0 then (mdf_errs (-1000000001) μ).bind fun q13 => some ((q13.1, q13.2)) else if 6 ≤ x2 then if x2 = 6 then (mdf_limitOf x1 μ).bind fun q11 => some ((q11, μ)) else if x2 = 7 then (mdf_its x1 4 μ).bind fun q9 => (mdf_needsOf N x1 q9 μ).bind fun q10 => some ((q10.1, q10.2)) else (mdf_its x1 3 μ).bind fun q7 => (mdf_owes N q7 μ).bind fun q8 => some ((q8, μ)) else (mdf_its x1 x2 μ).bind fun q12 => some ((q12, μ))
set_option maxRecDepth 100000 in
theorem c_mdf_ofPerson {g : jj_G} (d : Nat) {N : Nat} {x1 : Int32} {x2 : Int32} {μ : jj_M} {r : Int32} {μ' : jj_M}   (h : mdf_ofPerson N x1 x2 μ = some (r, μ')) : jj_N g yX8_ofPerson cX8_ofPerson 3 (some .int) (d + 56) [.ref (jj_ad g 60), .int x1, .int x2] μ (some (.int r)) μ' := by
  refine jj_N_of jn_8 (Nat.le_of_ble_eq_true rfl) (fun X hF => ?_)
  unfold mdf_ofPerson at h
  refine jj_sub (own := RX8) (lv2 := [(0, .ref (jj_ad g 60)), (1, .int x1), (2, .int x2)]) [0, 1, 2] rfl ?_
  refine jj_aload_n dX8_ofPerson_0 0 rfl ?_
  refine jj_iload_n dX8_ofPerson_1 1 rfl ?_
  refine jj_callVi [.int x1] [] (c_mdf_isPerson (d + 54)  rfl) jm_mdf_isPerson lk_8_103 (b := 60) rfl (by decide) (jj_E8 rfl) rfl rfl rfl (by omega) rfl (Nat.le_of_ble_eq_true rfl) dX8_ofPerson_2 ?_
  refine jj_if_eq 20 dX8_ofPerson_5 (by decide) (fun c1 => ?_) (fun c1 => ?_)
  · replace h := (if_pos c1).symm.trans h
    refine jj_aload_n dX8_ofPerson_20 0 rfl ?_
    refine jj_ldc (-1000000001) lk_8_67 dX8_ofPerson_21 ?_
    obtain ⟨q2, e2, h⟩ := jj_be h
    refine jj_callVi [.int (-1000000001)] [] (c_mdf_errs (d + 55)  e2) jm_mdf_errs lk_8_68 (b := 60) rfl (by decide) (jj_E8 rfl) rfl rfl rfl (by omega) rfl (Nat.le_of_ble_eq_true rfl) dX8_ofPerson_23 ?_
    exact jj_iret2 hF dX8_ofPerson_26 (Option.some.inj h)
  · replace h := (if_neg c1).symm.trans h
    refine jj_iload_n dX8_ofPerson_8 2 rfl ?_
    refine jj_i2l dX8_ofPerson_9 ?_
    refine jj_lconst (0) dX8_ofPerson_10 rfl ?_
    refine jj_ldc2_w (8) lk_8_106 dX8_ofPerson_11 ?_
    refine jj_callSi [.long (Int32.toInt64 x2), .long 0, .long 8] [] (c_mdf_in (d + 55)  rfl) jm_mdf_in lk_8_46 rfl (by omega) rfl (Nat.le_of_ble_eq_true rfl) dX8_ofPerson_14 ?_
    refine jj_if_ne 27 dX8_ofPerson_17 (by decide) (fun c3 => ?_) (fun c3 => ?_)
    · replace h := (if_neg c3).symm.trans h
      refine jj_iload_n dX8_ofPerson_27 2 rfl ?_
      refine jj_bipush (6) dX8_ofPerson_28 rfl ?_
      refine jj_icmp_ge 42 dX8_ofPerson_30 (by decide) (fun c4 => ?_) (fun c4 => ?_)
      · replace h := (if_pos c4).symm.trans h
        refine jj_iload_n dX8_ofPerson_42 2 rfl ?_
        refine jj_bipush (6) dX8_ofPerson_43 rfl ?_
        refine jj_icmp_ne 56 dX8_ofPerson_45 (by decide) (fun c5 => ?_) (fun c5 => ?_)
        · replace h := (if_neg c5).symm.trans h
          refine jj_iload_n dX8_ofPerson_56 2 rfl ?_
          refine jj_bipush (7) dX8_ofPerson_57 rfl ?_
          refine jj_icmp_ne 76 dX8_ofPerson_59 (by decide) (fun c6 => ?_) (fun c6 => ?_)
          · replace h := (if_neg c6).symm.trans h
            refine jj_aload_n dX8_ofPerson_76 0 rfl ?_
            refine jj_aload_n dX8_ofPerson_77 0 rfl ?_
            refine jj_iload_n dX8_ofPerson_78 1 rfl ?_
            refine jj_iconst (3) dX8_ofPerson_79 rfl ?_
            obtain ⟨q7, e7, h⟩ := jj_be h
            refine jj_callVi [.int x1, .int 3] [.ref (jj_ad g 60)] (c_mdf_its (d + 54)  e7) jm_mdf_its lk_8_79 (b := 60) rfl (by decide) (jj_E8 rfl) rfl rfl rfl (by omega) rfl (Nat.le_of_ble_eq_true rfl) dX8_ofPerson_80 ?_
            obtain ⟨q8, e8, h⟩ := jj_be h
            refine jj_callVi [.int q7] [] (c_mdf_owes (d + 55)  e8) jm_mdf_owes lk_8_90 (b := 60) rfl (by decide) (jj_E8 rfl) rfl rfl rfl (by omega) rfl (Nat.le_of_ble_eq_true rfl) dX8_ofPerson_83 ?_
            exact jj_iret2 hF dX8_ofPerson_86 (Option.some.inj h)
          · replace h := (if_pos c6).symm.trans h
            refine jj_aload_n dX8_ofPerson_62 0 rfl ?_
            refine jj_iload_n dX8_ofPerson_63 1 rfl ?_
            refine jj_aload_n dX8_ofPerson_64 0 rfl ?_
            refine jj_iload_n dX8_ofPerson_65 1 rfl ?_
            refine jj_iconst (4) dX8_ofPerson_66 rfl ?_
            obtain ⟨q9, e9, h⟩ := jj_be h
            refine jj_callVi [.int x1, .int 4] [.int x1, .ref (jj_ad g 60)] (c_mdf_its (d + 54)  e9) jm_mdf_its lk_8_79 (b := 60) rfl (by decide) (jj_E8 rfl) rfl rfl rfl (by omega) rfl (Nat.le_of_ble_eq_true rfl) dX8_ofPerson_67 ?_
            obtain ⟨q10, e10, h⟩ := jj_be h
            refine jj_callVi [.int x1, .int q9] [] (c_mdf_needsOf (d + 0)  e10) jm_mdf_needsOf lk_8_111 (b := 60) rfl (by decide) (jj_E8 rfl) rfl rfl rfl (by omega) rfl (Nat.le_of_ble_eq_true rfl) dX8_ofPerson_70 ?_
            refine jj_goto 86 dX8_ofPerson_73 (by decide) ?_
            exact jj_iret2 hF dX8_ofPerson_86 (Option.some.inj h)
        · replace h := (if_pos c5).symm.trans h
          refine jj_aload_n dX8_ofPerson_48 0 rfl ?_
          refine jj_iload_n dX8_ofPerson_49 1 rfl ?_
          obtain ⟨q11, e11, h⟩ := jj_be h
          refine jj_callVi [.int x1] [] (c_mdf_limitOf (d + 53)  e11) jm_mdf_limitOf lk_8_108 (b := 60) rfl (by decide) (jj_E8 rfl) rfl rfl rfl (by omega) rfl (Nat.le_of_ble_eq_true rfl) dX8_ofPerson_50 ?_
          refine jj_goto 86 dX8_ofPerson_53 (by decide) ?_
          exact jj_iret2 hF dX8_ofPerson_86 (Option.some.inj h)
      · replace h := (if_neg c4).symm.trans h
        refine jj_aload_n dX8_ofPerson_33 0 rfl ?_
        refine jj_iload_n dX8_ofPerson_34 1 rfl ?_
        refine jj_iload_n dX8_ofPerson_35 2 rfl ?_
        obtain ⟨q12, e12, h⟩ := jj_be h
        refine jj_callVi [.int x1, .int x2] [] (c_mdf_its (d + 54)  e12) jm_mdf_its lk_8_79 (b := 60) rfl (by decide) (jj_E8 rfl) rfl rfl rfl (by omega) rfl (Nat.le_of_ble_eq_true rfl) dX8_ofPerson_36 ?_
        refine jj_goto 86 dX8_ofPerson_39 (by decide) ?_
        exact jj_iret2 hF dX8_ofPerson_86 (Option.some.inj h)
    · replace h := (if_pos c3).symm.trans h
      refine jj_aload_n dX8_ofPerson_20 0 rfl ?_
      refine jj_ldc (-1000000001) lk_8_67 dX8_ofPerson_21 ?_
      obtain ⟨q13, e13, h⟩ := jj_be h
      refine jj_callVi [.int (-1000000001)] [] (c_mdf_errs (d + 55)  e13) jm_mdf_errs lk_8_68 (b := 60) rfl (by decide) (jj_E8 rfl) rfl rfl rfl (by omega) rfl (Nat.le_of_ble_eq_true rfl) dX8_ofPerson_23 ?_
      exact jj_iret2 hF dX8_ofPerson_26 (Option.some.inj h)
def mdf_become  (x1 : Int32) (x2 : Int32) (μ : jj_M) : Option (Int32 × jj_M) := if (mdf_isPerson x1 μ) = 0 then (mdf_errs (-1000000001) μ).bind fun q2 => some ((q2.1, q2.2)) else if (mdf_isMind x2) = 0 then (mdf_errs (-1000000001) μ).bind fun q6 => some ((q6.1, q6.2)) else if jj_i (mdf_spot x1 1) 351 then (mdf_becomes (mdf_spot x1 0) (x2 / 10) (jj_u μ 61 (mdf_spot x1 1).toNatClampNeg (x2 - x2 / 10 * 10))).bind fun q5 => some ((q5.1, q5.2)) else none
set_option maxRecDepth 100000 in
theorem c_mdf_become {g : jj_G} (d : Nat)  {x1 : Int32} {x2 : Int32} {μ : jj_M} {r : Int32} {μ' : jj_M}   (h : mdf_become x1 x2 μ = some (r, μ')) : jj_N g yX8_become cX8_become 3 (some .int) (d + 2) [.ref (jj_ad g 60), .int x1, .int x2] μ (some (.int r)) μ' := by
  refine jj_N_of jn_8 (Nat.le_of_ble_eq_true rfl) (fun X hF => ?_)
  unfold mdf_become at h
  refine jj_sub (own := RX8) (lv2 := [(0, .ref (jj_ad g 60)), (1, .int x1), (2, .int x2)]) [0, 1, 2] rfl ?_
  refine jj_aload_n dX8_become_0 0 rfl ?_
  refine jj_iload_n dX8_become_1 1 rfl ?_
  refine jj_callVi [.int x1] [] (c_mdf_isPerson (d + 0)  rfl) jm_mdf_isPerson lk_8_103 (b := 60) rfl (by decide) (jj_E8 rfl) rfl rfl rfl (by omega) rfl (Nat.le_of_ble_eq_true rfl) dX8_become_2 ?_
  refine jj_if_eq 15 dX8_become_5 (by decide) (fun c1 => ?_) (fun c1 => ?_)
  · replace h := (if_pos c1).symm.trans h
    refine jj_aload_n dX8_become_15 0 rfl ?_
    refine jj_ldc (-1000000001) lk_8_67 dX8_become_16 ?_
    obtain ⟨q2, e2, h⟩ := jj_be h
    refine jj_callVi [.int (-1000000001)] [] (c_mdf_errs (d + 1)  e2) jm_mdf_errs lk_8_68 (b := 60) rfl (by decide) (jj_E8 rfl) rfl rfl rfl (by omega) rfl (Nat.le_of_ble_eq_true rfl) dX8_become_18 ?_
    exact jj_iret2 hF dX8_become_21 (Option.some.inj h)
  · replace h := (if_neg c1).symm.trans h
    refine jj_iload_n dX8_become_8 2 rfl ?_
    refine jj_callSi [.int x2] [] (c_mdf_isMind (d + 0)  rfl) jm_mdf_isMind lk_8_95 rfl (by omega) rfl (Nat.le_of_ble_eq_true rfl) dX8_become_9 ?_
    refine jj_if_ne 22 dX8_become_12 (by decide) (fun c3 => ?_) (fun c3 => ?_)
    · replace h := (if_neg c3).symm.trans h
      refine jj_aload_n dX8_become_22 0 rfl ?_
      refine jg_8_0 (k := 60) rfl lk_8_7 dX8_become_23 ?_
      show jj_V g X _ _ _ _ _ _ (.ref (jj_ad g 61) :: _) _
      refine jj_iload_n dX8_become_26 1 rfl ?_
      refine jj_iconst (1) dX8_become_27 rfl ?_
      refine jj_callSi [.int x1, .int 1] [.ref (jj_ad g 61)] (c_mdf_spot (d + 1)  rfl) jm_mdf_spot lk_8_54 rfl (by omega) rfl (Nat.le_of_ble_eq_true rfl) dX8_become_28 ?_
      refine jj_iload_n dX8_become_31 2 rfl ?_
      refine jj_bipush (10) dX8_become_32 rfl ?_
      refine jj_irem dX8_become_34 (by decide) ?_
      obtain ⟨g4, h⟩ := jj_ge h
      refine jj_iastore (k := 61) (n := 351) rfl g4 dX8_become_35 ?_
      refine jj_aload_n dX8_become_36 0 rfl ?_
      refine jj_iload_n dX8_become_37 1 rfl ?_
      refine jj_iconst (0) dX8_become_38 rfl ?_
      refine jj_callSi [.int x1, .int 0] [.ref (jj_ad g 60)] (c_mdf_spot (d + 1)  rfl) jm_mdf_spot lk_8_54 rfl (by omega) rfl (Nat.le_of_ble_eq_true rfl) dX8_become_39 ?_
      refine jj_iload_n dX8_become_42 2 rfl ?_
      refine jj_bipush (10) dX8_become_43 rfl ?_
      refine jj_idiv dX8_become_45 (by decide) ?_
      obtain ⟨q5, e5, h⟩ := jj_be h
      refine jj_callVi [.int (mdf_spot x1 0), .int (x2 / 10)] [] (c_mdf_becomes (d + 1)  e5) jm_mdf_becomes lk_8_64 (b := 60) rfl (by decide) (jj_E8 rfl) rfl rfl rfl (by omega) rfl (Nat.le_of_ble_eq_true rfl) dX8_become_46 ?_
      exact jj_iret2 hF dX8_become_49 (Option.some.inj h)
    · replace h := (if_pos c3).symm.trans h
      refine jj_aload_n dX8_become_15 0 rfl ?_
      refine jj_ldc (-1000000001) lk_8_67 dX8_become_16 ?_
      obtain ⟨q6, e6, h⟩ := jj_be h
      refine jj_callVi [.int (-1000000001)] [] (c_mdf_errs (d + 1)  e6) jm_mdf_errs lk_8_68 (b := 60) rfl (by decide) (jj_E8 rfl) rfl rfl rfl (by omega) rfl (Nat.le_of_ble_eq_true rfl) dX8_become_18 ?_
      exact jj_iret2 hF dX8_become_21 (Option.some.inj h)
def mdf_isUnder  (x0 : Int32) (x1 : Int32)  : Int32 := if x1 = 0 then 1 else if x0 = x1 then 1 else if x0 ≤ 3 then 0 else if (x0 - 3) = x1 then 1 else 0
theorem z_mdf_isUnder (x0 : Int32) (x1 : Int32)  : mdf_isUnder x0 x1 = 0 ∨ mdf_isUnder x0 x1 = 1 := by
  unfold mdf_isUnder
  first | (first | exact Or.inl rfl | exact Or.inr rfl) | ((repeat' split) <;> first | exact Or.inl rfl | exact Or.inr rfl)
set_option maxRecDepth 100000 in
theorem c_mdf_isUnder {g : jj_G} (d : Nat)  {x0 : Int32} {x1 : Int32} {μ : jj_M} {r : Int32}   (h : mdf_isUnder x0 x1 = r) : jj_N g yX8_isUnder cX8_isUnder 2 (some .boolean) (d + 0) [.int x0, .int x1] μ (some (.int r)) μ := by
  refine jj_N_of jn_8 (Nat.le_of_ble_eq_true rfl) (fun X hF => ?_)
  unfold mdf_isUnder at h
  refine jj_sub (own := RX8) (lv2 := [(0, .int x0), (1, .int x1)]) [0, 1] rfl ?_
  refine jj_iload_n dX8_isUnder_0 1 rfl ?_
  refine jj_if_eq 21 dX8_isUnder_1 (by decide) (fun c1 => ?_) (fun c1 => ?_)
  · replace h := (if_pos c1).symm.trans h
    refine jj_iconst (1) dX8_isUnder_21 rfl ?_
    refine jj_goto 26 dX8_isUnder_22 (by decide) ?_
    exact jj_zret1 hF dX8_isUnder_26 (Or.inr rfl) h
  · replace h := (if_neg c1).symm.trans h
    refine jj_iload_n dX8_isUnder_4 0 rfl ?_
    refine jj_iload_n dX8_isUnder_5 1 rfl ?_
    refine jj_icmp_eq 21 dX8_isUnder_6 (by decide) (fun c2 => ?_) (fun c2 => ?_)
    · replace h := (if_pos c2).symm.trans h
      refine jj_iconst (1) dX8_isUnder_21 rfl ?_
      refine jj_goto 26 dX8_isUnder_22 (by decide) ?_
      exact jj_zret1 hF dX8_isUnder_26 (Or.inr rfl) h
    · replace h := (if_neg c2).symm.trans h
      refine jj_iload_n dX8_isUnder_9 0 rfl ?_
      refine jj_iconst (3) dX8_isUnder_10 rfl ?_
      refine jj_icmp_le 25 dX8_isUnder_11 (by decide) (fun c3 => ?_) (fun c3 => ?_)
      · replace h := (if_pos c3).symm.trans h
        refine jj_iconst (0) dX8_isUnder_25 rfl ?_
        exact jj_zret1 hF dX8_isUnder_26 (Or.inl rfl) h
      · replace h := (if_neg c3).symm.trans h
        refine jj_iload_n dX8_isUnder_14 0 rfl ?_
        refine jj_iconst (3) dX8_isUnder_15 rfl ?_
        refine jj_isub dX8_isUnder_16 ?_
        refine jj_iload_n dX8_isUnder_17 1 rfl ?_
        refine jj_icmp_ne 25 dX8_isUnder_18 (by decide) (fun c4 => ?_) (fun c4 => ?_)
        · replace h := (if_neg c4).symm.trans h
          refine jj_iconst (0) dX8_isUnder_25 rfl ?_
          exact jj_zret1 hF dX8_isUnder_26 (Or.inl rfl) h
        · replace h := (if_pos c4).symm.trans h
          refine jj_iconst (1) dX8_isUnder_21 rfl ?_
          refine jj_goto 26 dX8_isUnder_22 (by decide) ?_
          exact jj_zret1 hF dX8_isUnder_26 (Or.inr rfl) h
def mdf_as  (x1 : Int32) (x2 : Int32) (μ : jj_M) : Option (Int32 × jj_M) := if (mdf_isPerson x1 μ) = 0 then (mdf_errs (-1000000001) μ).bind fun q2 => some ((q2.1, q2.2)) else if (mdf_in (Int32.toInt64 x2) 0 6) = 0 then (mdf_errs (-1000000001) μ).bind fun q8 => some ((q8.1, q8.2)) else (mdf_its x1 0 μ).bind fun q4 => if (mdf_isUnder q4 x2) = 0 then (mdf_errs (-1000000005) μ).bind fun q6 => some ((q6.1, q6.2)) else (mdf_its x1 1 μ).bind fun q7 => some ((q7, μ))
set_option maxRecDepth 100000 in
theorem c_mdf_as {g : jj_G} (d : Nat)  {x1 : Int32} {x2 : Int32} {μ : jj_M} {r : Int32} {μ' : jj_M}   (h : mdf_as x1 x2 μ = some (r, μ')) : jj_N g yX8_as cX8_as 3 (some .int) (d + 2) [.ref (jj_ad g 60), .int x1, .int x2] μ (some (.int r)) μ' := by
  refine jj_N_of jn_8 (Nat.le_of_ble_eq_true rfl) (fun X hF => ?_)
  unfold mdf_as at h
  refine jj_sub (own := RX8) (lv2 := [(0, .ref (jj_ad g 60)), (1, .int x1), (2, .int x2)]) [0, 1, 2] rfl ?_
  refine jj_aload_n dX8_as_0 0 rfl ?_
  refine jj_iload_n dX8_as_1 1 rfl ?_
  refine jj_callVi [.int x1] [] (c_mdf_isPerson (d + 0)  rfl) jm_mdf_isPerson lk_8_103 (b := 60) rfl (by decide) (jj_E8 rfl) rfl rfl rfl (by omega) rfl (Nat.le_of_ble_eq_true rfl) dX8_as_2 ?_
  refine jj_if_eq 20 dX8_as_5 (by decide) (fun c1 => ?_) (fun c1 => ?_)
  · replace h := (if_pos c1).symm.trans h
    refine jj_aload_n dX8_as_20 0 rfl ?_
    refine jj_ldc (-1000000001) lk_8_67 dX8_as_21 ?_
    obtain ⟨q2, e2, h⟩ := jj_be h
    refine jj_callVi [.int (-1000000001)] [] (c_mdf_errs (d + 1)  e2) jm_mdf_errs lk_8_68 (b := 60) rfl (by decide) (jj_E8 rfl) rfl rfl rfl (by omega) rfl (Nat.le_of_ble_eq_true rfl) dX8_as_23 ?_
    exact jj_iret2 hF dX8_as_26 (Option.some.inj h)
  · replace h := (if_neg c1).symm.trans h
    refine jj_iload_n dX8_as_8 2 rfl ?_
    refine jj_i2l dX8_as_9 ?_
    refine jj_lconst (0) dX8_as_10 rfl ?_
    refine jj_ldc2_w (6) lk_8_114 dX8_as_11 ?_
    refine jj_callSi [.long (Int32.toInt64 x2), .long 0, .long 6] [] (c_mdf_in (d + 1)  rfl) jm_mdf_in lk_8_46 rfl (by omega) rfl (Nat.le_of_ble_eq_true rfl) dX8_as_14 ?_
    refine jj_if_ne 27 dX8_as_17 (by decide) (fun c3 => ?_) (fun c3 => ?_)
    · replace h := (if_neg c3).symm.trans h
      refine jj_aload_n dX8_as_27 0 rfl ?_
      refine jj_iload_n dX8_as_28 1 rfl ?_
      refine jj_iconst (0) dX8_as_29 rfl ?_
      obtain ⟨q4, e4, h⟩ := jj_be h
      refine jj_callVi [.int x1, .int 0] [] (c_mdf_its (d + 0)  e4) jm_mdf_its lk_8_79 (b := 60) rfl (by decide) (jj_E8 rfl) rfl rfl rfl (by omega) rfl (Nat.le_of_ble_eq_true rfl) dX8_as_30 ?_
      refine jj_iload_n dX8_as_33 2 rfl ?_
      refine jj_callSi [.int q4, .int x2] [] (c_mdf_isUnder (d + 1)  rfl) jm_mdf_isUnder lk_8_116 rfl (by omega) rfl (Nat.le_of_ble_eq_true rfl) dX8_as_34 ?_
      refine jj_if_eq 49 dX8_as_37 (by decide) (fun c5 => ?_) (fun c5 => ?_)
      · replace h := (if_pos c5).symm.trans h
        refine jj_aload_n dX8_as_49 0 rfl ?_
        refine jj_ldc (-1000000005) lk_8_120 dX8_as_50 ?_
        obtain ⟨q6, e6, h⟩ := jj_be h
        refine jj_callVi [.int (-1000000005)] [] (c_mdf_errs (d + 1)  e6) jm_mdf_errs lk_8_68 (b := 60) rfl (by decide) (jj_E8 rfl) rfl rfl rfl (by omega) rfl (Nat.le_of_ble_eq_true rfl) dX8_as_52 ?_
        exact jj_iret2 hF dX8_as_55 (Option.some.inj h)
      · replace h := (if_neg c5).symm.trans h
        refine jj_aload_n dX8_as_40 0 rfl ?_
        refine jj_iload_n dX8_as_41 1 rfl ?_
        refine jj_iconst (1) dX8_as_42 rfl ?_
        obtain ⟨q7, e7, h⟩ := jj_be h
        refine jj_callVi [.int x1, .int 1] [] (c_mdf_its (d + 0)  e7) jm_mdf_its lk_8_79 (b := 60) rfl (by decide) (jj_E8 rfl) rfl rfl rfl (by omega) rfl (Nat.le_of_ble_eq_true rfl) dX8_as_43 ?_
        refine jj_goto 55 dX8_as_46 (by decide) ?_
        exact jj_iret2 hF dX8_as_55 (Option.some.inj h)
    · replace h := (if_pos c3).symm.trans h
      refine jj_aload_n dX8_as_20 0 rfl ?_
      refine jj_ldc (-1000000001) lk_8_67 dX8_as_21 ?_
      obtain ⟨q8, e8, h⟩ := jj_be h
      refine jj_callVi [.int (-1000000001)] [] (c_mdf_errs (d + 1)  e8) jm_mdf_errs lk_8_68 (b := 60) rfl (by decide) (jj_E8 rfl) rfl rfl rfl (by omega) rfl (Nat.le_of_ble_eq_true rfl) dX8_as_23 ?_
      exact jj_iret2 hF dX8_as_26 (Option.some.inj h)
def mdf_feed_L44 (N : Nat)  (l1 : Int64) (x3 : Int32) : Nat → Int32 → jj_M → Option (Int32 × jj_M)
  | 0, _, _ => none
  | n + 1, x4, μ => if x3 ≤ x4 then some ((μ 61 177, μ)) else if jj_i (181 + (μ 61 177)) 351 then (some (jj_u μ 61 (181 + (μ 61 177)).toNatClampNeg (Int64.toInt32 ((l1 >>> (Int32.toInt64 (8 * x4) &&& 63)) &&& 255)))).bind fun m3 => mdf_feed_L44 N l1 x3 n (x4 + 1) (jj_u m3 61 177 ((m3 61 177) + 1)) else none
set_option maxRecDepth 100000 in
theorem t_mdf_feed_L44 {g : jj_G} (d : Nat) {N : Nat}  {l1 : Int64} {x3 : Int32}  {r : Int32} {μ' : jj_M} {X : jj_X}   (hF : jj_F g (some .int) (some (.int r)) μ' X)  : ∀ (n : Nat) (x4 : Int32) (μ : jj_M), mdf_feed_L44 N l1 x3 n x4 μ = some (r, μ') → jj_V g X RX8 cX8_feed 5 (d + 1) 44 [(0, .ref (jj_ad g 60)), (1, .long l1), (3, .int x3), (4, .int x4)] [] μ := by
  intro n
  induction n with
  | zero =>
    intro x4 μ h
    exact (jj_no h).elim
  | succ n ih =>
    intro x4 μ h
    rw [mdf_feed_L44] at h
    refine jj_iload dX8_feed_44 3 rfl ?_
    refine jj_iload_n dX8_feed_46 2 rfl ?_
    refine jj_icmp_ge 97 dX8_feed_47 (by decide) (fun c1 => ?_) (fun c1 => ?_)
    · replace h := (if_pos c1).symm.trans h
      refine jj_aload_n dX8_feed_97 0 rfl ?_
      refine jg_8_0 (k := 60) rfl lk_8_7 dX8_feed_98 ?_
      show jj_V g X _ _ _ _ _ _ (.ref (jj_ad g 61) :: _) _
      refine jj_sipush (177) dX8_feed_101 rfl ?_
      refine jj_iaload (k := 61) (n := 351) rfl (show jj_i 177 351 by decide) dX8_feed_104 ?_
      show jj_V g X _ _ _ _ _ _ (.int (μ 61 177) :: _) _
      exact jj_iret2 hF dX8_feed_105 (Option.some.inj h)
    · replace h := (if_neg c1).symm.trans h
      refine jj_aload_n dX8_feed_50 0 rfl ?_
      refine jg_8_0 (k := 60) rfl lk_8_7 dX8_feed_51 ?_
      show jj_V g X _ _ _ _ _ _ (.ref (jj_ad g 61) :: _) _
      refine jj_sipush (181) dX8_feed_54 rfl ?_
      refine jj_aload_n dX8_feed_57 0 rfl ?_
      refine jg_8_0 (k := 60) rfl lk_8_7 dX8_feed_58 ?_
      show jj_V g X _ _ _ _ _ _ (.ref (jj_ad g 61) :: _) _
      refine jj_sipush (177) dX8_feed_61 rfl ?_
      refine jj_iaload (k := 61) (n := 351) rfl (show jj_i 177 351 by decide) dX8_feed_64 ?_
      show jj_V g X _ _ _ _ _ _ (.int (μ 61 177) :: _) _
      refine jj_iadd dX8_feed_65 ?_
      refine jj_lload_n dX8_feed_66 1 rfl ?_
      refine jj_bipush (8) dX8_feed_67 rfl ?_
      refine jj_iload dX8_feed_69 3 rfl ?_
      refine jj_imul dX8_feed_71 ?_
      refine jj_lshr dX8_feed_72 ?_
      refine jj_ldc2_w (255) lk_8_50 dX8_feed_73 ?_
      refine jj_land dX8_feed_76 ?_
      refine jj_l2i dX8_feed_77 ?_
      obtain ⟨g2, h⟩ := jj_ge h
      refine jj_iastore (k := 61) (n := 351) rfl g2 dX8_feed_78 ?_
      obtain ⟨m3, em3, h⟩ := jj_be h
      refine jj_mu em3 ?_
      refine jj_aload_n dX8_feed_79 0 rfl ?_
      refine jg_8_0 (k := 60) rfl lk_8_7 dX8_feed_80 ?_
      show jj_V g X _ _ _ _ _ _ (.ref (jj_ad g 61) :: _) _
      refine jj_sipush (177) dX8_feed_83 rfl ?_
      refine jj_dup2 dX8_feed_86 rfl rfl ?_
      refine jj_iaload (k := 61) (n := 351) rfl (show jj_i 177 351 by decide) dX8_feed_87 ?_
      show jj_V g X _ _ _ _ _ _ (.int (m3 61 177) :: _) _
      refine jj_iconst (1) dX8_feed_88 rfl ?_
      refine jj_iadd dX8_feed_89 ?_
      refine jj_iastore (k := 61) (n := 351) rfl (show jj_i 177 351 by decide) dX8_feed_90 ?_
      show jj_V g X _ _ _ _ _ _ _ (jj_u m3 61 177 ((m3 61 177) + 1))
      refine jj_iinc (x4 + 1) [(4, .int (x4 + 1)), (0, .ref (jj_ad g 60)), (1, .long l1), (3, .int x3)] dX8_feed_91 3 rfl rfl (by decide) rfl ?_
      refine jj_goto 44 dX8_feed_94 (by decide) ?_
      refine jj_sub [1, 2, 3, 0] rfl ?_
      exact ih _ _ h
def mdf_feed (N : Nat) (l1 : Int64) (x3 : Int32) (μ : jj_M) : Option (Int32 × jj_M) := if (mdf_in (Int32.toInt64 x3) 1 8) = 0 then (mdf_errs (-1000000001) μ).bind fun q4 => some ((q4.1, q4.2)) else if ((μ 61 177) + x3) ≤ 50 then mdf_feed_L44 N l1 x3 N 0 μ else (mdf_errs (-1000000004) μ).bind fun q3 => some ((q3.1, q3.2))
set_option maxRecDepth 100000 in
theorem c_mdf_feed {g : jj_G} (d : Nat) {N : Nat} {l1 : Int64} {x3 : Int32} {μ : jj_M} {r : Int32} {μ' : jj_M}   (h : mdf_feed N l1 x3 μ = some (r, μ')) : jj_N g yX8_feed cX8_feed 5 (some .int) (d + 1) [.ref (jj_ad g 60), .long l1, .int x3] μ (some (.int r)) μ' := by
  refine jj_N_of jn_8 (Nat.le_of_ble_eq_true rfl) (fun X hF => ?_)
  unfold mdf_feed at h
  refine jj_sub (own := RX8) (lv2 := [(0, .ref (jj_ad g 60)), (1, .long l1), (3, .int x3)]) [0, 1, 2] rfl ?_
  refine jj_iload_n dX8_feed_0 2 rfl ?_
  refine jj_i2l dX8_feed_1 ?_
  refine jj_lconst (1) dX8_feed_2 rfl ?_
  refine jj_ldc2_w (8) lk_8_106 dX8_feed_3 ?_
  refine jj_callSi [.long (Int32.toInt64 x3), .long 1, .long 8] [] (c_mdf_in (d + 0)  rfl) jm_mdf_in lk_8_46 rfl (by omega) rfl (Nat.le_of_ble_eq_true rfl) dX8_feed_6 ?_
  refine jj_if_ne 19 dX8_feed_9 (by decide) (fun c1 => ?_) (fun c1 => ?_)
  · replace h := (if_neg c1).symm.trans h
    refine jj_aload_n dX8_feed_19 0 rfl ?_
    refine jg_8_0 (k := 60) rfl lk_8_7 dX8_feed_20 ?_
    show jj_V g X _ _ _ _ _ _ (.ref (jj_ad g 61) :: _) _
    refine jj_sipush (177) dX8_feed_23 rfl ?_
    refine jj_iaload (k := 61) (n := 351) rfl (show jj_i 177 351 by decide) dX8_feed_26 ?_
    show jj_V g X _ _ _ _ _ _ (.int (μ 61 177) :: _) _
    refine jj_iload_n dX8_feed_27 2 rfl ?_
    refine jj_iadd dX8_feed_28 ?_
    refine jj_bipush (50) dX8_feed_29 rfl ?_
    refine jj_icmp_le 41 dX8_feed_31 (by decide) (fun c2 => ?_) (fun c2 => ?_)
    · replace h := (if_pos c2).symm.trans h
      refine jj_iconst (0) dX8_feed_41 rfl ?_
      refine jj_istore [(4, .int 0), (0, .ref (jj_ad g 60)), (1, .long l1), (3, .int x3)] dX8_feed_42 (by decide) rfl ?_
      refine jj_sub [1, 2, 3, 0] rfl ?_
      exact t_mdf_feed_L44 d   hF  _ _ _ h
    · replace h := (if_neg c2).symm.trans h
      refine jj_aload_n dX8_feed_34 0 rfl ?_
      refine jj_ldc (-1000000004) lk_8_98 dX8_feed_35 ?_
      obtain ⟨q3, e3, h⟩ := jj_be h
      refine jj_callVi [.int (-1000000004)] [] (c_mdf_errs (d + 0)  e3) jm_mdf_errs lk_8_68 (b := 60) rfl (by decide) (jj_E8 rfl) rfl rfl rfl (by omega) rfl (Nat.le_of_ble_eq_true rfl) dX8_feed_37 ?_
      exact jj_iret2 hF dX8_feed_40 (Option.some.inj h)
  · replace h := (if_pos c1).symm.trans h
    refine jj_aload_n dX8_feed_12 0 rfl ?_
    refine jj_ldc (-1000000001) lk_8_67 dX8_feed_13 ?_
    obtain ⟨q4, e4, h⟩ := jj_be h
    refine jj_callVi [.int (-1000000001)] [] (c_mdf_errs (d + 0)  e4) jm_mdf_errs lk_8_68 (b := 60) rfl (by decide) (jj_E8 rfl) rfl rfl rfl (by omega) rfl (Nat.le_of_ble_eq_true rfl) dX8_feed_15 ?_
    exact jj_iret2 hF dX8_feed_18 (Option.some.inj h)
def mdf_text_B107 (N : Nat)  (μ : jj_M) : Option (Int32 × jj_M) := if ((jj_u μ 61 177 0) 60 13) = 0 then some ((1, jj_u μ 61 177 0)) else some (((-10) - ((jj_u μ 61 177 0) 60 7), jj_u μ 61 177 0))
set_option maxRecDepth 100000 in
theorem t_mdf_text_B107 {g : jj_G} (d : Nat) {N : Nat}  {μ : jj_M}  {r : Int32} {μ' : jj_M} {X : jj_X}   (hF : jj_F g (some .int) (some (.int r)) μ' X)  (h : mdf_text_B107 N μ = some (r, μ')) : jj_V g X RX8 cX8_text 4 (d + 53) 107 [(0, .ref (jj_ad g 60))] [] μ := by
  unfold mdf_text_B107 at h
  refine jj_aload_n dX8_text_107 0 rfl ?_
  refine jg_8_0 (k := 60) rfl lk_8_7 dX8_text_108 ?_
  show jj_V g X _ _ _ _ _ _ (.ref (jj_ad g 61) :: _) _
  refine jj_sipush (177) dX8_text_111 rfl ?_
  refine jj_iconst (0) dX8_text_114 rfl ?_
  refine jj_iastore (k := 61) (n := 351) rfl (show jj_i 177 351 by decide) dX8_text_115 ?_
  show jj_V g X _ _ _ _ _ _ _ (jj_u μ 61 177 0)
  refine jj_aload_n dX8_text_116 0 rfl ?_
  refine jg_8_13 (k := 60) rfl lk_8_128 dX8_text_117 ?_
  refine jj_if_eq 133 dX8_text_120 (by decide) (fun c1 => ?_) (fun c1 => ?_)
  · replace h := (if_pos c1).symm.trans h
    refine jj_iconst (1) dX8_text_133 rfl ?_
    exact jj_iret2 hF dX8_text_134 (Option.some.inj h)
  · replace h := (if_neg c1).symm.trans h
    refine jj_bipush (-10) dX8_text_123 rfl ?_
    refine jj_aload_n dX8_text_125 0 rfl ?_
    refine jg_8_7 (k := 60) rfl lk_8_121 dX8_text_126 ?_
    refine jj_isub dX8_text_129 ?_
    refine jj_goto 134 dX8_text_130 (by decide) ?_
    exact jj_iret2 hF dX8_text_134 (Option.some.inj h)
def mdf_text_L46 (N : Nat)  (x1 : Int32) : Nat → Int32 → jj_M → Option (Int32 × jj_M)
  | 0, _, _ => none
  | n + 1, x3, μ => if (μ 61 177) ≤ x3 then if jj_i (179 + x1) 351 then mdf_text_B107 N (jj_u μ 61 (179 + x1).toNatClampNeg (μ 61 177)) else none else if jj_i (181 + x3) 351 then if jj_i ((231 + (50 * x1)) + x3) 351 then (some (jj_u μ 61 ((231 + (50 * x1)) + x3).toNatClampNeg (μ 61 (181 + x3).toNatClampNeg))).bind fun m5 => mdf_text_L46 N x1 n (x3 + 1) m5 else none else none
set_option maxRecDepth 100000 in
theorem t_mdf_text_L46 {g : jj_G} (d : Nat) {N : Nat}  {x1 : Int32}  {r : Int32} {μ' : jj_M} {X : jj_X}   (hF : jj_F g (some .int) (some (.int r)) μ' X)  : ∀ (n : Nat) (x3 : Int32) (μ : jj_M), mdf_text_L46 N x1 n x3 μ = some (r, μ') → jj_V g X RX8 cX8_text 4 (d + 53) 46 [(0, .ref (jj_ad g 60)), (1, .int x1), (3, .int x3)] [] μ := by
  intro n
  induction n with
  | zero =>
    intro x3 μ h
    exact (jj_no h).elim
  | succ n ih =>
    intro x3 μ h
    rw [mdf_text_L46] at h
    refine jj_iload_n dX8_text_46 2 rfl ?_
    refine jj_aload_n dX8_text_47 0 rfl ?_
    refine jg_8_0 (k := 60) rfl lk_8_7 dX8_text_48 ?_
    show jj_V g X _ _ _ _ _ _ (.ref (jj_ad g 61) :: _) _
    refine jj_sipush (177) dX8_text_51 rfl ?_
    refine jj_iaload (k := 61) (n := 351) rfl (show jj_i 177 351 by decide) dX8_text_54 ?_
    show jj_V g X _ _ _ _ _ _ (.int (μ 61 177) :: _) _
    refine jj_icmp_ge 89 dX8_text_55 (by decide) (fun c1 => ?_) (fun c1 => ?_)
    · replace h := (if_pos c1).symm.trans h
      refine jj_aload_n dX8_text_89 0 rfl ?_
      refine jg_8_0 (k := 60) rfl lk_8_7 dX8_text_90 ?_
      show jj_V g X _ _ _ _ _ _ (.ref (jj_ad g 61) :: _) _
      refine jj_sipush (179) dX8_text_93 rfl ?_
      refine jj_iload_n dX8_text_96 1 rfl ?_
      refine jj_iadd dX8_text_97 ?_
      refine jj_aload_n dX8_text_98 0 rfl ?_
      refine jg_8_0 (k := 60) rfl lk_8_7 dX8_text_99 ?_
      show jj_V g X _ _ _ _ _ _ (.ref (jj_ad g 61) :: _) _
      refine jj_sipush (177) dX8_text_102 rfl ?_
      refine jj_iaload (k := 61) (n := 351) rfl (show jj_i 177 351 by decide) dX8_text_105 ?_
      show jj_V g X _ _ _ _ _ _ (.int (μ 61 177) :: _) _
      obtain ⟨g2, h⟩ := jj_ge h
      refine jj_iastore (k := 61) (n := 351) rfl g2 dX8_text_106 ?_
      refine jj_sub [0] rfl ?_
      exact t_mdf_text_B107 d   hF  h
    · replace h := (if_neg c1).symm.trans h
      refine jj_aload_n dX8_text_58 0 rfl ?_
      refine jg_8_0 (k := 60) rfl lk_8_7 dX8_text_59 ?_
      show jj_V g X _ _ _ _ _ _ (.ref (jj_ad g 61) :: _) _
      refine jj_sipush (231) dX8_text_62 rfl ?_
      refine jj_bipush (50) dX8_text_65 rfl ?_
      refine jj_iload_n dX8_text_67 1 rfl ?_
      refine jj_imul dX8_text_68 ?_
      refine jj_iadd dX8_text_69 ?_
      refine jj_iload_n dX8_text_70 2 rfl ?_
      refine jj_iadd dX8_text_71 ?_
      refine jj_aload_n dX8_text_72 0 rfl ?_
      refine jg_8_0 (k := 60) rfl lk_8_7 dX8_text_73 ?_
      show jj_V g X _ _ _ _ _ _ (.ref (jj_ad g 61) :: _) _
      refine jj_sipush (181) dX8_text_76 rfl ?_
      refine jj_iload_n dX8_text_79 2 rfl ?_
      refine jj_iadd dX8_text_80 ?_
      obtain ⟨g3, h⟩ := jj_ge h
      refine jj_iaload (k := 61) (n := 351) rfl g3 dX8_text_81 ?_
      obtain ⟨g4, h⟩ := jj_ge h
      refine jj_iastore (k := 61) (n := 351) rfl g4 dX8_text_82 ?_
      obtain ⟨m5, em5, h⟩ := jj_be h
      refine jj_mu em5 ?_
      refine jj_iinc (x3 + 1) [(3, .int (x3 + 1)), (0, .ref (jj_ad g 60)), (1, .int x1)] dX8_text_83 2 rfl rfl (by decide) rfl ?_
      refine jj_goto 46 dX8_text_86 (by decide) ?_
      refine jj_sub [1, 2, 0] rfl ?_
      exact ih _ _ h
def mdf_text (N : Nat) (x1 : Int32) (μ : jj_M) : Option (Int32 × jj_M) := if (mdf_in (Int32.toInt64 x1) 0 1) = 0 then (mdf_errs (-1000000001) μ).bind fun q4 => some ((q4.1, q4.2)) else (mdf_readsText N 181 (μ 61 177) x1 0 0 0 μ).bind fun q2 => if (q2.2 60 13) = 0 then mdf_text_L46 N x1 N 0 q2.2 else mdf_text_B107 N q2.2
set_option maxRecDepth 100000 in
theorem c_mdf_text {g : jj_G} (d : Nat) {N : Nat} {x1 : Int32} {μ : jj_M} {r : Int32} {μ' : jj_M}   (h : mdf_text N x1 μ = some (r, μ')) : jj_N g yX8_text cX8_text 4 (some .int) (d + 53) [.ref (jj_ad g 60), .int x1] μ (some (.int r)) μ' := by
  refine jj_N_of jn_8 (Nat.le_of_ble_eq_true rfl) (fun X hF => ?_)
  unfold mdf_text at h
  refine jj_sub (own := RX8) (lv2 := [(0, .ref (jj_ad g 60)), (1, .int x1)]) [0, 1] rfl ?_
  refine jj_iload_n dX8_text_0 1 rfl ?_
  refine jj_i2l dX8_text_1 ?_
  refine jj_lconst (0) dX8_text_2 rfl ?_
  refine jj_lconst (1) dX8_text_3 rfl ?_
  refine jj_callSi [.long (Int32.toInt64 x1), .long 0, .long 1] [] (c_mdf_in (d + 52)  rfl) jm_mdf_in lk_8_46 rfl (by omega) rfl (Nat.le_of_ble_eq_true rfl) dX8_text_4 ?_
  refine jj_if_ne 17 dX8_text_7 (by decide) (fun c1 => ?_) (fun c1 => ?_)
  · replace h := (if_neg c1).symm.trans h
    refine jj_aload_n dX8_text_17 0 rfl ?_
    refine jj_sipush (181) dX8_text_18 rfl ?_
    refine jj_aload_n dX8_text_21 0 rfl ?_
    refine jg_8_0 (k := 60) rfl lk_8_7 dX8_text_22 ?_
    show jj_V g X _ _ _ _ _ _ (.ref (jj_ad g 61) :: _) _
    refine jj_sipush (177) dX8_text_25 rfl ?_
    refine jj_iaload (k := 61) (n := 351) rfl (show jj_i 177 351 by decide) dX8_text_28 ?_
    show jj_V g X _ _ _ _ _ _ (.int (μ 61 177) :: _) _
    refine jj_iload_n dX8_text_29 1 rfl ?_
    refine jj_iconst (0) dX8_text_30 rfl ?_
    refine jj_iconst (0) dX8_text_31 rfl ?_
    refine jj_iconst (0) dX8_text_32 rfl ?_
    obtain ⟨q2, e2, h⟩ := jj_be h
    refine jj_callVi [.int 181, .int (μ 61 177), .int x1, .int 0, .int 0, .int 0] [] (c_mdf_readsText (d + 0)  e2) jm_mdf_readsText lk_8_185 (b := 60) rfl (by decide) (jj_E8 rfl) rfl rfl rfl (by omega) rfl (Nat.le_of_ble_eq_true rfl) dX8_text_33 ?_
    refine jj_istore_n [(2, .int q2.1), (0, .ref (jj_ad g 60)), (1, .int x1)] dX8_text_36 (by decide) rfl ?_
    refine jj_aload_n dX8_text_37 1 rfl ?_
    refine jg_8_13 (k := 60) rfl lk_8_128 dX8_text_38 ?_
    refine jj_if_ne 107 dX8_text_41 (by decide) (fun c3 => ?_) (fun c3 => ?_)
    · replace h := (if_neg c3).symm.trans h
      refine jj_sub [1] rfl ?_
      exact t_mdf_text_B107 d   hF  h
    · replace h := (if_pos c3).symm.trans h
      refine jj_iconst (0) dX8_text_44 rfl ?_
      refine jj_istore_n [(3, .int 0), (2, .int q2.1), (0, .ref (jj_ad g 60)), (1, .int x1)] dX8_text_45 (by decide) rfl ?_
      refine jj_sub [2, 3, 0] rfl ?_
      exact t_mdf_text_L46 d   hF  _ _ _ h
  · replace h := (if_pos c1).symm.trans h
    refine jj_aload_n dX8_text_10 0 rfl ?_
    refine jj_ldc (-1000000001) lk_8_67 dX8_text_11 ?_
    obtain ⟨q4, e4, h⟩ := jj_be h
    refine jj_callVi [.int (-1000000001)] [] (c_mdf_errs (d + 52)  e4) jm_mdf_errs lk_8_68 (b := 60) rfl (by decide) (jj_E8 rfl) rfl rfl rfl (by omega) rfl (Nat.le_of_ble_eq_true rfl) dX8_text_13 ?_
    exact jj_iret2 hF dX8_text_16 (Option.some.inj h)
def mdf_parched (N : Nat) (x1 : Int32) (x2 : Int32) (x3 : Int32) (μ : jj_M) : Option (Int32 × jj_M) := if 0 ≤ (μ 61 180) then (mdf_worked N 1 x1 x2 x3 μ).bind fun q2 => some ((mdf_held q2.1 0 99, q2.2)) else some ((mdf_held x1 0 99, μ))
set_option maxRecDepth 100000 in
theorem c_mdf_parched {g : jj_G} (d : Nat) {N : Nat} {x1 : Int32} {x2 : Int32} {x3 : Int32} {μ : jj_M} {r : Int32} {μ' : jj_M}   (h : mdf_parched N x1 x2 x3 μ = some (r, μ')) : jj_N g yX8_parched cX8_parched 4 (some .int) (d + 54) [.ref (jj_ad g 60), .int x1, .int x2, .int x3] μ (some (.int r)) μ' := by
  refine jj_N_of jn_8 (Nat.le_of_ble_eq_true rfl) (fun X hF => ?_)
  unfold mdf_parched at h
  refine jj_sub (own := RX8) (lv2 := [(0, .ref (jj_ad g 60)), (1, .int x1), (2, .int x2), (3, .int x3)]) [0, 1, 2, 3] rfl ?_
  refine jj_aload_n dX8_parched_0 0 rfl ?_
  refine jg_8_0 (k := 60) rfl lk_8_7 dX8_parched_1 ?_
  show jj_V g X _ _ _ _ _ _ (.ref (jj_ad g 61) :: _) _
  refine jj_sipush (180) dX8_parched_4 rfl ?_
  refine jj_iaload (k := 61) (n := 351) rfl (show jj_i 180 351 by decide) dX8_parched_7 ?_
  show jj_V g X _ _ _ _ _ _ (.int (μ 61 180) :: _) _
  refine jj_if_ge 15 dX8_parched_8 (by decide) (fun c1 => ?_) (fun c1 => ?_)
  · replace h := (if_pos c1).symm.trans h
    refine jj_aload_n dX8_parched_15 0 rfl ?_
    refine jj_iconst (1) dX8_parched_16 rfl ?_
    refine jj_iload_n dX8_parched_17 1 rfl ?_
    refine jj_iload_n dX8_parched_18 2 rfl ?_
    refine jj_iload_n dX8_parched_19 3 rfl ?_
    obtain ⟨q2, e2, h⟩ := jj_be h
    refine jj_callVi [.int 1, .int x1, .int x2, .int x3] [] (c_mdf_worked (d + 0)  e2) jm_mdf_worked lk_8_189 (b := 60) rfl (by decide) (jj_E8 rfl) rfl rfl rfl (by omega) rfl (Nat.le_of_ble_eq_true rfl) dX8_parched_20 ?_
    refine jj_iconst (0) dX8_parched_23 rfl ?_
    refine jj_bipush (99) dX8_parched_24 rfl ?_
    refine jj_callSi [.int q2.1, .int 0, .int 99] [] (c_mdf_held (d + 53)  rfl) jm_mdf_held lk_8_193 rfl (by omega) rfl (Nat.le_of_ble_eq_true rfl) dX8_parched_26 ?_
    exact jj_iret2 hF dX8_parched_29 (Option.some.inj h)
  · replace h := (if_neg c1).symm.trans h
    refine jj_iload_n dX8_parched_11 1 rfl ?_
    refine jj_goto 23 dX8_parched_12 (by decide) ?_
    refine jj_iconst (0) dX8_parched_23 rfl ?_
    refine jj_bipush (99) dX8_parched_24 rfl ?_
    refine jj_callSi [.int x1, .int 0, .int 99] [] (c_mdf_held (d + 53)  rfl) jm_mdf_held lk_8_193 rfl (by omega) rfl (Nat.le_of_ble_eq_true rfl) dX8_parched_26 ?_
    exact jj_iret2 hF dX8_parched_29 (Option.some.inj h)
def mdf_law (N : Nat) (x1 : Int32) (x2 : Int32) (x3 : Int32) (x4 : Int32) (μ : jj_M) : Option (Int32 × jj_M) := if (mdf_in (Int32.toInt64 x1) 0 1) = 0 then (mdf_errs (-1000000001) μ).bind fun q5 => some ((q5.1, q5.2)) else if x1 = 0 then (mdf_needed N x2 x3 x4 μ).bind fun q4 => some ((q4.1, q4.2)) else (mdf_parched N x2 x3 x4 μ).bind fun q3 => some ((q3.1, q3.2))
set_option maxRecDepth 100000 in
theorem c_mdf_law {g : jj_G} (d : Nat) {N : Nat} {x1 : Int32} {x2 : Int32} {x3 : Int32} {x4 : Int32} {μ : jj_M} {r : Int32} {μ' : jj_M}   (h : mdf_law N x1 x2 x3 x4 μ = some (r, μ')) : jj_N g yX8_law cX8_law 5 (some .int) (d + 55) [.ref (jj_ad g 60), .int x1, .int x2, .int x3, .int x4] μ (some (.int r)) μ' := by
  refine jj_N_of jn_8 (Nat.le_of_ble_eq_true rfl) (fun X hF => ?_)
  unfold mdf_law at h
  refine jj_sub (own := RX8) (lv2 := [(0, .ref (jj_ad g 60)), (1, .int x1), (2, .int x2), (3, .int x3), (4, .int x4)]) [0, 1, 2, 3, 4] rfl ?_
  refine jj_iload_n dX8_law_0 1 rfl ?_
  refine jj_i2l dX8_law_1 ?_
  refine jj_lconst (0) dX8_law_2 rfl ?_
  refine jj_lconst (1) dX8_law_3 rfl ?_
  refine jj_callSi [.long (Int32.toInt64 x1), .long 0, .long 1] [] (c_mdf_in (d + 54)  rfl) jm_mdf_in lk_8_46 rfl (by omega) rfl (Nat.le_of_ble_eq_true rfl) dX8_law_4 ?_
  refine jj_if_ne 17 dX8_law_7 (by decide) (fun c1 => ?_) (fun c1 => ?_)
  · replace h := (if_neg c1).symm.trans h
    refine jj_iload_n dX8_law_17 1 rfl ?_
    refine jj_if_ne 32 dX8_law_18 (by decide) (fun c2 => ?_) (fun c2 => ?_)
    · replace h := (if_neg c2).symm.trans h
      refine jj_aload_n dX8_law_32 0 rfl ?_
      refine jj_iload_n dX8_law_33 2 rfl ?_
      refine jj_iload_n dX8_law_34 3 rfl ?_
      refine jj_iload dX8_law_35 4 rfl ?_
      obtain ⟨q3, e3, h⟩ := jj_be h
      refine jj_callVi [.int x2, .int x3, .int x4] [] (c_mdf_parched (d + 0)  e3) jm_mdf_parched lk_8_196 (b := 60) rfl (by decide) (jj_E8 rfl) rfl rfl rfl (by omega) rfl (Nat.le_of_ble_eq_true rfl) dX8_law_37 ?_
      exact jj_iret2 hF dX8_law_40 (Option.some.inj h)
    · replace h := (if_pos c2).symm.trans h
      refine jj_aload_n dX8_law_21 0 rfl ?_
      refine jj_iload_n dX8_law_22 2 rfl ?_
      refine jj_iload_n dX8_law_23 3 rfl ?_
      refine jj_iload dX8_law_24 4 rfl ?_
      obtain ⟨q4, e4, h⟩ := jj_be h
      refine jj_callVi [.int x2, .int x3, .int x4] [] (c_mdf_needed (d + 0)  e4) jm_mdf_needed lk_8_99 (b := 60) rfl (by decide) (jj_E8 rfl) rfl rfl rfl (by omega) rfl (Nat.le_of_ble_eq_true rfl) dX8_law_26 ?_
      refine jj_goto 40 dX8_law_29 (by decide) ?_
      exact jj_iret2 hF dX8_law_40 (Option.some.inj h)
  · replace h := (if_pos c1).symm.trans h
    refine jj_aload_n dX8_law_10 0 rfl ?_
    refine jj_ldc (-1000000001) lk_8_67 dX8_law_11 ?_
    obtain ⟨q5, e5, h⟩ := jj_be h
    refine jj_callVi [.int (-1000000001)] [] (c_mdf_errs (d + 54)  e5) jm_mdf_errs lk_8_68 (b := 60) rfl (by decide) (jj_E8 rfl) rfl rfl rfl (by omega) rfl (Nat.le_of_ble_eq_true rfl) dX8_law_13 ?_
    exact jj_iret2 hF dX8_law_16 (Option.some.inj h)
def mdf_drink (N : Nat) (x1 : Int32) (μ : jj_M) : Option (Int32 × jj_M) := if (mdf_isPerson x1 μ) = 0 then (mdf_errs (-1000000001) μ).bind fun q19 => some ((q19.1, q19.2)) else (mdf_its x1 2 μ).bind fun q2 => (mdf_its x1 4 μ).bind fun q3 => (mdf_needsOf N x1 q3 μ).bind fun q4 => (mdf_its x1 5 q4.2).bind fun q5 => if q5 = 1 then (mdf_errs (-1000000003) q4.2).bind fun q7 => some ((q7.1, q7.2)) else if jj_i (0 + q2) 351 then if q4.1 ≤ (q4.2 61 (0 + q2).toNatClampNeg) then if jj_i (0 + q2) 351 then if jj_i (0 + q2) 351 then (some (jj_u q4.2 61 (0 + q2).toNatClampNeg ((q4.2 61 (0 + q2).toNatClampNeg) - q4.1))).bind fun m12 => if jj_i (mdf_spot x1 4) 351 then (mdf_calledOf x1 q2 (jj_u m12 61 (mdf_spot x1 4).toNatClampNeg 0)).bind fun q14 => if jj_i (mdf_spot x1 3) 351 then (some (jj_u (jj_u m12 61 (mdf_spot x1 4).toNatClampNeg 0) 61 (mdf_spot x1 3).toNatClampNeg q14)).bind fun m16 => (mdf_its x1 3 m16).bind fun q17 => some ((q17, m16)) else none else none else none else none else (mdf_errs (-1000000003) q4.2).bind fun q18 => some ((q18.1, q18.2)) else none
set_option maxRecDepth 100000 in
theorem c_mdf_drink {g : jj_G} (d : Nat) {N : Nat} {x1 : Int32} {μ : jj_M} {r : Int32} {μ' : jj_M}   (h : mdf_drink N x1 μ = some (r, μ')) : jj_N g yX8_drink cX8_drink 4 (some .int) (d + 56) [.ref (jj_ad g 60), .int x1] μ (some (.int r)) μ' := by
  refine jj_N_of jn_8 (Nat.le_of_ble_eq_true rfl) (fun X hF => ?_)
  unfold mdf_drink at h
  refine jj_sub (own := RX8) (lv2 := [(0, .ref (jj_ad g 60)), (1, .int x1)]) [0, 1] rfl ?_
  refine jj_aload_n dX8_drink_0 0 rfl ?_
  refine jj_iload_n dX8_drink_1 1 rfl ?_
  refine jj_callVi [.int x1] [] (c_mdf_isPerson (d + 54)  rfl) jm_mdf_isPerson lk_8_103 (b := 60) rfl (by decide) (jj_E8 rfl) rfl rfl rfl (by omega) rfl (Nat.le_of_ble_eq_true rfl) dX8_drink_2 ?_
  refine jj_if_ne 15 dX8_drink_5 (by decide) (fun c1 => ?_) (fun c1 => ?_)
  · replace h := (if_neg c1).symm.trans h
    refine jj_aload_n dX8_drink_15 0 rfl ?_
    refine jj_iload_n dX8_drink_16 1 rfl ?_
    refine jj_iconst (2) dX8_drink_17 rfl ?_
    obtain ⟨q2, e2, h⟩ := jj_be h
    refine jj_callVi [.int x1, .int 2] [] (c_mdf_its (d + 54)  e2) jm_mdf_its lk_8_79 (b := 60) rfl (by decide) (jj_E8 rfl) rfl rfl rfl (by omega) rfl (Nat.le_of_ble_eq_true rfl) dX8_drink_18 ?_
    refine jj_istore_n [(2, .int q2), (0, .ref (jj_ad g 60)), (1, .int x1)] dX8_drink_21 (by decide) rfl ?_
    refine jj_aload_n dX8_drink_22 1 rfl ?_
    refine jj_iload_n dX8_drink_23 2 rfl ?_
    refine jj_aload_n dX8_drink_24 1 rfl ?_
    refine jj_iload_n dX8_drink_25 2 rfl ?_
    refine jj_iconst (4) dX8_drink_26 rfl ?_
    obtain ⟨q3, e3, h⟩ := jj_be h
    refine jj_callVi [.int x1, .int 4] [.int x1, .ref (jj_ad g 60)] (c_mdf_its (d + 54)  e3) jm_mdf_its lk_8_79 (b := 60) rfl (by decide) (jj_E8 rfl) rfl rfl rfl (by omega) rfl (Nat.le_of_ble_eq_true rfl) dX8_drink_27 ?_
    obtain ⟨q4, e4, h⟩ := jj_be h
    refine jj_callVi [.int x1, .int q3] [] (c_mdf_needsOf (d + 0)  e4) jm_mdf_needsOf lk_8_111 (b := 60) rfl (by decide) (jj_E8 rfl) rfl rfl rfl (by omega) rfl (Nat.le_of_ble_eq_true rfl) dX8_drink_30 ?_
    refine jj_istore_n [(3, .int q4.1), (2, .int q2), (0, .ref (jj_ad g 60)), (1, .int x1)] dX8_drink_33 (by decide) rfl ?_
    refine jj_aload_n dX8_drink_34 2 rfl ?_
    refine jj_iload_n dX8_drink_35 3 rfl ?_
    refine jj_iconst (5) dX8_drink_36 rfl ?_
    obtain ⟨q5, e5, h⟩ := jj_be h
    refine jj_callVi [.int x1, .int 5] [] (c_mdf_its (d + 54)  e5) jm_mdf_its lk_8_79 (b := 60) rfl (by decide) (jj_E8 rfl) rfl rfl rfl (by omega) rfl (Nat.le_of_ble_eq_true rfl) dX8_drink_37 ?_
    refine jj_iconst (1) dX8_drink_40 rfl ?_
    refine jj_icmp_eq 56 dX8_drink_41 (by decide) (fun c6 => ?_) (fun c6 => ?_)
    · replace h := (if_pos c6).symm.trans h
      refine jj_aload_n dX8_drink_56 2 rfl ?_
      refine jj_ldc (-1000000003) lk_8_199 dX8_drink_57 ?_
      obtain ⟨q7, e7, h⟩ := jj_be h
      refine jj_callVi [.int (-1000000003)] [] (c_mdf_errs (d + 55)  e7) jm_mdf_errs lk_8_68 (b := 60) rfl (by decide) (jj_E8 rfl) rfl rfl rfl (by omega) rfl (Nat.le_of_ble_eq_true rfl) dX8_drink_59 ?_
      exact jj_iret2 hF dX8_drink_62 (Option.some.inj h)
    · replace h := (if_neg c6).symm.trans h
      refine jj_aload_n dX8_drink_44 2 rfl ?_
      refine jg_8_0 (k := 60) rfl lk_8_7 dX8_drink_45 ?_
      show jj_V g X _ _ _ _ _ _ (.ref (jj_ad g 61) :: _) _
      refine jj_iconst (0) dX8_drink_48 rfl ?_
      refine jj_iload_n dX8_drink_49 1 rfl ?_
      refine jj_iadd dX8_drink_50 ?_
      obtain ⟨g8, h⟩ := jj_ge h
      refine jj_iaload (k := 61) (n := 351) rfl g8 dX8_drink_51 ?_
      refine jj_iload_n dX8_drink_52 0 rfl ?_
      refine jj_icmp_ge 63 dX8_drink_53 (by decide) (fun c9 => ?_) (fun c9 => ?_)
      · replace h := (if_pos c9).symm.trans h
        refine jj_aload_n dX8_drink_63 2 rfl ?_
        refine jg_8_0 (k := 60) rfl lk_8_7 dX8_drink_64 ?_
        show jj_V g X _ _ _ _ _ _ (.ref (jj_ad g 61) :: _) _
        refine jj_iconst (0) dX8_drink_67 rfl ?_
        refine jj_iload_n dX8_drink_68 1 rfl ?_
        refine jj_iadd dX8_drink_69 ?_
        refine jj_dup2 dX8_drink_70 rfl rfl ?_
        obtain ⟨g10, h⟩ := jj_ge h
        refine jj_iaload (k := 61) (n := 351) rfl g10 dX8_drink_71 ?_
        refine jj_iload_n dX8_drink_72 0 rfl ?_
        refine jj_isub dX8_drink_73 ?_
        obtain ⟨g11, h⟩ := jj_ge h
        refine jj_iastore (k := 61) (n := 351) rfl g11 dX8_drink_74 ?_
        obtain ⟨m12, em12, h⟩ := jj_be h
        refine jj_mu em12 ?_
        refine jj_aload_n dX8_drink_75 2 rfl ?_
        refine jg_8_0 (k := 60) rfl lk_8_7 dX8_drink_76 ?_
        show jj_V g X _ _ _ _ _ _ (.ref (jj_ad g 61) :: _) _
        refine jj_iload_n dX8_drink_79 3 rfl ?_
        refine jj_iconst (4) dX8_drink_80 rfl ?_
        refine jj_callSi [.int x1, .int 4] [.ref (jj_ad g 61)] (c_mdf_spot (d + 55)  rfl) jm_mdf_spot lk_8_54 rfl (by omega) rfl (Nat.le_of_ble_eq_true rfl) dX8_drink_81 ?_
        refine jj_iconst (0) dX8_drink_84 rfl ?_
        obtain ⟨g13, h⟩ := jj_ge h
        refine jj_iastore (k := 61) (n := 351) rfl g13 dX8_drink_85 ?_
        refine jj_aload_n dX8_drink_86 2 rfl ?_
        refine jg_8_0 (k := 60) rfl lk_8_7 dX8_drink_87 ?_
        show jj_V g X _ _ _ _ _ _ (.ref (jj_ad g 61) :: _) _
        refine jj_iload_n dX8_drink_90 3 rfl ?_
        refine jj_iconst (3) dX8_drink_91 rfl ?_
        refine jj_callSi [.int x1, .int 3] [.ref (jj_ad g 61)] (c_mdf_spot (d + 55)  rfl) jm_mdf_spot lk_8_54 rfl (by omega) rfl (Nat.le_of_ble_eq_true rfl) dX8_drink_92 ?_
        refine jj_aload_n dX8_drink_95 2 rfl ?_
        refine jj_iload_n dX8_drink_96 3 rfl ?_
        refine jj_iload_n dX8_drink_97 1 rfl ?_
        obtain ⟨q14, e14, h⟩ := jj_be h
        refine jj_callVi [.int x1, .int q2] [.int (mdf_spot x1 3), .ref (jj_ad g 61)] (c_mdf_calledOf (d + 53)  e14) jm_mdf_calledOf lk_8_200 (b := 60) rfl (by decide) (jj_E8 rfl) rfl rfl rfl (by omega) rfl (Nat.le_of_ble_eq_true rfl) dX8_drink_98 ?_
        obtain ⟨g15, h⟩ := jj_ge h
        refine jj_iastore (k := 61) (n := 351) rfl g15 dX8_drink_101 ?_
        obtain ⟨m16, em16, h⟩ := jj_be h
        refine jj_mu em16 ?_
        refine jj_aload_n dX8_drink_102 2 rfl ?_
        refine jj_iload_n dX8_drink_103 3 rfl ?_
        refine jj_iconst (3) dX8_drink_104 rfl ?_
        obtain ⟨q17, e17, h⟩ := jj_be h
        refine jj_callVi [.int x1, .int 3] [] (c_mdf_its (d + 54)  e17) jm_mdf_its lk_8_79 (b := 60) rfl (by decide) (jj_E8 rfl) rfl rfl rfl (by omega) rfl (Nat.le_of_ble_eq_true rfl) dX8_drink_105 ?_
        exact jj_iret2 hF dX8_drink_108 (Option.some.inj h)
      · replace h := (if_neg c9).symm.trans h
        refine jj_aload_n dX8_drink_56 2 rfl ?_
        refine jj_ldc (-1000000003) lk_8_199 dX8_drink_57 ?_
        obtain ⟨q18, e18, h⟩ := jj_be h
        refine jj_callVi [.int (-1000000003)] [] (c_mdf_errs (d + 55)  e18) jm_mdf_errs lk_8_68 (b := 60) rfl (by decide) (jj_E8 rfl) rfl rfl rfl (by omega) rfl (Nat.le_of_ble_eq_true rfl) dX8_drink_59 ?_
        exact jj_iret2 hF dX8_drink_62 (Option.some.inj h)
  · replace h := (if_pos c1).symm.trans h
    refine jj_aload_n dX8_drink_8 0 rfl ?_
    refine jj_ldc (-1000000001) lk_8_67 dX8_drink_9 ?_
    obtain ⟨q19, e19, h⟩ := jj_be h
    refine jj_callVi [.int (-1000000001)] [] (c_mdf_errs (d + 55)  e19) jm_mdf_errs lk_8_68 (b := 60) rfl (by decide) (jj_E8 rfl) rfl rfl rfl (by omega) rfl (Nat.le_of_ble_eq_true rfl) dX8_drink_11 ?_
    exact jj_iret2 hF dX8_drink_14 (Option.some.inj h)
def mdf_thirstBy (N : Nat) (x1 : Int32) (x2 : Int32) (μ : jj_M) : Option (Int32 × jj_M) := (mdf_its x1 1 μ).bind fun q1 => (mdf_parched N x2 q1 (μ 61 138) μ).bind fun q2 => some ((q2.1, q2.2))
set_option maxRecDepth 100000 in
theorem c_mdf_thirstBy {g : jj_G} (d : Nat) {N : Nat} {x1 : Int32} {x2 : Int32} {μ : jj_M} {r : Int32} {μ' : jj_M}   (h : mdf_thirstBy N x1 x2 μ = some (r, μ')) : jj_N g yX8_thirstBy cX8_thirstBy 3 (some .int) (d + 55) [.ref (jj_ad g 60), .int x1, .int x2] μ (some (.int r)) μ' := by
  refine jj_N_of jn_8 (Nat.le_of_ble_eq_true rfl) (fun X hF => ?_)
  unfold mdf_thirstBy at h
  refine jj_sub (own := RX8) (lv2 := [(0, .ref (jj_ad g 60)), (1, .int x1), (2, .int x2)]) [0, 1, 2] rfl ?_
  refine jj_aload_n dX8_thirstBy_0 0 rfl ?_
  refine jj_iload_n dX8_thirstBy_1 2 rfl ?_
  refine jj_aload_n dX8_thirstBy_2 0 rfl ?_
  refine jj_iload_n dX8_thirstBy_3 1 rfl ?_
  refine jj_iconst (1) dX8_thirstBy_4 rfl ?_
  obtain ⟨q1, e1, h⟩ := jj_be h
  refine jj_callVi [.int x1, .int 1] [.int x2, .ref (jj_ad g 60)] (c_mdf_its (d + 53)  e1) jm_mdf_its lk_8_79 (b := 60) rfl (by decide) (jj_E8 rfl) rfl rfl rfl (by omega) rfl (Nat.le_of_ble_eq_true rfl) dX8_thirstBy_5 ?_
  refine jj_aload_n dX8_thirstBy_8 0 rfl ?_
  refine jg_8_0 (k := 60) rfl lk_8_7 dX8_thirstBy_9 ?_
  show jj_V g X _ _ _ _ _ _ (.ref (jj_ad g 61) :: _) _
  refine jj_sipush (138) dX8_thirstBy_12 rfl ?_
  refine jj_iaload (k := 61) (n := 351) rfl (show jj_i 138 351 by decide) dX8_thirstBy_15 ?_
  show jj_V g X _ _ _ _ _ _ (.int (μ 61 138) :: _) _
  obtain ⟨q2, e2, h⟩ := jj_be h
  refine jj_callVi [.int x2, .int q1, .int (μ 61 138)] [] (c_mdf_parched (d + 0)  e2) jm_mdf_parched lk_8_196 (b := 60) rfl (by decide) (jj_E8 rfl) rfl rfl rfl (by omega) rfl (Nat.le_of_ble_eq_true rfl) dX8_thirstBy_16 ?_
  exact jj_iret2 hF dX8_thirstBy_19 (Option.some.inj h)
def mdf_dies  (x1 : Int32) (μ : jj_M) : Option (jj_M) := (mdf_its x1 4 μ).bind fun q1 => (mdf_limitOf x1 μ).bind fun q2 => if q1 ≤ q2 then (mdf_its x1 5 μ).bind fun q4 => if jj_i (mdf_spot x1 5) 351 then some (jj_u μ 61 (mdf_spot x1 5).toNatClampNeg q4) else none else if jj_i (mdf_spot x1 5) 351 then some (jj_u μ 61 (mdf_spot x1 5).toNatClampNeg 1) else none
set_option maxRecDepth 100000 in
theorem c_mdf_dies {g : jj_G} (d : Nat)  {x1 : Int32} {μ : jj_M} {μ' : jj_M}   (h : mdf_dies x1 μ = some μ') : jj_N g yX8_dies cX8_dies 2 none (d + 3) [.ref (jj_ad g 60), .int x1] μ none μ' := by
  refine jj_N_of jn_8 (Nat.le_of_ble_eq_true rfl) (fun X hF => ?_)
  unfold mdf_dies at h
  refine jj_sub (own := RX8) (lv2 := [(0, .ref (jj_ad g 60)), (1, .int x1)]) [0, 1] rfl ?_
  refine jj_aload_n dX8_dies_0 0 rfl ?_
  refine jg_8_0 (k := 60) rfl lk_8_7 dX8_dies_1 ?_
  show jj_V g X _ _ _ _ _ _ (.ref (jj_ad g 61) :: _) _
  refine jj_iload_n dX8_dies_4 1 rfl ?_
  refine jj_iconst (5) dX8_dies_5 rfl ?_
  refine jj_callSi [.int x1, .int 5] [.ref (jj_ad g 61)] (c_mdf_spot (d + 2)  rfl) jm_mdf_spot lk_8_54 rfl (by omega) rfl (Nat.le_of_ble_eq_true rfl) dX8_dies_6 ?_
  refine jj_aload_n dX8_dies_9 0 rfl ?_
  refine jj_iload_n dX8_dies_10 1 rfl ?_
  refine jj_iconst (4) dX8_dies_11 rfl ?_
  obtain ⟨q1, e1, h⟩ := jj_be h
  refine jj_callVi [.int x1, .int 4] [.int (mdf_spot x1 5), .ref (jj_ad g 61)] (c_mdf_its (d + 1)  e1) jm_mdf_its lk_8_79 (b := 60) rfl (by decide) (jj_E8 rfl) rfl rfl rfl (by omega) rfl (Nat.le_of_ble_eq_true rfl) dX8_dies_12 ?_
  refine jj_aload_n dX8_dies_15 0 rfl ?_
  refine jj_iload_n dX8_dies_16 1 rfl ?_
  obtain ⟨q2, e2, h⟩ := jj_be h
  refine jj_callVi [.int x1] [.int q1, .int (mdf_spot x1 5), .ref (jj_ad g 61)] (c_mdf_limitOf (d + 0)  e2) jm_mdf_limitOf lk_8_108 (b := 60) rfl (by decide) (jj_E8 rfl) rfl rfl rfl (by omega) rfl (Nat.le_of_ble_eq_true rfl) dX8_dies_17 ?_
  refine jj_icmp_le 27 dX8_dies_20 (by decide) (fun c3 => ?_) (fun c3 => ?_)
  · replace h := (if_pos c3).symm.trans h
    refine jj_aload_n dX8_dies_27 0 rfl ?_
    refine jj_iload_n dX8_dies_28 1 rfl ?_
    refine jj_iconst (5) dX8_dies_29 rfl ?_
    obtain ⟨q4, e4, h⟩ := jj_be h
    refine jj_callVi [.int x1, .int 5] [.int (mdf_spot x1 5), .ref (jj_ad g 61)] (c_mdf_its (d + 1)  e4) jm_mdf_its lk_8_79 (b := 60) rfl (by decide) (jj_E8 rfl) rfl rfl rfl (by omega) rfl (Nat.le_of_ble_eq_true rfl) dX8_dies_30 ?_
    obtain ⟨g5, h⟩ := jj_ge h
    refine jj_iastore (k := 61) (n := 351) rfl g5 dX8_dies_33 ?_
    exact jj_vret1 hF dX8_dies_34 (Option.some.inj h)
  · replace h := (if_neg c3).symm.trans h
    refine jj_iconst (1) dX8_dies_23 rfl ?_
    refine jj_goto 33 dX8_dies_24 (by decide) ?_
    obtain ⟨g6, h⟩ := jj_ge h
    refine jj_iastore (k := 61) (n := 351) rfl g6 dX8_dies_33 ?_
    exact jj_vret1 hF dX8_dies_34 (Option.some.inj h)
def mdf_go (N : Nat) (x1 : Int32) (x2 : Int32) (μ : jj_M) : Option (Int32 × jj_M) := if (mdf_isPerson x1 μ) = 0 then (mdf_errs (-1000000001) μ).bind fun q2 => some ((q2.1, q2.2)) else if (mdf_isWell x2) = 0 then (mdf_errs (-1000000001) μ).bind fun q4 => some ((q4.1, q4.2)) else (mdf_its x1 2 μ).bind fun q5 => if x2 = q5 then (mdf_errs (-1000000001) μ).bind fun q24 => some ((q24.1, q24.2)) else (mdf_its x1 2 μ).bind fun q7 => (mdf_roadOf q7 x2 μ).bind fun q8 => (mdf_its x1 5 μ).bind fun q9 => if q9 = 1 then (mdf_errs (-1000000003) μ).bind fun q11 => some ((q11.1, q11.2)) else if q8 = 0 then (mdf_errs (-1000000003) μ).bind fun q13 => some ((q13.1, q13.2)) else if ((μ 61 137) + q8) ≤ 99999 then if jj_i (mdf_spot x1 4) 351 then (mdf_thirstBy N x1 q8 μ).bind fun q16 => if jj_i (mdf_spot x1 4) 351 then (some (jj_u q16.2 61 (mdf_spot x1 4).toNatClampNeg ((μ 61 (mdf_spot x1 4).toNatClampNeg) + q16.1))).bind fun m18 => if jj_i (mdf_spot x1 2) 351 then (some (jj_u (jj_u m18 61 (mdf_spot x1 2).toNatClampNeg x2) 61 137 (((jj_u m18 61 (mdf_spot x1 2).toNatClampNeg x2) 61 137) + q8))).bind fun m20 => (mdf_dies x1 m20).bind fun q21 => (mdf_its x1 4 q21).bind fun q22 => some ((q22, q21)) else none else none else none else (mdf_errs (-1000000003) μ).bind fun q23 => some ((q23.1, q23.2))
set_option maxRecDepth 100000 in
theorem c_mdf_go {g : jj_G} (d : Nat) {N : Nat} {x1 : Int32} {x2 : Int32} {μ : jj_M} {r : Int32} {μ' : jj_M}   (h : mdf_go N x1 x2 μ = some (r, μ')) : jj_N g yX8_go cX8_go 4 (some .int) (d + 56) [.ref (jj_ad g 60), .int x1, .int x2] μ (some (.int r)) μ' := by
  refine jj_N_of jn_8 (Nat.le_of_ble_eq_true rfl) (fun X hF => ?_)
  unfold mdf_go at h
  refine jj_sub (own := RX8) (lv2 := [(0, .ref (jj_ad g 60)), (1, .int x1), (2, .int x2)]) [0, 1, 2] rfl ?_
  refine jj_aload_n dX8_go_0 0 rfl ?_
  refine jj_iload_n dX8_go_1 1 rfl ?_
  refine jj_callVi [.int x1] [] (c_mdf_isPerson (d + 54)  rfl) jm_mdf_isPerson lk_8_103 (b := 60) rfl (by decide) (jj_E8 rfl) rfl rfl rfl (by omega) rfl (Nat.le_of_ble_eq_true rfl) dX8_go_2 ?_
  refine jj_if_eq 25 dX8_go_5 (by decide) (fun c1 => ?_) (fun c1 => ?_)
  · replace h := (if_pos c1).symm.trans h
    refine jj_aload_n dX8_go_25 0 rfl ?_
    refine jj_ldc (-1000000001) lk_8_67 dX8_go_26 ?_
    obtain ⟨q2, e2, h⟩ := jj_be h
    refine jj_callVi [.int (-1000000001)] [] (c_mdf_errs (d + 55)  e2) jm_mdf_errs lk_8_68 (b := 60) rfl (by decide) (jj_E8 rfl) rfl rfl rfl (by omega) rfl (Nat.le_of_ble_eq_true rfl) dX8_go_28 ?_
    exact jj_iret2 hF dX8_go_31 (Option.some.inj h)
  · replace h := (if_neg c1).symm.trans h
    refine jj_iload_n dX8_go_8 2 rfl ?_
    refine jj_callSi [.int x2] [] (c_mdf_isWell (d + 54)  rfl) jm_mdf_isWell lk_8_58 rfl (by omega) rfl (Nat.le_of_ble_eq_true rfl) dX8_go_9 ?_
    refine jj_if_eq 25 dX8_go_12 (by decide) (fun c3 => ?_) (fun c3 => ?_)
    · replace h := (if_pos c3).symm.trans h
      refine jj_aload_n dX8_go_25 0 rfl ?_
      refine jj_ldc (-1000000001) lk_8_67 dX8_go_26 ?_
      obtain ⟨q4, e4, h⟩ := jj_be h
      refine jj_callVi [.int (-1000000001)] [] (c_mdf_errs (d + 55)  e4) jm_mdf_errs lk_8_68 (b := 60) rfl (by decide) (jj_E8 rfl) rfl rfl rfl (by omega) rfl (Nat.le_of_ble_eq_true rfl) dX8_go_28 ?_
      exact jj_iret2 hF dX8_go_31 (Option.some.inj h)
    · replace h := (if_neg c3).symm.trans h
      refine jj_iload_n dX8_go_15 2 rfl ?_
      refine jj_aload_n dX8_go_16 0 rfl ?_
      refine jj_iload_n dX8_go_17 1 rfl ?_
      refine jj_iconst (2) dX8_go_18 rfl ?_
      obtain ⟨q5, e5, h⟩ := jj_be h
      refine jj_callVi [.int x1, .int 2] [.int x2] (c_mdf_its (d + 54)  e5) jm_mdf_its lk_8_79 (b := 60) rfl (by decide) (jj_E8 rfl) rfl rfl rfl (by omega) rfl (Nat.le_of_ble_eq_true rfl) dX8_go_19 ?_
      refine jj_icmp_ne 32 dX8_go_22 (by decide) (fun c6 => ?_) (fun c6 => ?_)
      · replace h := (if_neg c6).symm.trans h
        refine jj_aload_n dX8_go_32 0 rfl ?_
        refine jj_aload_n dX8_go_33 0 rfl ?_
        refine jj_iload_n dX8_go_34 1 rfl ?_
        refine jj_iconst (2) dX8_go_35 rfl ?_
        obtain ⟨q7, e7, h⟩ := jj_be h
        refine jj_callVi [.int x1, .int 2] [.ref (jj_ad g 60)] (c_mdf_its (d + 54)  e7) jm_mdf_its lk_8_79 (b := 60) rfl (by decide) (jj_E8 rfl) rfl rfl rfl (by omega) rfl (Nat.le_of_ble_eq_true rfl) dX8_go_36 ?_
        refine jj_iload_n dX8_go_39 2 rfl ?_
        obtain ⟨q8, e8, h⟩ := jj_be h
        refine jj_callVi [.int q7, .int x2] [] (c_mdf_roadOf (d + 55)  e8) jm_mdf_roadOf lk_8_76 (b := 60) rfl (by decide) (jj_E8 rfl) rfl rfl rfl (by omega) rfl (Nat.le_of_ble_eq_true rfl) dX8_go_40 ?_
        refine jj_istore_n [(3, .int q8), (0, .ref (jj_ad g 60)), (1, .int x1), (2, .int x2)] dX8_go_43 (by decide) rfl ?_
        refine jj_aload_n dX8_go_44 1 rfl ?_
        refine jj_iload_n dX8_go_45 2 rfl ?_
        refine jj_iconst (5) dX8_go_46 rfl ?_
        obtain ⟨q9, e9, h⟩ := jj_be h
        refine jj_callVi [.int x1, .int 5] [] (c_mdf_its (d + 54)  e9) jm_mdf_its lk_8_79 (b := 60) rfl (by decide) (jj_E8 rfl) rfl rfl rfl (by omega) rfl (Nat.le_of_ble_eq_true rfl) dX8_go_47 ?_
        refine jj_iconst (1) dX8_go_50 rfl ?_
        refine jj_icmp_eq 73 dX8_go_51 (by decide) (fun c10 => ?_) (fun c10 => ?_)
        · replace h := (if_pos c10).symm.trans h
          refine jj_aload_n dX8_go_73 1 rfl ?_
          refine jj_ldc (-1000000003) lk_8_199 dX8_go_74 ?_
          obtain ⟨q11, e11, h⟩ := jj_be h
          refine jj_callVi [.int (-1000000003)] [] (c_mdf_errs (d + 55)  e11) jm_mdf_errs lk_8_68 (b := 60) rfl (by decide) (jj_E8 rfl) rfl rfl rfl (by omega) rfl (Nat.le_of_ble_eq_true rfl) dX8_go_76 ?_
          exact jj_iret2 hF dX8_go_79 (Option.some.inj h)
        · replace h := (if_neg c10).symm.trans h
          refine jj_iload_n dX8_go_54 0 rfl ?_
          refine jj_if_eq 73 dX8_go_55 (by decide) (fun c12 => ?_) (fun c12 => ?_)
          · replace h := (if_pos c12).symm.trans h
            refine jj_aload_n dX8_go_73 1 rfl ?_
            refine jj_ldc (-1000000003) lk_8_199 dX8_go_74 ?_
            obtain ⟨q13, e13, h⟩ := jj_be h
            refine jj_callVi [.int (-1000000003)] [] (c_mdf_errs (d + 55)  e13) jm_mdf_errs lk_8_68 (b := 60) rfl (by decide) (jj_E8 rfl) rfl rfl rfl (by omega) rfl (Nat.le_of_ble_eq_true rfl) dX8_go_76 ?_
            exact jj_iret2 hF dX8_go_79 (Option.some.inj h)
          · replace h := (if_neg c12).symm.trans h
            refine jj_aload_n dX8_go_58 1 rfl ?_
            refine jg_8_0 (k := 60) rfl lk_8_7 dX8_go_59 ?_
            show jj_V g X _ _ _ _ _ _ (.ref (jj_ad g 61) :: _) _
            refine jj_sipush (137) dX8_go_62 rfl ?_
            refine jj_iaload (k := 61) (n := 351) rfl (show jj_i 137 351 by decide) dX8_go_65 ?_
            show jj_V g X _ _ _ _ _ _ (.int (μ 61 137) :: _) _
            refine jj_iload_n dX8_go_66 0 rfl ?_
            refine jj_iadd dX8_go_67 ?_
            refine jj_ldc (99999) lk_8_203 dX8_go_68 ?_
            refine jj_icmp_le 80 dX8_go_70 (by decide) (fun c14 => ?_) (fun c14 => ?_)
            · replace h := (if_pos c14).symm.trans h
              refine jj_aload_n dX8_go_80 1 rfl ?_
              refine jg_8_0 (k := 60) rfl lk_8_7 dX8_go_81 ?_
              show jj_V g X _ _ _ _ _ _ (.ref (jj_ad g 61) :: _) _
              refine jj_iload_n dX8_go_84 2 rfl ?_
              refine jj_iconst (4) dX8_go_85 rfl ?_
              refine jj_callSi [.int x1, .int 4] [.ref (jj_ad g 61)] (c_mdf_spot (d + 55)  rfl) jm_mdf_spot lk_8_54 rfl (by omega) rfl (Nat.le_of_ble_eq_true rfl) dX8_go_86 ?_
              refine jj_dup2 dX8_go_89 rfl rfl ?_
              obtain ⟨g15, h⟩ := jj_ge h
              refine jj_iaload (k := 61) (n := 351) rfl g15 dX8_go_90 ?_
              refine jj_aload_n dX8_go_91 1 rfl ?_
              refine jj_iload_n dX8_go_92 2 rfl ?_
              refine jj_iload_n dX8_go_93 0 rfl ?_
              obtain ⟨q16, e16, h⟩ := jj_be h
              refine jj_callVi [.int x1, .int q8] [.int (μ 61 (mdf_spot x1 4).toNatClampNeg), .int (mdf_spot x1 4), .ref (jj_ad g 61)] (c_mdf_thirstBy (d + 0)  e16) jm_mdf_thirstBy lk_8_204 (b := 60) rfl (by decide) (jj_E8 rfl) rfl rfl rfl (by omega) rfl (Nat.le_of_ble_eq_true rfl) dX8_go_94 ?_
              refine jj_iadd dX8_go_97 ?_
              obtain ⟨g17, h⟩ := jj_ge h
              refine jj_iastore (k := 61) (n := 351) rfl g17 dX8_go_98 ?_
              obtain ⟨m18, em18, h⟩ := jj_be h
              refine jj_mu em18 ?_
              refine jj_aload_n dX8_go_99 1 rfl ?_
              refine jg_8_0 (k := 60) rfl lk_8_7 dX8_go_100 ?_
              show jj_V g X _ _ _ _ _ _ (.ref (jj_ad g 61) :: _) _
              refine jj_iload_n dX8_go_103 2 rfl ?_
              refine jj_iconst (2) dX8_go_104 rfl ?_
              refine jj_callSi [.int x1, .int 2] [.ref (jj_ad g 61)] (c_mdf_spot (d + 55)  rfl) jm_mdf_spot lk_8_54 rfl (by omega) rfl (Nat.le_of_ble_eq_true rfl) dX8_go_105 ?_
              refine jj_iload_n dX8_go_108 3 rfl ?_
              obtain ⟨g19, h⟩ := jj_ge h
              refine jj_iastore (k := 61) (n := 351) rfl g19 dX8_go_109 ?_
              refine jj_aload_n dX8_go_110 1 rfl ?_
              refine jg_8_0 (k := 60) rfl lk_8_7 dX8_go_111 ?_
              show jj_V g X _ _ _ _ _ _ (.ref (jj_ad g 61) :: _) _
              refine jj_sipush (137) dX8_go_114 rfl ?_
              refine jj_dup2 dX8_go_117 rfl rfl ?_
              refine jj_iaload (k := 61) (n := 351) rfl (show jj_i 137 351 by decide) dX8_go_118 ?_
              show jj_V g X _ _ _ _ _ _ (.int ((jj_u m18 61 (mdf_spot x1 2).toNatClampNeg x2) 61 137) :: _) _
              refine jj_iload_n dX8_go_119 0 rfl ?_
              refine jj_iadd dX8_go_120 ?_
              refine jj_iastore (k := 61) (n := 351) rfl (show jj_i 137 351 by decide) dX8_go_121 ?_
              show jj_V g X _ _ _ _ _ _ _ (jj_u (jj_u m18 61 (mdf_spot x1 2).toNatClampNeg x2) 61 137 (((jj_u m18 61 (mdf_spot x1 2).toNatClampNeg x2) 61 137) + q8))
              obtain ⟨m20, em20, h⟩ := jj_be h
              refine jj_mu em20 ?_
              refine jj_aload_n dX8_go_122 1 rfl ?_
              refine jj_iload_n dX8_go_123 2 rfl ?_
              obtain ⟨q21, e21, h⟩ := jj_be h
              refine jj_callVv [.int x1] [] (c_mdf_dies (d + 52)  e21) jm_mdf_dies lk_8_207 (b := 60) rfl (by decide) (jj_E8 rfl) rfl rfl rfl (by omega) rfl (Nat.le_of_ble_eq_true rfl) dX8_go_124 ?_
              refine jj_aload_n dX8_go_127 1 rfl ?_
              refine jj_iload_n dX8_go_128 2 rfl ?_
              refine jj_iconst (4) dX8_go_129 rfl ?_
              obtain ⟨q22, e22, h⟩ := jj_be h
              refine jj_callVi [.int x1, .int 4] [] (c_mdf_its (d + 54)  e22) jm_mdf_its lk_8_79 (b := 60) rfl (by decide) (jj_E8 rfl) rfl rfl rfl (by omega) rfl (Nat.le_of_ble_eq_true rfl) dX8_go_130 ?_
              exact jj_iret2 hF dX8_go_133 (Option.some.inj h)
            · replace h := (if_neg c14).symm.trans h
              refine jj_aload_n dX8_go_73 1 rfl ?_
              refine jj_ldc (-1000000003) lk_8_199 dX8_go_74 ?_
              obtain ⟨q23, e23, h⟩ := jj_be h
              refine jj_callVi [.int (-1000000003)] [] (c_mdf_errs (d + 55)  e23) jm_mdf_errs lk_8_68 (b := 60) rfl (by decide) (jj_E8 rfl) rfl rfl rfl (by omega) rfl (Nat.le_of_ble_eq_true rfl) dX8_go_76 ?_
              exact jj_iret2 hF dX8_go_79 (Option.some.inj h)
      · replace h := (if_pos c6).symm.trans h
        refine jj_aload_n dX8_go_25 0 rfl ?_
        refine jj_ldc (-1000000001) lk_8_67 dX8_go_26 ?_
        obtain ⟨q24, e24, h⟩ := jj_be h
        refine jj_callVi [.int (-1000000001)] [] (c_mdf_errs (d + 55)  e24) jm_mdf_errs lk_8_68 (b := 60) rfl (by decide) (jj_E8 rfl) rfl rfl rfl (by omega) rfl (Nat.le_of_ble_eq_true rfl) dX8_go_28 ?_
        exact jj_iret2 hF dX8_go_31 (Option.some.inj h)
def mdf_pay  (x1 : Int32) (x2 : Int32) (x3 : Int32) (μ : jj_M) : Option (Int32 × jj_M) := if (mdf_isPerson x1 μ) = 0 then (mdf_errs (-1000000001) μ).bind fun q2 => some ((q2.1, q2.2)) else if (mdf_isWell x2) = 0 then (mdf_errs (-1000000001) μ).bind fun q4 => some ((q4.1, q4.2)) else (mdf_its x1 3 μ).bind fun q5 => if x2 = q5 then (mdf_errs (-1000000001) μ).bind fun q7 => some ((q7.1, q7.2)) else if (mdf_in (Int32.toInt64 x3) 1 9999) = 0 then (mdf_errs (-1000000001) μ).bind fun q22 => some ((q22.1, q22.2)) else (mdf_its x1 3 μ).bind fun q9 => (mdf_its x1 5 μ).bind fun q10 => if q10 = 1 then (mdf_errs (-1000000003) μ).bind fun q12 => some ((q12.1, q12.2)) else if q9 < 0 then (mdf_errs (-1000000003) μ).bind fun q14 => some ((q14.1, q14.2)) else if jj_i ((72 + (8 * q9)) + x2) 351 then if x3 ≤ (μ 61 ((72 + (8 * q9)) + x2).toNatClampNeg) then if jj_i ((72 + (8 * q9)) + x2) 351 then if jj_i ((72 + (8 * q9)) + x2) 351 then (some (jj_u μ 61 ((72 + (8 * q9)) + x2).toNatClampNeg ((μ 61 ((72 + (8 * q9)) + x2).toNatClampNeg) - x3))).bind fun m19 => if jj_i ((72 + (8 * q9)) + x2) 351 then some ((m19 61 ((72 + (8 * q9)) + x2).toNatClampNeg, m19)) else none else none else none else (mdf_errs (-1000000003) μ).bind fun q21 => some ((q21.1, q21.2)) else none
set_option maxRecDepth 100000 in
theorem c_mdf_pay {g : jj_G} (d : Nat)  {x1 : Int32} {x2 : Int32} {x3 : Int32} {μ : jj_M} {r : Int32} {μ' : jj_M}   (h : mdf_pay x1 x2 x3 μ = some (r, μ')) : jj_N g yX8_pay cX8_pay 5 (some .int) (d + 2) [.ref (jj_ad g 60), .int x1, .int x2, .int x3] μ (some (.int r)) μ' := by
  refine jj_N_of jn_8 (Nat.le_of_ble_eq_true rfl) (fun X hF => ?_)
  unfold mdf_pay at h
  refine jj_sub (own := RX8) (lv2 := [(0, .ref (jj_ad g 60)), (1, .int x1), (2, .int x2), (3, .int x3)]) [0, 1, 2, 3] rfl ?_
  refine jj_aload_n dX8_pay_0 0 rfl ?_
  refine jj_iload_n dX8_pay_1 1 rfl ?_
  refine jj_callVi [.int x1] [] (c_mdf_isPerson (d + 0)  rfl) jm_mdf_isPerson lk_8_103 (b := 60) rfl (by decide) (jj_E8 rfl) rfl rfl rfl (by omega) rfl (Nat.le_of_ble_eq_true rfl) dX8_pay_2 ?_
  refine jj_if_eq 37 dX8_pay_5 (by decide) (fun c1 => ?_) (fun c1 => ?_)
  · replace h := (if_pos c1).symm.trans h
    refine jj_aload_n dX8_pay_37 0 rfl ?_
    refine jj_ldc (-1000000001) lk_8_67 dX8_pay_38 ?_
    obtain ⟨q2, e2, h⟩ := jj_be h
    refine jj_callVi [.int (-1000000001)] [] (c_mdf_errs (d + 1)  e2) jm_mdf_errs lk_8_68 (b := 60) rfl (by decide) (jj_E8 rfl) rfl rfl rfl (by omega) rfl (Nat.le_of_ble_eq_true rfl) dX8_pay_40 ?_
    exact jj_iret2 hF dX8_pay_43 (Option.some.inj h)
  · replace h := (if_neg c1).symm.trans h
    refine jj_iload_n dX8_pay_8 2 rfl ?_
    refine jj_callSi [.int x2] [] (c_mdf_isWell (d + 0)  rfl) jm_mdf_isWell lk_8_58 rfl (by omega) rfl (Nat.le_of_ble_eq_true rfl) dX8_pay_9 ?_
    refine jj_if_eq 37 dX8_pay_12 (by decide) (fun c3 => ?_) (fun c3 => ?_)
    · replace h := (if_pos c3).symm.trans h
      refine jj_aload_n dX8_pay_37 0 rfl ?_
      refine jj_ldc (-1000000001) lk_8_67 dX8_pay_38 ?_
      obtain ⟨q4, e4, h⟩ := jj_be h
      refine jj_callVi [.int (-1000000001)] [] (c_mdf_errs (d + 1)  e4) jm_mdf_errs lk_8_68 (b := 60) rfl (by decide) (jj_E8 rfl) rfl rfl rfl (by omega) rfl (Nat.le_of_ble_eq_true rfl) dX8_pay_40 ?_
      exact jj_iret2 hF dX8_pay_43 (Option.some.inj h)
    · replace h := (if_neg c3).symm.trans h
      refine jj_iload_n dX8_pay_15 2 rfl ?_
      refine jj_aload_n dX8_pay_16 0 rfl ?_
      refine jj_iload_n dX8_pay_17 1 rfl ?_
      refine jj_iconst (3) dX8_pay_18 rfl ?_
      obtain ⟨q5, e5, h⟩ := jj_be h
      refine jj_callVi [.int x1, .int 3] [.int x2] (c_mdf_its (d + 0)  e5) jm_mdf_its lk_8_79 (b := 60) rfl (by decide) (jj_E8 rfl) rfl rfl rfl (by omega) rfl (Nat.le_of_ble_eq_true rfl) dX8_pay_19 ?_
      refine jj_icmp_eq 37 dX8_pay_22 (by decide) (fun c6 => ?_) (fun c6 => ?_)
      · replace h := (if_pos c6).symm.trans h
        refine jj_aload_n dX8_pay_37 0 rfl ?_
        refine jj_ldc (-1000000001) lk_8_67 dX8_pay_38 ?_
        obtain ⟨q7, e7, h⟩ := jj_be h
        refine jj_callVi [.int (-1000000001)] [] (c_mdf_errs (d + 1)  e7) jm_mdf_errs lk_8_68 (b := 60) rfl (by decide) (jj_E8 rfl) rfl rfl rfl (by omega) rfl (Nat.le_of_ble_eq_true rfl) dX8_pay_40 ?_
        exact jj_iret2 hF dX8_pay_43 (Option.some.inj h)
      · replace h := (if_neg c6).symm.trans h
        refine jj_iload_n dX8_pay_25 3 rfl ?_
        refine jj_i2l dX8_pay_26 ?_
        refine jj_lconst (1) dX8_pay_27 rfl ?_
        refine jj_ldc2_w (9999) lk_8_74 dX8_pay_28 ?_
        refine jj_callSi [.long (Int32.toInt64 x3), .long 1, .long 9999] [] (c_mdf_in (d + 1)  rfl) jm_mdf_in lk_8_46 rfl (by omega) rfl (Nat.le_of_ble_eq_true rfl) dX8_pay_31 ?_
        refine jj_if_ne 44 dX8_pay_34 (by decide) (fun c8 => ?_) (fun c8 => ?_)
        · replace h := (if_neg c8).symm.trans h
          refine jj_aload_n dX8_pay_44 0 rfl ?_
          refine jj_iload_n dX8_pay_45 1 rfl ?_
          refine jj_iconst (3) dX8_pay_46 rfl ?_
          obtain ⟨q9, e9, h⟩ := jj_be h
          refine jj_callVi [.int x1, .int 3] [] (c_mdf_its (d + 0)  e9) jm_mdf_its lk_8_79 (b := 60) rfl (by decide) (jj_E8 rfl) rfl rfl rfl (by omega) rfl (Nat.le_of_ble_eq_true rfl) dX8_pay_47 ?_
          refine jj_istore [(4, .int q9), (0, .ref (jj_ad g 60)), (1, .int x1), (2, .int x2), (3, .int x3)] dX8_pay_50 (by decide) rfl ?_
          refine jj_aload_n dX8_pay_52 1 rfl ?_
          refine jj_iload_n dX8_pay_53 2 rfl ?_
          refine jj_iconst (5) dX8_pay_54 rfl ?_
          obtain ⟨q10, e10, h⟩ := jj_be h
          refine jj_callVi [.int x1, .int 5] [] (c_mdf_its (d + 0)  e10) jm_mdf_its lk_8_79 (b := 60) rfl (by decide) (jj_E8 rfl) rfl rfl rfl (by omega) rfl (Nat.le_of_ble_eq_true rfl) dX8_pay_55 ?_
          refine jj_iconst (1) dX8_pay_58 rfl ?_
          refine jj_icmp_eq 86 dX8_pay_59 (by decide) (fun c11 => ?_) (fun c11 => ?_)
          · replace h := (if_pos c11).symm.trans h
            refine jj_aload_n dX8_pay_86 1 rfl ?_
            refine jj_ldc (-1000000003) lk_8_199 dX8_pay_87 ?_
            obtain ⟨q12, e12, h⟩ := jj_be h
            refine jj_callVi [.int (-1000000003)] [] (c_mdf_errs (d + 1)  e12) jm_mdf_errs lk_8_68 (b := 60) rfl (by decide) (jj_E8 rfl) rfl rfl rfl (by omega) rfl (Nat.le_of_ble_eq_true rfl) dX8_pay_89 ?_
            exact jj_iret2 hF dX8_pay_92 (Option.some.inj h)
          · replace h := (if_neg c11).symm.trans h
            refine jj_iload dX8_pay_62 0 rfl ?_
            refine jj_if_lt 86 dX8_pay_64 (by decide) (fun c13 => ?_) (fun c13 => ?_)
            · replace h := (if_pos c13).symm.trans h
              refine jj_aload_n dX8_pay_86 1 rfl ?_
              refine jj_ldc (-1000000003) lk_8_199 dX8_pay_87 ?_
              obtain ⟨q14, e14, h⟩ := jj_be h
              refine jj_callVi [.int (-1000000003)] [] (c_mdf_errs (d + 1)  e14) jm_mdf_errs lk_8_68 (b := 60) rfl (by decide) (jj_E8 rfl) rfl rfl rfl (by omega) rfl (Nat.le_of_ble_eq_true rfl) dX8_pay_89 ?_
              exact jj_iret2 hF dX8_pay_92 (Option.some.inj h)
            · replace h := (if_neg c13).symm.trans h
              refine jj_aload_n dX8_pay_67 1 rfl ?_
              refine jg_8_0 (k := 60) rfl lk_8_7 dX8_pay_68 ?_
              show jj_V g X _ _ _ _ _ _ (.ref (jj_ad g 61) :: _) _
              refine jj_bipush (72) dX8_pay_71 rfl ?_
              refine jj_bipush (8) dX8_pay_73 rfl ?_
              refine jj_iload dX8_pay_75 0 rfl ?_
              refine jj_imul dX8_pay_77 ?_
              refine jj_iadd dX8_pay_78 ?_
              refine jj_iload_n dX8_pay_79 3 rfl ?_
              refine jj_iadd dX8_pay_80 ?_
              obtain ⟨g15, h⟩ := jj_ge h
              refine jj_iaload (k := 61) (n := 351) rfl g15 dX8_pay_81 ?_
              refine jj_iload_n dX8_pay_82 4 rfl ?_
              refine jj_icmp_ge 93 dX8_pay_83 (by decide) (fun c16 => ?_) (fun c16 => ?_)
              · replace h := (if_pos c16).symm.trans h
                refine jj_aload_n dX8_pay_93 1 rfl ?_
                refine jg_8_0 (k := 60) rfl lk_8_7 dX8_pay_94 ?_
                show jj_V g X _ _ _ _ _ _ (.ref (jj_ad g 61) :: _) _
                refine jj_bipush (72) dX8_pay_97 rfl ?_
                refine jj_bipush (8) dX8_pay_99 rfl ?_
                refine jj_iload dX8_pay_101 0 rfl ?_
                refine jj_imul dX8_pay_103 ?_
                refine jj_iadd dX8_pay_104 ?_
                refine jj_iload_n dX8_pay_105 3 rfl ?_
                refine jj_iadd dX8_pay_106 ?_
                refine jj_dup2 dX8_pay_107 rfl rfl ?_
                obtain ⟨g17, h⟩ := jj_ge h
                refine jj_iaload (k := 61) (n := 351) rfl g17 dX8_pay_108 ?_
                refine jj_iload_n dX8_pay_109 4 rfl ?_
                refine jj_isub dX8_pay_110 ?_
                obtain ⟨g18, h⟩ := jj_ge h
                refine jj_iastore (k := 61) (n := 351) rfl g18 dX8_pay_111 ?_
                obtain ⟨m19, em19, h⟩ := jj_be h
                refine jj_mu em19 ?_
                refine jj_aload_n dX8_pay_112 1 rfl ?_
                refine jg_8_0 (k := 60) rfl lk_8_7 dX8_pay_113 ?_
                show jj_V g X _ _ _ _ _ _ (.ref (jj_ad g 61) :: _) _
                refine jj_bipush (72) dX8_pay_116 rfl ?_
                refine jj_bipush (8) dX8_pay_118 rfl ?_
                refine jj_iload dX8_pay_120 0 rfl ?_
                refine jj_imul dX8_pay_122 ?_
                refine jj_iadd dX8_pay_123 ?_
                refine jj_iload_n dX8_pay_124 3 rfl ?_
                refine jj_iadd dX8_pay_125 ?_
                obtain ⟨g20, h⟩ := jj_ge h
                refine jj_iaload (k := 61) (n := 351) rfl g20 dX8_pay_126 ?_
                exact jj_iret2 hF dX8_pay_127 (Option.some.inj h)
              · replace h := (if_neg c16).symm.trans h
                refine jj_aload_n dX8_pay_86 1 rfl ?_
                refine jj_ldc (-1000000003) lk_8_199 dX8_pay_87 ?_
                obtain ⟨q21, e21, h⟩ := jj_be h
                refine jj_callVi [.int (-1000000003)] [] (c_mdf_errs (d + 1)  e21) jm_mdf_errs lk_8_68 (b := 60) rfl (by decide) (jj_E8 rfl) rfl rfl rfl (by omega) rfl (Nat.le_of_ble_eq_true rfl) dX8_pay_89 ?_
                exact jj_iret2 hF dX8_pay_92 (Option.some.inj h)
        · replace h := (if_pos c8).symm.trans h
          refine jj_aload_n dX8_pay_37 0 rfl ?_
          refine jj_ldc (-1000000001) lk_8_67 dX8_pay_38 ?_
          obtain ⟨q22, e22, h⟩ := jj_be h
          refine jj_callVi [.int (-1000000001)] [] (c_mdf_errs (d + 1)  e22) jm_mdf_errs lk_8_68 (b := 60) rfl (by decide) (jj_E8 rfl) rfl rfl rfl (by omega) rfl (Nat.le_of_ble_eq_true rfl) dX8_pay_40 ?_
          exact jj_iret2 hF dX8_pay_43 (Option.some.inj h)
def mdf_day_L47 (N : Nat)   : Nat → Int32 → jj_M → Option (jj_M)
  | 0, _, _ => none
  | n + 1, x1, μ => if (μ 61 139) ≤ x1 then (some (jj_u (jj_u μ 61 138 ((μ 61 138) + 1)) 61 137 (((jj_u μ 61 138 ((μ 61 138) + 1)) 61 137) + 1))).bind fun m2 => some m2 else (mdf_its x1 5 μ).bind fun q3 => if q3 = 0 then if jj_i (mdf_spot x1 4) 351 then if jj_i (mdf_spot x1 4) 351 then (some (jj_u μ 61 (mdf_spot x1 4).toNatClampNeg ((μ 61 (mdf_spot x1 4).toNatClampNeg) + 1))).bind fun m7 => (mdf_dies x1 m7).bind fun q8 => mdf_day_L47 N n (x1 + 1) q8 else none else none else mdf_day_L47 N n (x1 + 1) μ
set_option maxRecDepth 100000 in
theorem t_mdf_day_L47 {g : jj_G} (d : Nat) {N : Nat}    {μ' : jj_M} {X : jj_X}   (hF : jj_F g none none μ' X)  : ∀ (n : Nat) (x1 : Int32) (μ : jj_M), mdf_day_L47 N n x1 μ = some μ' → jj_V g X RX8 cX8_day 2 (d + 4) 47 [(0, .ref (jj_ad g 60)), (1, .int x1)] [] μ := by
  intro n
  induction n with
  | zero =>
    intro x1 μ h
    exact (jj_no h).elim
  | succ n ih =>
    intro x1 μ h
    rw [mdf_day_L47] at h
    refine jj_iload_n dX8_day_47 1 rfl ?_
    refine jj_aload_n dX8_day_48 0 rfl ?_
    refine jg_8_0 (k := 60) rfl lk_8_7 dX8_day_49 ?_
    show jj_V g X _ _ _ _ _ _ (.ref (jj_ad g 61) :: _) _
    refine jj_sipush (139) dX8_day_52 rfl ?_
    refine jj_iaload (k := 61) (n := 351) rfl (show jj_i 139 351 by decide) dX8_day_55 ?_
    show jj_V g X _ _ _ _ _ _ (.int (μ 61 139) :: _) _
    refine jj_icmp_ge 93 dX8_day_56 (by decide) (fun c1 => ?_) (fun c1 => ?_)
    · replace h := (if_pos c1).symm.trans h
      refine jj_aload_n dX8_day_93 0 rfl ?_
      refine jg_8_0 (k := 60) rfl lk_8_7 dX8_day_94 ?_
      show jj_V g X _ _ _ _ _ _ (.ref (jj_ad g 61) :: _) _
      refine jj_sipush (138) dX8_day_97 rfl ?_
      refine jj_dup2 dX8_day_100 rfl rfl ?_
      refine jj_iaload (k := 61) (n := 351) rfl (show jj_i 138 351 by decide) dX8_day_101 ?_
      show jj_V g X _ _ _ _ _ _ (.int (μ 61 138) :: _) _
      refine jj_iconst (1) dX8_day_102 rfl ?_
      refine jj_iadd dX8_day_103 ?_
      refine jj_iastore (k := 61) (n := 351) rfl (show jj_i 138 351 by decide) dX8_day_104 ?_
      show jj_V g X _ _ _ _ _ _ _ (jj_u μ 61 138 ((μ 61 138) + 1))
      refine jj_aload_n dX8_day_105 0 rfl ?_
      refine jg_8_0 (k := 60) rfl lk_8_7 dX8_day_106 ?_
      show jj_V g X _ _ _ _ _ _ (.ref (jj_ad g 61) :: _) _
      refine jj_sipush (137) dX8_day_109 rfl ?_
      refine jj_dup2 dX8_day_112 rfl rfl ?_
      refine jj_iaload (k := 61) (n := 351) rfl (show jj_i 137 351 by decide) dX8_day_113 ?_
      show jj_V g X _ _ _ _ _ _ (.int ((jj_u μ 61 138 ((μ 61 138) + 1)) 61 137) :: _) _
      refine jj_iconst (1) dX8_day_114 rfl ?_
      refine jj_iadd dX8_day_115 ?_
      refine jj_iastore (k := 61) (n := 351) rfl (show jj_i 137 351 by decide) dX8_day_116 ?_
      show jj_V g X _ _ _ _ _ _ _ (jj_u (jj_u μ 61 138 ((μ 61 138) + 1)) 61 137 (((jj_u μ 61 138 ((μ 61 138) + 1)) 61 137) + 1))
      obtain ⟨m2, em2, h⟩ := jj_be h
      refine jj_mu em2 ?_
      exact jj_vret1 hF dX8_day_117 (Option.some.inj h)
    · replace h := (if_neg c1).symm.trans h
      refine jj_aload_n dX8_day_59 0 rfl ?_
      refine jj_iload_n dX8_day_60 1 rfl ?_
      refine jj_iconst (5) dX8_day_61 rfl ?_
      obtain ⟨q3, e3, h⟩ := jj_be h
      refine jj_callVi [.int x1, .int 5] [] (c_mdf_its (d + 2)  e3) jm_mdf_its lk_8_79 (b := 60) rfl (by decide) (jj_E8 rfl) rfl rfl rfl (by omega) rfl (Nat.le_of_ble_eq_true rfl) dX8_day_62 ?_
      refine jj_if_ne 87 dX8_day_65 (by decide) (fun c4 => ?_) (fun c4 => ?_)
      · replace h := (if_neg c4).symm.trans h
        refine jj_iinc (x1 + 1) [(1, .int (x1 + 1)), (0, .ref (jj_ad g 60))] dX8_day_87 1 rfl rfl (by decide) rfl ?_
        refine jj_goto 47 dX8_day_90 (by decide) ?_
        refine jj_sub [1, 0] rfl ?_
        exact ih _ _ h
      · replace h := (if_pos c4).symm.trans h
        refine jj_aload_n dX8_day_68 0 rfl ?_
        refine jg_8_0 (k := 60) rfl lk_8_7 dX8_day_69 ?_
        show jj_V g X _ _ _ _ _ _ (.ref (jj_ad g 61) :: _) _
        refine jj_iload_n dX8_day_72 1 rfl ?_
        refine jj_iconst (4) dX8_day_73 rfl ?_
        refine jj_callSi [.int x1, .int 4] [.ref (jj_ad g 61)] (c_mdf_spot (d + 3)  rfl) jm_mdf_spot lk_8_54 rfl (by omega) rfl (Nat.le_of_ble_eq_true rfl) dX8_day_74 ?_
        refine jj_dup2 dX8_day_77 rfl rfl ?_
        obtain ⟨g5, h⟩ := jj_ge h
        refine jj_iaload (k := 61) (n := 351) rfl g5 dX8_day_78 ?_
        refine jj_iconst (1) dX8_day_79 rfl ?_
        refine jj_iadd dX8_day_80 ?_
        obtain ⟨g6, h⟩ := jj_ge h
        refine jj_iastore (k := 61) (n := 351) rfl g6 dX8_day_81 ?_
        obtain ⟨m7, em7, h⟩ := jj_be h
        refine jj_mu em7 ?_
        refine jj_aload_n dX8_day_82 0 rfl ?_
        refine jj_iload_n dX8_day_83 1 rfl ?_
        obtain ⟨q8, e8, h⟩ := jj_be h
        refine jj_callVv [.int x1] [] (c_mdf_dies (d + 0)  e8) jm_mdf_dies lk_8_207 (b := 60) rfl (by decide) (jj_E8 rfl) rfl rfl rfl (by omega) rfl (Nat.le_of_ble_eq_true rfl) dX8_day_84 ?_
        refine jj_iinc (x1 + 1) [(1, .int (x1 + 1)), (0, .ref (jj_ad g 60))] dX8_day_87 1 rfl rfl (by decide) rfl ?_
        refine jj_goto 47 dX8_day_90 (by decide) ?_
        refine jj_sub [1, 0] rfl ?_
        exact ih _ _ h
def mdf_day_L2 (N : Nat)   : Nat → Int32 → jj_M → Option (jj_M)
  | 0, _, _ => none
  | n + 1, x1, μ => if 8 ≤ x1 then mdf_day_L47 N N 0 μ else if jj_i (0 + x1) 351 then if jj_i (0 + x1) 351 then (some (jj_u μ 61 (0 + x1).toNatClampNeg (mdf_held ((μ 61 (0 + x1).toNatClampNeg) + (μ 61 136)) 0 99))).bind fun m4 => mdf_day_L2 N n (x1 + 1) m4 else none else none
set_option maxRecDepth 100000 in
theorem t_mdf_day_L2 {g : jj_G} (d : Nat) {N : Nat}    {μ' : jj_M} {X : jj_X}   (hF : jj_F g none none μ' X)  : ∀ (n : Nat) (x1 : Int32) (μ : jj_M), mdf_day_L2 N n x1 μ = some μ' → jj_V g X RX8 cX8_day 2 (d + 4) 2 [(0, .ref (jj_ad g 60)), (1, .int x1)] [] μ := by
  intro n
  induction n with
  | zero =>
    intro x1 μ h
    exact (jj_no h).elim
  | succ n ih =>
    intro x1 μ h
    rw [mdf_day_L2] at h
    refine jj_iload_n dX8_day_2 1 rfl ?_
    refine jj_bipush (8) dX8_day_3 rfl ?_
    refine jj_icmp_ge 45 dX8_day_5 (by decide) (fun c1 => ?_) (fun c1 => ?_)
    · replace h := (if_pos c1).symm.trans h
      refine jj_iconst (0) dX8_day_45 rfl ?_
      refine jj_istore_n [(1, .int 0), (0, .ref (jj_ad g 60))] dX8_day_46 (by decide) rfl ?_
      refine jj_sub [1, 0] rfl ?_
      exact t_mdf_day_L47 d   hF  _ _ _ h
    · replace h := (if_neg c1).symm.trans h
      refine jj_aload_n dX8_day_8 0 rfl ?_
      refine jg_8_0 (k := 60) rfl lk_8_7 dX8_day_9 ?_
      show jj_V g X _ _ _ _ _ _ (.ref (jj_ad g 61) :: _) _
      refine jj_iconst (0) dX8_day_12 rfl ?_
      refine jj_iload_n dX8_day_13 1 rfl ?_
      refine jj_iadd dX8_day_14 ?_
      refine jj_aload_n dX8_day_15 0 rfl ?_
      refine jg_8_0 (k := 60) rfl lk_8_7 dX8_day_16 ?_
      show jj_V g X _ _ _ _ _ _ (.ref (jj_ad g 61) :: _) _
      refine jj_iconst (0) dX8_day_19 rfl ?_
      refine jj_iload_n dX8_day_20 1 rfl ?_
      refine jj_iadd dX8_day_21 ?_
      obtain ⟨g2, h⟩ := jj_ge h
      refine jj_iaload (k := 61) (n := 351) rfl g2 dX8_day_22 ?_
      refine jj_aload_n dX8_day_23 0 rfl ?_
      refine jg_8_0 (k := 60) rfl lk_8_7 dX8_day_24 ?_
      show jj_V g X _ _ _ _ _ _ (.ref (jj_ad g 61) :: _) _
      refine jj_sipush (136) dX8_day_27 rfl ?_
      refine jj_iaload (k := 61) (n := 351) rfl (show jj_i 136 351 by decide) dX8_day_30 ?_
      show jj_V g X _ _ _ _ _ _ (.int (μ 61 136) :: _) _
      refine jj_iadd dX8_day_31 ?_
      refine jj_iconst (0) dX8_day_32 rfl ?_
      refine jj_bipush (99) dX8_day_33 rfl ?_
      refine jj_callSi [.int ((μ 61 (0 + x1).toNatClampNeg) + (μ 61 136)), .int 0, .int 99] [.int (0 + x1), .ref (jj_ad g 61)] (c_mdf_held (d + 3)  rfl) jm_mdf_held lk_8_193 rfl (by omega) rfl (Nat.le_of_ble_eq_true rfl) dX8_day_35 ?_
      obtain ⟨g3, h⟩ := jj_ge h
      refine jj_iastore (k := 61) (n := 351) rfl g3 dX8_day_38 ?_
      obtain ⟨m4, em4, h⟩ := jj_be h
      refine jj_mu em4 ?_
      refine jj_iinc (x1 + 1) [(1, .int (x1 + 1)), (0, .ref (jj_ad g 60))] dX8_day_39 1 rfl rfl (by decide) rfl ?_
      refine jj_goto 2 dX8_day_42 (by decide) ?_
      refine jj_sub [1, 0] rfl ?_
      exact ih _ _ h
def mdf_day (N : Nat)  (μ : jj_M) : Option (jj_M) := mdf_day_L2 N N 0 μ
set_option maxRecDepth 100000 in
theorem c_mdf_day {g : jj_G} (d : Nat) {N : Nat}  {μ : jj_M} {μ' : jj_M}   (h : mdf_day N μ = some μ') : jj_N g yX8_day cX8_day 2 none (d + 4) [.ref (jj_ad g 60)] μ none μ' := by
  refine jj_N_of jn_8 (Nat.le_of_ble_eq_true rfl) (fun X hF => ?_)
  unfold mdf_day at h
  refine jj_sub (own := RX8) (lv2 := [(0, .ref (jj_ad g 60))]) [0] rfl ?_
  refine jj_iconst (0) dX8_day_0 rfl ?_
  refine jj_istore_n [(1, .int 0), (0, .ref (jj_ad g 60))] dX8_day_1 (by decide) rfl ?_
  refine jj_sub [1, 0] rfl ?_
  exact t_mdf_day_L2 d   hF  _ _ _ h
def mdf_dead_L4 (N : Nat)  (μ : jj_M) : Nat → Int32 → Int32 → Option (Int32)
  | 0, _, _ => none
  | n + 1, x1, x2 => if (μ 61 139) ≤ x2 then some x1 else (mdf_its x2 5 μ).bind fun q2 => mdf_dead_L4 N μ n (x1 + q2) (x2 + 1)
set_option maxRecDepth 100000 in
theorem t_mdf_dead_L4 {g : jj_G} (d : Nat) {N : Nat}  {μ : jj_M}  {r : Int32} {X : jj_X}   (hF : jj_F g (some .int) (some (.int r)) μ X)  : ∀ (n : Nat) (x1 : Int32) (x2 : Int32), mdf_dead_L4 N μ n x1 x2 = some r → jj_V g X RX8 cX8_dead 3 (d + 2) 4 [(0, .ref (jj_ad g 60)), (1, .int x1), (2, .int x2)] [] μ := by
  intro n
  induction n with
  | zero =>
    intro x1 x2 h
    exact (jj_no h).elim
  | succ n ih =>
    intro x1 x2 h
    rw [mdf_dead_L4] at h
    refine jj_iload_n dX8_dead_4 2 rfl ?_
    refine jj_aload_n dX8_dead_5 0 rfl ?_
    refine jg_8_0 (k := 60) rfl lk_8_7 dX8_dead_6 ?_
    show jj_V g X _ _ _ _ _ _ (.ref (jj_ad g 61) :: _) _
    refine jj_sipush (139) dX8_dead_9 rfl ?_
    refine jj_iaload (k := 61) (n := 351) rfl (show jj_i 139 351 by decide) dX8_dead_12 ?_
    show jj_V g X _ _ _ _ _ _ (.int (μ 61 139) :: _) _
    refine jj_icmp_ge 31 dX8_dead_13 (by decide) (fun c1 => ?_) (fun c1 => ?_)
    · replace h := (if_pos c1).symm.trans h
      refine jj_iload_n dX8_dead_31 1 rfl ?_
      exact jj_iret1 hF dX8_dead_32 (Option.some.inj h)
    · replace h := (if_neg c1).symm.trans h
      refine jj_iload_n dX8_dead_16 1 rfl ?_
      refine jj_aload_n dX8_dead_17 0 rfl ?_
      refine jj_iload_n dX8_dead_18 2 rfl ?_
      refine jj_iconst (5) dX8_dead_19 rfl ?_
      obtain ⟨q2, e2, h⟩ := jj_be h
      refine jj_callVi [.int x2, .int 5] [.int x1] (c_mdf_its (d + 0)  e2) jm_mdf_its lk_8_79 (b := 60) rfl (by decide) (jj_E8 rfl) rfl rfl rfl (by omega) rfl (Nat.le_of_ble_eq_true rfl) dX8_dead_20 ?_
      refine jj_iadd dX8_dead_23 ?_
      refine jj_istore_n [(1, .int (x1 + q2)), (0, .ref (jj_ad g 60)), (2, .int x2)] dX8_dead_24 (by decide) rfl ?_
      refine jj_iinc (x2 + 1) [(2, .int (x2 + 1)), (1, .int (x1 + q2)), (0, .ref (jj_ad g 60))] dX8_dead_25 2 rfl rfl (by decide) rfl ?_
      refine jj_goto 4 dX8_dead_28 (by decide) ?_
      refine jj_sub [2, 1, 0] rfl ?_
      exact ih _ _ h
def mdf_dead (N : Nat)  (μ : jj_M) : Option (Int32) := mdf_dead_L4 N μ N 0 0
set_option maxRecDepth 100000 in
theorem c_mdf_dead {g : jj_G} (d : Nat) {N : Nat}  {μ : jj_M} {r : Int32}   (h : mdf_dead N μ = some r) : jj_N g yX8_dead cX8_dead 3 (some .int) (d + 2) [.ref (jj_ad g 60)] μ (some (.int r)) μ := by
  refine jj_N_of jn_8 (Nat.le_of_ble_eq_true rfl) (fun X hF => ?_)
  unfold mdf_dead at h
  refine jj_sub (own := RX8) (lv2 := [(0, .ref (jj_ad g 60))]) [0] rfl ?_
  refine jj_iconst (0) dX8_dead_0 rfl ?_
  refine jj_istore_n [(1, .int 0), (0, .ref (jj_ad g 60))] dX8_dead_1 (by decide) rfl ?_
  refine jj_iconst (0) dX8_dead_2 rfl ?_
  refine jj_istore_n [(2, .int 0), (1, .int 0), (0, .ref (jj_ad g 60))] dX8_dead_3 (by decide) rfl ?_
  refine jj_sub [2, 1, 0] rfl ?_
  exact t_mdf_dead_L4 d   hF  _ _ _ h
def mdf_wrongDays  (x1 : Int32) (x2 : Int32) (μ : jj_M) : Int32 := if (mdf_in (Int32.toInt64 x1) 1 (Int32.toInt64 x2)) = 0 then -1000000001 else if 9999 < ((μ 61 138) + x1) then -1000000003 else if ((μ 61 137) + x1) ≤ 99999 then 0 else -1000000003
set_option maxRecDepth 100000 in
theorem c_mdf_wrongDays {g : jj_G} (d : Nat)  {x1 : Int32} {x2 : Int32} {μ : jj_M} {r : Int32}   (h : mdf_wrongDays x1 x2 μ = r) : jj_N g yX8_wrongDays cX8_wrongDays 3 (some .int) (d + 1) [.ref (jj_ad g 60), .int x1, .int x2] μ (some (.int r)) μ := by
  refine jj_N_of jn_8 (Nat.le_of_ble_eq_true rfl) (fun X hF => ?_)
  unfold mdf_wrongDays at h
  refine jj_sub (own := RX8) (lv2 := [(0, .ref (jj_ad g 60)), (1, .int x1), (2, .int x2)]) [0, 1, 2] rfl ?_
  refine jj_iload_n dX8_wrongDays_0 1 rfl ?_
  refine jj_i2l dX8_wrongDays_1 ?_
  refine jj_lconst (1) dX8_wrongDays_2 rfl ?_
  refine jj_iload_n dX8_wrongDays_3 2 rfl ?_
  refine jj_i2l dX8_wrongDays_4 ?_
  refine jj_callSi [.long (Int32.toInt64 x1), .long 1, .long (Int32.toInt64 x2)] [] (c_mdf_in (d + 0)  rfl) jm_mdf_in lk_8_46 rfl (by omega) rfl (Nat.le_of_ble_eq_true rfl) dX8_wrongDays_5 ?_
  refine jj_if_ne 16 dX8_wrongDays_8 (by decide) (fun c1 => ?_) (fun c1 => ?_)
  · replace h := (if_neg c1).symm.trans h
    refine jj_aload_n dX8_wrongDays_16 0 rfl ?_
    refine jg_8_0 (k := 60) rfl lk_8_7 dX8_wrongDays_17 ?_
    show jj_V g X _ _ _ _ _ _ (.ref (jj_ad g 61) :: _) _
    refine jj_sipush (138) dX8_wrongDays_20 rfl ?_
    refine jj_iaload (k := 61) (n := 351) rfl (show jj_i 138 351 by decide) dX8_wrongDays_23 ?_
    show jj_V g X _ _ _ _ _ _ (.int (μ 61 138) :: _) _
    refine jj_iload_n dX8_wrongDays_24 1 rfl ?_
    refine jj_iadd dX8_wrongDays_25 ?_
    refine jj_sipush (9999) dX8_wrongDays_26 rfl ?_
    refine jj_icmp_gt 47 dX8_wrongDays_29 (by decide) (fun c2 => ?_) (fun c2 => ?_)
    · replace h := (if_pos c2).symm.trans h
      refine jj_ldc (-1000000003) lk_8_199 dX8_wrongDays_47 ?_
      refine jj_goto 53 dX8_wrongDays_49 (by decide) ?_
      exact jj_iret1 hF dX8_wrongDays_53 h
    · replace h := (if_neg c2).symm.trans h
      refine jj_aload_n dX8_wrongDays_32 0 rfl ?_
      refine jg_8_0 (k := 60) rfl lk_8_7 dX8_wrongDays_33 ?_
      show jj_V g X _ _ _ _ _ _ (.ref (jj_ad g 61) :: _) _
      refine jj_sipush (137) dX8_wrongDays_36 rfl ?_
      refine jj_iaload (k := 61) (n := 351) rfl (show jj_i 137 351 by decide) dX8_wrongDays_39 ?_
      show jj_V g X _ _ _ _ _ _ (.int (μ 61 137) :: _) _
      refine jj_iload_n dX8_wrongDays_40 1 rfl ?_
      refine jj_iadd dX8_wrongDays_41 ?_
      refine jj_ldc (99999) lk_8_203 dX8_wrongDays_42 ?_
      refine jj_icmp_le 52 dX8_wrongDays_44 (by decide) (fun c3 => ?_) (fun c3 => ?_)
      · replace h := (if_pos c3).symm.trans h
        refine jj_iconst (0) dX8_wrongDays_52 rfl ?_
        exact jj_iret1 hF dX8_wrongDays_53 h
      · replace h := (if_neg c3).symm.trans h
        refine jj_ldc (-1000000003) lk_8_199 dX8_wrongDays_47 ?_
        refine jj_goto 53 dX8_wrongDays_49 (by decide) ?_
        exact jj_iret1 hF dX8_wrongDays_53 h
  · replace h := (if_pos c1).symm.trans h
    refine jj_ldc (-1000000001) lk_8_67 dX8_wrongDays_11 ?_
    refine jj_goto 53 dX8_wrongDays_13 (by decide) ?_
    exact jj_iret1 hF dX8_wrongDays_53 h
def mdf_days_L20 (N : Nat)  (x1 : Int32) : Nat → Int32 → jj_M → Option (Int32 × jj_M)
  | 0, _, _ => none
  | n + 1, x3, μ => if x1 ≤ x3 then (mdf_dead N μ).bind fun q2 => some ((q2, μ)) else (mdf_day N μ).bind fun q3 => mdf_days_L20 N x1 n (x3 + 1) q3
set_option maxRecDepth 100000 in
theorem t_mdf_days_L20 {g : jj_G} (d : Nat) {N : Nat}  {x1 : Int32}  {r : Int32} {μ' : jj_M} {X : jj_X}   (hF : jj_F g (some .int) (some (.int r)) μ' X)  : ∀ (n : Nat) (x3 : Int32) (μ : jj_M), mdf_days_L20 N x1 n x3 μ = some (r, μ') → jj_V g X RX8 cX8_days 4 (d + 5) 20 [(0, .ref (jj_ad g 60)), (1, .int x1), (3, .int x3)] [] μ := by
  intro n
  induction n with
  | zero =>
    intro x3 μ h
    exact (jj_no h).elim
  | succ n ih =>
    intro x3 μ h
    rw [mdf_days_L20] at h
    refine jj_iload_n dX8_days_20 2 rfl ?_
    refine jj_iload_n dX8_days_21 1 rfl ?_
    refine jj_icmp_ge 35 dX8_days_22 (by decide) (fun c1 => ?_) (fun c1 => ?_)
    · replace h := (if_pos c1).symm.trans h
      refine jj_aload_n dX8_days_35 0 rfl ?_
      obtain ⟨q2, e2, h⟩ := jj_be h
      refine jj_callVi [] [] (c_mdf_dead (d + 2)  e2) jm_mdf_dead lk_8_217 (b := 60) rfl (by decide) (jj_E8 rfl) rfl rfl rfl (by omega) rfl (Nat.le_of_ble_eq_true rfl) dX8_days_36 ?_
      exact jj_iret2 hF dX8_days_39 (Option.some.inj h)
    · replace h := (if_neg c1).symm.trans h
      refine jj_aload_n dX8_days_25 0 rfl ?_
      obtain ⟨q3, e3, h⟩ := jj_be h
      refine jj_callVv [] [] (c_mdf_day (d + 0)  e3) jm_mdf_day lk_8_214 (b := 60) rfl (by decide) (jj_E8 rfl) rfl rfl rfl (by omega) rfl (Nat.le_of_ble_eq_true rfl) dX8_days_26 ?_
      refine jj_iinc (x3 + 1) [(3, .int (x3 + 1)), (0, .ref (jj_ad g 60)), (1, .int x1)] dX8_days_29 2 rfl rfl (by decide) rfl ?_
      refine jj_goto 20 dX8_days_32 (by decide) ?_
      refine jj_sub [1, 2, 0] rfl ?_
      exact ih _ _ h
def mdf_days (N : Nat) (x1 : Int32) (μ : jj_M) : Option (Int32 × jj_M) := if (mdf_wrongDays x1 60 μ) = 0 then mdf_days_L20 N x1 N 0 μ else (mdf_errs (mdf_wrongDays x1 60 μ) μ).bind fun q2 => some ((q2.1, q2.2))
set_option maxRecDepth 100000 in
theorem c_mdf_days {g : jj_G} (d : Nat) {N : Nat} {x1 : Int32} {μ : jj_M} {r : Int32} {μ' : jj_M}   (h : mdf_days N x1 μ = some (r, μ')) : jj_N g yX8_days cX8_days 4 (some .int) (d + 5) [.ref (jj_ad g 60), .int x1] μ (some (.int r)) μ' := by
  refine jj_N_of jn_8 (Nat.le_of_ble_eq_true rfl) (fun X hF => ?_)
  unfold mdf_days at h
  refine jj_sub (own := RX8) (lv2 := [(0, .ref (jj_ad g 60)), (1, .int x1)]) [0, 1] rfl ?_
  refine jj_aload_n dX8_days_0 0 rfl ?_
  refine jj_iload_n dX8_days_1 1 rfl ?_
  refine jj_bipush (60) dX8_days_2 rfl ?_
  refine jj_callVi [.int x1, .int 60] [] (c_mdf_wrongDays (d + 3)  rfl) jm_mdf_wrongDays lk_8_211 (b := 60) rfl (by decide) (jj_E8 rfl) rfl rfl rfl (by omega) rfl (Nat.le_of_ble_eq_true rfl) dX8_days_4 ?_
  refine jj_istore_n [(2, .int (mdf_wrongDays x1 60 μ)), (0, .ref (jj_ad g 60)), (1, .int x1)] dX8_days_7 (by decide) rfl ?_
  refine jj_iload_n dX8_days_8 0 rfl ?_
  refine jj_if_eq 18 dX8_days_9 (by decide) (fun c1 => ?_) (fun c1 => ?_)
  · replace h := (if_pos c1).symm.trans h
    refine jj_iconst (0) dX8_days_18 rfl ?_
    refine jj_istore_n [(3, .int 0), (2, .int (mdf_wrongDays x1 60 μ)), (0, .ref (jj_ad g 60)), (1, .int x1)] dX8_days_19 (by decide) rfl ?_
    refine jj_sub [2, 3, 0] rfl ?_
    exact t_mdf_days_L20 d   hF  _ _ _ h
  · replace h := (if_neg c1).symm.trans h
    refine jj_aload_n dX8_days_12 1 rfl ?_
    refine jj_iload_n dX8_days_13 0 rfl ?_
    obtain ⟨q2, e2, h⟩ := jj_be h
    refine jj_callVi [.int (mdf_wrongDays x1 60 μ)] [] (c_mdf_errs (d + 4)  e2) jm_mdf_errs lk_8_68 (b := 60) rfl (by decide) (jj_E8 rfl) rfl rfl rfl (by omega) rfl (Nat.le_of_ble_eq_true rfl) dX8_days_14 ?_
    exact jj_iret2 hF dX8_days_17 (Option.some.inj h)
def mdf_draw   (μ : jj_M) : Int32 × jj_M := ((Int32.toUInt32 ((jj_u μ 61 176 (((μ 61 176) * 1103515245) + 12345)) 61 176) >>> (Int32.toUInt32 8 &&& Int32.toUInt32 31)).toInt32, jj_u μ 61 176 (((μ 61 176) * 1103515245) + 12345))
set_option maxRecDepth 100000 in
theorem c_mdf_draw {g : jj_G} (d : Nat)   {μ : jj_M} {r : Int32} {μ' : jj_M}   (h : mdf_draw μ = (r, μ')) : jj_N g yX8_draw cX8_draw 1 (some .int) (d + 0) [.ref (jj_ad g 60)] μ (some (.int r)) μ' := by
  refine jj_N_of jn_8 (Nat.le_of_ble_eq_true rfl) (fun X hF => ?_)
  unfold mdf_draw at h
  refine jj_sub (own := RX8) (lv2 := [(0, .ref (jj_ad g 60))]) [0] rfl ?_
  refine jj_aload_n dX8_draw_0 0 rfl ?_
  refine jg_8_0 (k := 60) rfl lk_8_7 dX8_draw_1 ?_
  show jj_V g X _ _ _ _ _ _ (.ref (jj_ad g 61) :: _) _
  refine jj_sipush (176) dX8_draw_4 rfl ?_
  refine jj_aload_n dX8_draw_7 0 rfl ?_
  refine jg_8_0 (k := 60) rfl lk_8_7 dX8_draw_8 ?_
  show jj_V g X _ _ _ _ _ _ (.ref (jj_ad g 61) :: _) _
  refine jj_sipush (176) dX8_draw_11 rfl ?_
  refine jj_iaload (k := 61) (n := 351) rfl (show jj_i 176 351 by decide) dX8_draw_14 ?_
  show jj_V g X _ _ _ _ _ _ (.int (μ 61 176) :: _) _
  refine jj_ldc (1103515245) lk_8_220 dX8_draw_15 ?_
  refine jj_imul dX8_draw_17 ?_
  refine jj_sipush (12345) dX8_draw_18 rfl ?_
  refine jj_iadd dX8_draw_21 ?_
  refine jj_iastore (k := 61) (n := 351) rfl (show jj_i 176 351 by decide) dX8_draw_22 ?_
  show jj_V g X _ _ _ _ _ _ _ (jj_u μ 61 176 (((μ 61 176) * 1103515245) + 12345))
  refine jj_aload_n dX8_draw_23 0 rfl ?_
  refine jg_8_0 (k := 60) rfl lk_8_7 dX8_draw_24 ?_
  show jj_V g X _ _ _ _ _ _ (.ref (jj_ad g 61) :: _) _
  refine jj_sipush (176) dX8_draw_27 rfl ?_
  refine jj_iaload (k := 61) (n := 351) rfl (show jj_i 176 351 by decide) dX8_draw_30 ?_
  show jj_V g X _ _ _ _ _ _ (.int ((jj_u μ 61 176 (((μ 61 176) * 1103515245) + 12345)) 61 176) :: _) _
  refine jj_bipush (8) dX8_draw_31 rfl ?_
  refine jj_iushr dX8_draw_33 ?_
  exact jj_iret2 hF dX8_draw_34 h
def mdf_loose_L20 (N : Nat)  (x1 : Int32) : Nat → Int32 → jj_M → Option (Int32 × jj_M)
  | 0, _, _ => none
  | n + 1, x3, μ => if x1 ≤ x3 then (mdf_dead N μ).bind fun q2 => some ((q2, μ)) else if jj_i (0 + (((mdf_draw μ).1) - ((mdf_draw μ).1) / 8 * 8)) 351 then (some (jj_u ((mdf_draw ((mdf_draw μ).2)).2) 61 (0 + (((mdf_draw μ).1) - ((mdf_draw μ).1) / 8 * 8)).toNatClampNeg (((mdf_draw ((mdf_draw μ).2)).1) - ((mdf_draw ((mdf_draw μ).2)).1) / 20 * 20))).bind fun m4 => (mdf_day N m4).bind fun q5 => mdf_loose_L20 N x1 n (x3 + 1) q5 else none
set_option maxRecDepth 100000 in
theorem t_mdf_loose_L20 {g : jj_G} (d : Nat) {N : Nat}  {x1 : Int32}  {r : Int32} {μ' : jj_M} {X : jj_X}   (hF : jj_F g (some .int) (some (.int r)) μ' X)  : ∀ (n : Nat) (x3 : Int32) (μ : jj_M), mdf_loose_L20 N x1 n x3 μ = some (r, μ') → jj_V g X RX8 cX8_loose 5 (d + 5) 20 [(0, .ref (jj_ad g 60)), (1, .int x1), (3, .int x3)] [] μ := by
  intro n
  induction n with
  | zero =>
    intro x3 μ h
    exact (jj_no h).elim
  | succ n ih =>
    intro x3 μ h
    rw [mdf_loose_L20] at h
    refine jj_iload_n dX8_loose_20 2 rfl ?_
    refine jj_iload_n dX8_loose_21 1 rfl ?_
    refine jj_icmp_ge 60 dX8_loose_22 (by decide) (fun c1 => ?_) (fun c1 => ?_)
    · replace h := (if_pos c1).symm.trans h
      refine jj_aload_n dX8_loose_60 0 rfl ?_
      obtain ⟨q2, e2, h⟩ := jj_be h
      refine jj_callVi [] [] (c_mdf_dead (d + 2)  e2) jm_mdf_dead lk_8_217 (b := 60) rfl (by decide) (jj_E8 rfl) rfl rfl rfl (by omega) rfl (Nat.le_of_ble_eq_true rfl) dX8_loose_61 ?_
      exact jj_iret2 hF dX8_loose_64 (Option.some.inj h)
    · replace h := (if_neg c1).symm.trans h
      refine jj_aload_n dX8_loose_25 0 rfl ?_
      refine jj_callVi [] [] (c_mdf_draw (d + 4)  rfl) jm_mdf_draw lk_8_221 (b := 60) rfl (by decide) (jj_E8 rfl) rfl rfl rfl (by omega) rfl (Nat.le_of_ble_eq_true rfl) dX8_loose_26 ?_
      refine jj_bipush (8) dX8_loose_29 rfl ?_
      refine jj_irem dX8_loose_31 (by decide) ?_
      refine jj_istore [(4, .int (((mdf_draw μ).1) - ((mdf_draw μ).1) / 8 * 8)), (0, .ref (jj_ad g 60)), (1, .int x1), (3, .int x3)] dX8_loose_32 (by decide) rfl ?_
      refine jj_aload_n dX8_loose_34 1 rfl ?_
      refine jg_8_0 (k := 60) rfl lk_8_7 dX8_loose_35 ?_
      show jj_V g X _ _ _ _ _ _ (.ref (jj_ad g 61) :: _) _
      refine jj_iconst (0) dX8_loose_38 rfl ?_
      refine jj_iload dX8_loose_39 0 rfl ?_
      refine jj_iadd dX8_loose_41 ?_
      refine jj_aload_n dX8_loose_42 1 rfl ?_
      refine jj_callVi [] [.int (0 + (((mdf_draw μ).1) - ((mdf_draw μ).1) / 8 * 8)), .ref (jj_ad g 61)] (c_mdf_draw (d + 4)  rfl) jm_mdf_draw lk_8_221 (b := 60) rfl (by decide) (jj_E8 rfl) rfl rfl rfl (by omega) rfl (Nat.le_of_ble_eq_true rfl) dX8_loose_43 ?_
      refine jj_bipush (20) dX8_loose_46 rfl ?_
      refine jj_irem dX8_loose_48 (by decide) ?_
      obtain ⟨g3, h⟩ := jj_ge h
      refine jj_iastore (k := 61) (n := 351) rfl g3 dX8_loose_49 ?_
      obtain ⟨m4, em4, h⟩ := jj_be h
      refine jj_mu em4 ?_
      refine jj_aload_n dX8_loose_50 1 rfl ?_
      obtain ⟨q5, e5, h⟩ := jj_be h
      refine jj_callVv [] [] (c_mdf_day (d + 0)  e5) jm_mdf_day lk_8_214 (b := 60) rfl (by decide) (jj_E8 rfl) rfl rfl rfl (by omega) rfl (Nat.le_of_ble_eq_true rfl) dX8_loose_51 ?_
      refine jj_iinc (x3 + 1) [(3, .int (x3 + 1)), (4, .int (((mdf_draw μ).1) - ((mdf_draw μ).1) / 8 * 8)), (0, .ref (jj_ad g 60)), (1, .int x1)] dX8_loose_54 3 rfl rfl (by decide) rfl ?_
      refine jj_goto 20 dX8_loose_57 (by decide) ?_
      refine jj_sub [2, 3, 0] rfl ?_
      exact ih _ _ h
def mdf_loose (N : Nat) (x1 : Int32) (μ : jj_M) : Option (Int32 × jj_M) := if (mdf_wrongDays x1 40 μ) = 0 then mdf_loose_L20 N x1 N 0 μ else (mdf_errs (mdf_wrongDays x1 40 μ) μ).bind fun q2 => some ((q2.1, q2.2))
set_option maxRecDepth 100000 in
theorem c_mdf_loose {g : jj_G} (d : Nat) {N : Nat} {x1 : Int32} {μ : jj_M} {r : Int32} {μ' : jj_M}   (h : mdf_loose N x1 μ = some (r, μ')) : jj_N g yX8_loose cX8_loose 5 (some .int) (d + 5) [.ref (jj_ad g 60), .int x1] μ (some (.int r)) μ' := by
  refine jj_N_of jn_8 (Nat.le_of_ble_eq_true rfl) (fun X hF => ?_)
  unfold mdf_loose at h
  refine jj_sub (own := RX8) (lv2 := [(0, .ref (jj_ad g 60)), (1, .int x1)]) [0, 1] rfl ?_
  refine jj_aload_n dX8_loose_0 0 rfl ?_
  refine jj_iload_n dX8_loose_1 1 rfl ?_
  refine jj_bipush (40) dX8_loose_2 rfl ?_
  refine jj_callVi [.int x1, .int 40] [] (c_mdf_wrongDays (d + 3)  rfl) jm_mdf_wrongDays lk_8_211 (b := 60) rfl (by decide) (jj_E8 rfl) rfl rfl rfl (by omega) rfl (Nat.le_of_ble_eq_true rfl) dX8_loose_4 ?_
  refine jj_istore_n [(2, .int (mdf_wrongDays x1 40 μ)), (0, .ref (jj_ad g 60)), (1, .int x1)] dX8_loose_7 (by decide) rfl ?_
  refine jj_iload_n dX8_loose_8 0 rfl ?_
  refine jj_if_eq 18 dX8_loose_9 (by decide) (fun c1 => ?_) (fun c1 => ?_)
  · replace h := (if_pos c1).symm.trans h
    refine jj_iconst (0) dX8_loose_18 rfl ?_
    refine jj_istore_n [(3, .int 0), (2, .int (mdf_wrongDays x1 40 μ)), (0, .ref (jj_ad g 60)), (1, .int x1)] dX8_loose_19 (by decide) rfl ?_
    refine jj_sub [2, 3, 0] rfl ?_
    exact t_mdf_loose_L20 d   hF  _ _ _ h
  · replace h := (if_neg c1).symm.trans h
    refine jj_aload_n dX8_loose_12 1 rfl ?_
    refine jj_iload_n dX8_loose_13 0 rfl ?_
    obtain ⟨q2, e2, h⟩ := jj_be h
    refine jj_callVi [.int (mdf_wrongDays x1 40 μ)] [] (c_mdf_errs (d + 4)  e2) jm_mdf_errs lk_8_68 (b := 60) rfl (by decide) (jj_E8 rfl) rfl rfl rfl (by omega) rfl (Nat.le_of_ble_eq_true rfl) dX8_loose_14 ?_
    exact jj_iret2 hF dX8_loose_17 (Option.some.inj h)
def mdf_ones_L4 (N : Nat)   : Nat → Int32 → Int32 → Option (Int32)
  | 0, _, _ => none
  | n + 1, x1, x2 => if x2 = 0 then some x1 else mdf_ones_L4 N n (x1 + 1) (x2 &&& (x2 - 1))
set_option maxRecDepth 100000 in
theorem t_mdf_ones_L4 {g : jj_G} (d : Nat) {N : Nat}    {μ : jj_M} {r : Int32} {X : jj_X}   (hF : jj_F g (some .int) (some (.int r)) μ X)  : ∀ (n : Nat) (x1 : Int32) (x2 : Int32), mdf_ones_L4 N n x1 x2 = some r → jj_V g X RX8 cX8_ones 3 (d + 0) 4 [(1, .int x1), (2, .int x2)] [] μ := by
  intro n
  induction n with
  | zero =>
    intro x1 x2 h
    exact (jj_no h).elim
  | succ n ih =>
    intro x1 x2 h
    rw [mdf_ones_L4] at h
    refine jj_iload_n dX8_ones_4 1 rfl ?_
    refine jj_if_eq 20 dX8_ones_5 (by decide) (fun c1 => ?_) (fun c1 => ?_)
    · replace h := (if_pos c1).symm.trans h
      refine jj_iload_n dX8_ones_20 0 rfl ?_
      exact jj_iret1 hF dX8_ones_21 (Option.some.inj h)
    · replace h := (if_neg c1).symm.trans h
      refine jj_iinc (x1 + 1) [(1, .int (x1 + 1)), (2, .int x2)] dX8_ones_8 0 rfl rfl (by decide) rfl ?_
      refine jj_iload_n dX8_ones_11 1 rfl ?_
      refine jj_iload_n dX8_ones_12 1 rfl ?_
      refine jj_iconst (1) dX8_ones_13 rfl ?_
      refine jj_isub dX8_ones_14 ?_
      refine jj_iand dX8_ones_15 ?_
      refine jj_istore_n [(2, .int (x2 &&& (x2 - 1))), (1, .int (x1 + 1))] dX8_ones_16 (by decide) rfl ?_
      refine jj_goto 4 dX8_ones_17 (by decide) ?_
      refine jj_sub [1, 0] rfl ?_
      exact ih _ _ h
def mdf_ones (N : Nat) (x0 : Int32)  : Option (Int32) := mdf_ones_L4 N N 0 x0
set_option maxRecDepth 100000 in
theorem c_mdf_ones {g : jj_G} (d : Nat) {N : Nat} {x0 : Int32} {μ : jj_M} {r : Int32}   (h : mdf_ones N x0 = some r) : jj_N g yX8_ones cX8_ones 3 (some .int) (d + 0) [.int x0] μ (some (.int r)) μ := by
  refine jj_N_of jn_8 (Nat.le_of_ble_eq_true rfl) (fun X hF => ?_)
  unfold mdf_ones at h
  refine jj_sub (own := RX8) (lv2 := [(0, .int x0)]) [0] rfl ?_
  refine jj_iconst (0) dX8_ones_0 rfl ?_
  refine jj_istore_n [(1, .int 0), (0, .int x0)] dX8_ones_1 (by decide) rfl ?_
  refine jj_iload_n dX8_ones_2 1 rfl ?_
  refine jj_istore_n [(2, .int x0), (1, .int 0), (0, .int x0)] dX8_ones_3 (by decide) rfl ?_
  refine jj_sub [1, 0] rfl ?_
  exact t_mdf_ones_L4 d   hF  _ _ _ h
def mdf_same_L4 (N : Nat)  (μ : jj_M) : Nat → Int32 → Int32 → Option (Int32)
  | 0, _, _ => none
  | n + 1, x1, x2 => if 8 ≤ x2 then some x1 else (mdf_those N 3 x2 μ).bind fun q2 => (mdf_ones N q2).bind fun q3 => mdf_same_L4 N μ n (x1 + ((q3 * (q3 - 1)) / 2)) (x2 + 1)
set_option maxRecDepth 100000 in
theorem t_mdf_same_L4 {g : jj_G} (d : Nat) {N : Nat}  {μ : jj_M}  {r : Int32} {X : jj_X}   (hF : jj_F g (some .int) (some (.int r)) μ X)  : ∀ (n : Nat) (x1 : Int32) (x2 : Int32), mdf_same_L4 N μ n x1 x2 = some r → jj_V g X RX8 cX8_same 4 (d + 3) 4 [(0, .ref (jj_ad g 60)), (1, .int x1), (2, .int x2)] [] μ := by
  intro n
  induction n with
  | zero =>
    intro x1 x2 h
    exact (jj_no h).elim
  | succ n ih =>
    intro x1 x2 h
    rw [mdf_same_L4] at h
    refine jj_iload_n dX8_same_4 2 rfl ?_
    refine jj_bipush (8) dX8_same_5 rfl ?_
    refine jj_icmp_ge 36 dX8_same_7 (by decide) (fun c1 => ?_) (fun c1 => ?_)
    · replace h := (if_pos c1).symm.trans h
      refine jj_iload_n dX8_same_36 1 rfl ?_
      exact jj_iret1 hF dX8_same_37 (Option.some.inj h)
    · replace h := (if_neg c1).symm.trans h
      refine jj_aload_n dX8_same_10 0 rfl ?_
      refine jj_iconst (3) dX8_same_11 rfl ?_
      refine jj_iload_n dX8_same_12 2 rfl ?_
      obtain ⟨q2, e2, h⟩ := jj_be h
      refine jj_callVi [.int 3, .int x2] [] (c_mdf_those (d + 0)  e2) jm_mdf_those lk_8_87 (b := 60) rfl (by decide) (jj_E8 rfl) rfl rfl rfl (by omega) rfl (Nat.le_of_ble_eq_true rfl) dX8_same_13 ?_
      obtain ⟨q3, e3, h⟩ := jj_be h
      refine jj_callSi [.int q2] [] (c_mdf_ones (d + 2)  e3) jm_mdf_ones lk_8_224 rfl (by omega) rfl (Nat.le_of_ble_eq_true rfl) dX8_same_16 ?_
      refine jj_istore_n [(3, .int q3), (0, .ref (jj_ad g 60)), (1, .int x1), (2, .int x2)] dX8_same_19 (by decide) rfl ?_
      refine jj_iload_n dX8_same_20 2 rfl ?_
      refine jj_iload_n dX8_same_21 0 rfl ?_
      refine jj_iload_n dX8_same_22 0 rfl ?_
      refine jj_iconst (1) dX8_same_23 rfl ?_
      refine jj_isub dX8_same_24 ?_
      refine jj_imul dX8_same_25 ?_
      refine jj_iconst (2) dX8_same_26 rfl ?_
      refine jj_idiv dX8_same_27 (by decide) ?_
      refine jj_iadd dX8_same_28 ?_
      refine jj_istore_n [(1, .int (x1 + ((q3 * (q3 - 1)) / 2))), (3, .int q3), (0, .ref (jj_ad g 60)), (2, .int x2)] dX8_same_29 (by decide) rfl ?_
      refine jj_iinc (x2 + 1) [(2, .int (x2 + 1)), (1, .int (x1 + ((q3 * (q3 - 1)) / 2))), (3, .int q3), (0, .ref (jj_ad g 60))] dX8_same_30 3 rfl rfl (by decide) rfl ?_
      refine jj_goto 4 dX8_same_33 (by decide) ?_
      refine jj_sub [3, 1, 0] rfl ?_
      exact ih _ _ h
def mdf_same (N : Nat)  (μ : jj_M) : Option (Int32) := mdf_same_L4 N μ N 0 0
set_option maxRecDepth 100000 in
theorem c_mdf_same {g : jj_G} (d : Nat) {N : Nat}  {μ : jj_M} {r : Int32}   (h : mdf_same N μ = some r) : jj_N g yX8_same cX8_same 4 (some .int) (d + 3) [.ref (jj_ad g 60)] μ (some (.int r)) μ := by
  refine jj_N_of jn_8 (Nat.le_of_ble_eq_true rfl) (fun X hF => ?_)
  unfold mdf_same at h
  refine jj_sub (own := RX8) (lv2 := [(0, .ref (jj_ad g 60))]) [0] rfl ?_
  refine jj_iconst (0) dX8_same_0 rfl ?_
  refine jj_istore_n [(1, .int 0), (0, .ref (jj_ad g 60))] dX8_same_1 (by decide) rfl ?_
  refine jj_iconst (0) dX8_same_2 rfl ?_
  refine jj_istore_n [(2, .int 0), (1, .int 0), (0, .ref (jj_ad g 60))] dX8_same_3 (by decide) rfl ?_
  refine jj_sub [2, 1, 0] rfl ?_
  exact t_mdf_same_L4 d   hF  _ _ _ h
def mdf_mayDrink (N : Nat) (x1 : Int32) (x2 : Int32) (x3 : Int32) (μ : jj_M) : Option (Int32 × jj_M) := if ((x3 >>> (x2 &&& 31)) &&& 1) = 0 then if jj_i (0 + x2) 351 then (mdf_needsOf N x1 0 μ).bind fun q3 => if (μ 61 (0 + x2).toNatClampNeg) < q3.1 then some ((0, q3.2)) else some ((1, q3.2)) else none else some ((0, μ))
set_option maxRecDepth 100000 in
theorem c_mdf_mayDrink {g : jj_G} (d : Nat) {N : Nat} {x1 : Int32} {x2 : Int32} {x3 : Int32} {μ : jj_M} {r : Int32} {μ' : jj_M}   (h : mdf_mayDrink N x1 x2 x3 μ = some (r, μ')) : jj_N g yX8_mayDrink cX8_mayDrink 4 (some .boolean) (d + 56) [.ref (jj_ad g 60), .int x1, .int x2, .int x3] μ (some (.int r)) μ' := by
  refine jj_N_of jn_8 (Nat.le_of_ble_eq_true rfl) (fun X hF => ?_)
  unfold mdf_mayDrink at h
  refine jj_sub (own := RX8) (lv2 := [(0, .ref (jj_ad g 60)), (1, .int x1), (2, .int x2), (3, .int x3)]) [0, 1, 2, 3] rfl ?_
  refine jj_iload_n dX8_mayDrink_0 3 rfl ?_
  refine jj_iload_n dX8_mayDrink_1 2 rfl ?_
  refine jj_ishr dX8_mayDrink_2 ?_
  refine jj_iconst (1) dX8_mayDrink_3 rfl ?_
  refine jj_iand dX8_mayDrink_4 ?_
  refine jj_if_ne 29 dX8_mayDrink_5 (by decide) (fun c1 => ?_) (fun c1 => ?_)
  · replace h := (if_neg c1).symm.trans h
    refine jj_iconst (0) dX8_mayDrink_29 rfl ?_
    exact jj_zret2 hF dX8_mayDrink_30 (Or.inl rfl) (Option.some.inj h)
  · replace h := (if_pos c1).symm.trans h
    refine jj_aload_n dX8_mayDrink_8 0 rfl ?_
    refine jg_8_0 (k := 60) rfl lk_8_7 dX8_mayDrink_9 ?_
    show jj_V g X _ _ _ _ _ _ (.ref (jj_ad g 61) :: _) _
    refine jj_iconst (0) dX8_mayDrink_12 rfl ?_
    refine jj_iload_n dX8_mayDrink_13 2 rfl ?_
    refine jj_iadd dX8_mayDrink_14 ?_
    obtain ⟨g2, h⟩ := jj_ge h
    refine jj_iaload (k := 61) (n := 351) rfl g2 dX8_mayDrink_15 ?_
    refine jj_aload_n dX8_mayDrink_16 0 rfl ?_
    refine jj_iload_n dX8_mayDrink_17 1 rfl ?_
    refine jj_iconst (0) dX8_mayDrink_18 rfl ?_
    obtain ⟨q3, e3, h⟩ := jj_be h
    refine jj_callVi [.int x1, .int 0] [.int (μ 61 (0 + x2).toNatClampNeg)] (c_mdf_needsOf (d + 0)  e3) jm_mdf_needsOf lk_8_111 (b := 60) rfl (by decide) (jj_E8 rfl) rfl rfl rfl (by omega) rfl (Nat.le_of_ble_eq_true rfl) dX8_mayDrink_19 ?_
    refine jj_icmp_lt 29 dX8_mayDrink_22 (by decide) (fun c4 => ?_) (fun c4 => ?_)
    · replace h := (if_pos c4).symm.trans h
      refine jj_iconst (0) dX8_mayDrink_29 rfl ?_
      exact jj_zret2 hF dX8_mayDrink_30 (Or.inl rfl) (Option.some.inj h)
    · replace h := (if_neg c4).symm.trans h
      refine jj_iconst (1) dX8_mayDrink_25 rfl ?_
      refine jj_goto 30 dX8_mayDrink_26 (by decide) ?_
      exact jj_zret2 hF dX8_mayDrink_30 (Or.inr rfl) (Option.some.inj h)
def mdf_lessens_B24   (x3 : Int32) (x4 : Int32) (sx0 : Int32) (μ : jj_M) : Option (Int32 × jj_M) := if sx0 = 0 then if jj_i x4 296 then if jj_i x4 296 then if sx0 = 0 ∨ sx0 = 1 then some ((sx0, jj_u μ 65 x4.toNatClampNeg (μ 65 x4.toNatClampNeg))) else none else none else none else if jj_i x4 296 then if sx0 = 0 ∨ sx0 = 1 then some ((sx0, jj_u μ 65 x4.toNatClampNeg x3)) else none else none
set_option maxRecDepth 100000 in
theorem t_mdf_lessens_B24 {g : jj_G} (d : Nat)   {x3 : Int32} {x4 : Int32} {sx0 : Int32} {μ : jj_M}  {r : Int32} {μ' : jj_M} {X : jj_X}   (hF : jj_F g (some .boolean) (some (.int r)) μ' X)  (h : mdf_lessens_B24 x3 x4 sx0 μ = some (r, μ')) : jj_V g X RX8 cX8_lessens 6 (d + 0) 24 [(0, .ref (jj_ad g 60)), (3, .int x3), (4, .int x4)] [.int sx0] μ := by
  unfold mdf_lessens_B24 at h
  refine jj_istore [(5, .int sx0), (0, .ref (jj_ad g 60)), (3, .int x3), (4, .int x4)] dX8_lessens_24 (by decide) rfl ?_
  refine jj_aload_n dX8_lessens_26 1 rfl ?_
  refine jg_8_14 (k := 60) rfl lk_8_22 dX8_lessens_27 ?_
  show jj_V g X _ _ _ _ _ _ (.ref (jj_ad g 65) :: _) _
  refine jj_iload dX8_lessens_30 3 rfl ?_
  refine jj_iload dX8_lessens_32 0 rfl ?_
  refine jj_if_eq 41 dX8_lessens_34 (by decide) (fun c1 => ?_) (fun c1 => ?_)
  · replace h := (if_pos c1).symm.trans h
    refine jj_aload_n dX8_lessens_41 1 rfl ?_
    refine jg_8_14 (k := 60) rfl lk_8_22 dX8_lessens_42 ?_
    show jj_V g X _ _ _ _ _ _ (.ref (jj_ad g 65) :: _) _
    refine jj_iload dX8_lessens_45 3 rfl ?_
    obtain ⟨g2, h⟩ := jj_ge h
    refine jj_iaload (k := 65) (n := 296) rfl g2 dX8_lessens_47 ?_
    obtain ⟨g3, h⟩ := jj_ge h
    refine jj_iastore (k := 65) (n := 296) rfl g3 dX8_lessens_48 ?_
    refine jj_iload dX8_lessens_49 0 rfl ?_
    obtain ⟨g4, h⟩ := jj_ge h
    exact jj_zret2 hF dX8_lessens_51 g4 (Option.some.inj h)
  · replace h := (if_neg c1).symm.trans h
    refine jj_iload_n dX8_lessens_37 2 rfl ?_
    refine jj_goto 48 dX8_lessens_38 (by decide) ?_
    obtain ⟨g5, h⟩ := jj_ge h
    refine jj_iastore (k := 65) (n := 296) rfl g5 dX8_lessens_48 ?_
    refine jj_iload dX8_lessens_49 0 rfl ?_
    obtain ⟨g6, h⟩ := jj_ge h
    exact jj_zret2 hF dX8_lessens_51 g6 (Option.some.inj h)
def mdf_lessens  (x1 : Int32) (x2 : Int32) (x3 : Int32) (μ : jj_M) : Option (Int32 × jj_M) := if jj_i ((37 * x1) + x2) 296 then if (μ 65 ((37 * x1) + x2).toNatClampNeg) ≤ x3 then mdf_lessens_B24 x3 ((37 * x1) + x2) 0 μ else mdf_lessens_B24 x3 ((37 * x1) + x2) 1 μ else none
set_option maxRecDepth 100000 in
theorem c_mdf_lessens {g : jj_G} (d : Nat)  {x1 : Int32} {x2 : Int32} {x3 : Int32} {μ : jj_M} {r : Int32} {μ' : jj_M}   (h : mdf_lessens x1 x2 x3 μ = some (r, μ')) : jj_N g yX8_lessens cX8_lessens 6 (some .boolean) (d + 0) [.ref (jj_ad g 60), .int x1, .int x2, .int x3] μ (some (.int r)) μ' := by
  refine jj_N_of jn_8 (Nat.le_of_ble_eq_true rfl) (fun X hF => ?_)
  unfold mdf_lessens at h
  refine jj_sub (own := RX8) (lv2 := [(0, .ref (jj_ad g 60)), (1, .int x1), (2, .int x2), (3, .int x3)]) [0, 1, 2, 3] rfl ?_
  refine jj_bipush (37) dX8_lessens_0 rfl ?_
  refine jj_iload_n dX8_lessens_2 1 rfl ?_
  refine jj_imul dX8_lessens_3 ?_
  refine jj_iload_n dX8_lessens_4 2 rfl ?_
  refine jj_iadd dX8_lessens_5 ?_
  refine jj_istore [(4, .int ((37 * x1) + x2)), (0, .ref (jj_ad g 60)), (1, .int x1), (2, .int x2), (3, .int x3)] dX8_lessens_6 (by decide) rfl ?_
  refine jj_iload_n dX8_lessens_8 4 rfl ?_
  refine jj_aload_n dX8_lessens_9 1 rfl ?_
  refine jg_8_14 (k := 60) rfl lk_8_22 dX8_lessens_10 ?_
  show jj_V g X _ _ _ _ _ _ (.ref (jj_ad g 65) :: _) _
  refine jj_iload dX8_lessens_13 0 rfl ?_
  obtain ⟨g1, h⟩ := jj_ge h
  refine jj_iaload (k := 65) (n := 296) rfl g1 dX8_lessens_15 ?_
  refine jj_icmp_ge 23 dX8_lessens_16 (by decide) (fun c2 => ?_) (fun c2 => ?_)
  · replace h := (if_pos c2).symm.trans h
    refine jj_iconst (0) dX8_lessens_23 rfl ?_
    refine jj_sub [1, 4, 0] rfl ?_
    exact t_mdf_lessens_B24 d   hF  h
  · replace h := (if_neg c2).symm.trans h
    refine jj_iconst (1) dX8_lessens_19 rfl ?_
    refine jj_goto 24 dX8_lessens_20 (by decide) ?_
    refine jj_sub [1, 4, 0] rfl ?_
    exact t_mdf_lessens_B24 d   hF  h
def mdf_spreads_L189 (N : Nat) (k108 : Int32 → jj_M → Option (jj_M)) (k119 : Int32 → Int32 → jj_M → Option (jj_M)) (x1 : Int32) (x2 : Int32) (x3 : Int32) (x4 : Int32) (x6 : Int32) (x7 : Int32) (x8 : Int32) : Nat → Int32 → Int32 → jj_M → Option (jj_M)
  | 0, _, _, _ => none
  | n + 1, x5, x9, μ => if 8 ≤ x9 then k119 x5 (x6 + 1) μ else if 1000000 ≤ x7 then k119 x5 (x6 + 1) μ else if jj_i ((8 * x8) + x9) 64 then if x4 < ((x6 - x6 / 37 * 37) + (μ 66 ((8 * x8) + x9).toNatClampNeg)) then mdf_spreads_L189 N k108 k119 x1 x2 x3 x4 x6 x7 x8 n x5 (x9 + 1) μ else if x3 = 0 then (mdf_lessens x9 ((x6 - x6 / 37 * 37) + (μ 66 ((8 * x8) + x9).toNatClampNeg)) x7 μ).bind fun q6 => mdf_spreads_L189 N k108 k119 x1 x2 x3 x4 x6 x7 x8 n (x5 ||| q6.1) (x9 + 1) q6.2 else if jj_i ((8 + (8 * x8)) + x9) 351 then (mdf_lessens x9 ((x6 - x6 / 37 * 37) + (μ 66 ((8 * x8) + x9).toNatClampNeg)) (x7 + (μ 61 ((8 + (8 * x8)) + x9).toNatClampNeg)) μ).bind fun q8 => mdf_spreads_L189 N k108 k119 x1 x2 x3 x4 x6 x7 x8 n (x5 ||| q8.1) (x9 + 1) q8.2 else none else none
set_option maxRecDepth 100000 in
theorem t_mdf_spreads_L189 {g : jj_G} (d : Nat) {N : Nat} {k108 : Int32 → jj_M → Option (jj_M)} {k119 : Int32 → Int32 → jj_M → Option (jj_M)} {x1 : Int32} {x2 : Int32} {x3 : Int32} {x4 : Int32} {x6 : Int32} {x7 : Int32} {x8 : Int32}  {μ' : jj_M} {X : jj_X}   (hF : jj_F g none none μ' X) (hk108 : ∀ (x5 : Int32) (μ : jj_M), k108 x5 μ = some μ' → jj_V g X RX8 cX8_spreads 11 (d + 57) 108 [(0, .ref (jj_ad g 60)), (1, .int x1), (2, .int x2), (3, .int x3), (4, .int x4), (5, .int x5)] [] μ) (hk119 : ∀ (x5 : Int32) (x6 : Int32) (μ : jj_M), k119 x5 x6 μ = some μ' → jj_V g X RX8 cX8_spreads 11 (d + 57) 119 [(0, .ref (jj_ad g 60)), (1, .int x1), (2, .int x2), (3, .int x3), (4, .int x4), (5, .int x5), (6, .int x6)] [] μ) : ∀ (n : Nat) (x5 : Int32) (x9 : Int32) (μ : jj_M), mdf_spreads_L189 N k108 k119 x1 x2 x3 x4 x6 x7 x8 n x5 x9 μ = some μ' → jj_V g X RX8 cX8_spreads 11 (d + 57) 189 [(0, .ref (jj_ad g 60)), (1, .int x1), (2, .int x2), (3, .int x3), (4, .int x4), (5, .int x5), (6, .int x6), (7, .int x7), (8, .int x8), (9, .int x9)] [] μ := by
  intro n
  induction n with
  | zero =>
    intro x5 x9 μ h
    exact (jj_no h).elim
  | succ n ih =>
    intro x5 x9 μ h
    rw [mdf_spreads_L189] at h
    refine jj_iload dX8_spreads_189 9 rfl ?_
    refine jj_bipush (8) dX8_spreads_191 rfl ?_
    refine jj_icmp_ge 278 dX8_spreads_193 (by decide) (fun c1 => ?_) (fun c1 => ?_)
    · replace h := (if_pos c1).symm.trans h
      refine jj_iinc (x6 + 1) [(6, .int (x6 + 1)), (0, .ref (jj_ad g 60)), (1, .int x1), (2, .int x2), (3, .int x3), (4, .int x4), (5, .int x5), (7, .int x7), (8, .int x8), (9, .int x9)] dX8_spreads_278 6 rfl rfl (by decide) rfl ?_
      refine jj_goto 119 dX8_spreads_281 (by decide) ?_
      refine jj_sub [1, 2, 3, 4, 5, 6, 0] rfl ?_
      exact hk119 _ _ _ h
    · replace h := (if_neg c1).symm.trans h
      refine jj_iload dX8_spreads_196 7 rfl ?_
      refine jj_ldc (1000000) lk_8_227 dX8_spreads_198 ?_
      refine jj_icmp_ge 278 dX8_spreads_200 (by decide) (fun c2 => ?_) (fun c2 => ?_)
      · replace h := (if_pos c2).symm.trans h
        refine jj_iinc (x6 + 1) [(6, .int (x6 + 1)), (0, .ref (jj_ad g 60)), (1, .int x1), (2, .int x2), (3, .int x3), (4, .int x4), (5, .int x5), (7, .int x7), (8, .int x8), (9, .int x9)] dX8_spreads_278 6 rfl rfl (by decide) rfl ?_
        refine jj_goto 119 dX8_spreads_281 (by decide) ?_
        refine jj_sub [1, 2, 3, 4, 5, 6, 0] rfl ?_
        exact hk119 _ _ _ h
      · replace h := (if_neg c2).symm.trans h
        refine jj_iload dX8_spreads_203 6 rfl ?_
        refine jj_bipush (37) dX8_spreads_205 rfl ?_
        refine jj_irem dX8_spreads_207 (by decide) ?_
        refine jj_aload_n dX8_spreads_208 0 rfl ?_
        refine jg_8_15 (k := 60) rfl lk_8_25 dX8_spreads_209 ?_
        show jj_V g X _ _ _ _ _ _ (.ref (jj_ad g 66) :: _) _
        refine jj_bipush (8) dX8_spreads_212 rfl ?_
        refine jj_iload dX8_spreads_214 8 rfl ?_
        refine jj_imul dX8_spreads_216 ?_
        refine jj_iload dX8_spreads_217 9 rfl ?_
        refine jj_iadd dX8_spreads_219 ?_
        obtain ⟨g3, h⟩ := jj_ge h
        refine jj_iaload (k := 66) (n := 64) rfl g3 dX8_spreads_220 ?_
        refine jj_iadd dX8_spreads_221 ?_
        refine jj_istore [(10, .int ((x6 - x6 / 37 * 37) + (μ 66 ((8 * x8) + x9).toNatClampNeg))), (0, .ref (jj_ad g 60)), (1, .int x1), (2, .int x2), (3, .int x3), (4, .int x4), (5, .int x5), (6, .int x6), (7, .int x7), (8, .int x8), (9, .int x9)] dX8_spreads_222 (by decide) rfl ?_
        refine jj_iload dX8_spreads_224 0 rfl ?_
        refine jj_iload dX8_spreads_226 5 rfl ?_
        refine jj_icmp_gt 272 dX8_spreads_228 (by decide) (fun c4 => ?_) (fun c4 => ?_)
        · replace h := (if_pos c4).symm.trans h
          refine jj_iinc (x9 + 1) [(9, .int (x9 + 1)), (10, .int ((x6 - x6 / 37 * 37) + (μ 66 ((8 * x8) + x9).toNatClampNeg))), (0, .ref (jj_ad g 60)), (1, .int x1), (2, .int x2), (3, .int x3), (4, .int x4), (5, .int x5), (6, .int x6), (7, .int x7), (8, .int x8)] dX8_spreads_272 10 rfl rfl (by decide) rfl ?_
          refine jj_goto 189 dX8_spreads_275 (by decide) ?_
          refine jj_sub [2, 3, 4, 5, 6, 7, 8, 9, 10, 0] rfl ?_
          exact ih _ _ _ h
        · replace h := (if_neg c4).symm.trans h
          refine jj_iload dX8_spreads_231 6 rfl ?_
          refine jj_aload_n dX8_spreads_233 1 rfl ?_
          refine jj_iload dX8_spreads_234 10 rfl ?_
          refine jj_iload dX8_spreads_236 0 rfl ?_
          refine jj_iload_n dX8_spreads_238 4 rfl ?_
          refine jj_if_eq 264 dX8_spreads_239 (by decide) (fun c5 => ?_) (fun c5 => ?_)
          · replace h := (if_pos c5).symm.trans h
            refine jj_iload dX8_spreads_264 8 rfl ?_
            obtain ⟨q6, e6, h⟩ := jj_be h
            refine jj_callVi [.int x9, .int ((x6 - x6 / 37 * 37) + (μ 66 ((8 * x8) + x9).toNatClampNeg)), .int x7] [.int x5] (c_mdf_lessens (d + 56)  e6) jm_mdf_lessens lk_8_228 (b := 60) rfl (by decide) (jj_E8 rfl) rfl rfl rfl (by omega) rfl (Nat.le_of_ble_eq_true rfl) dX8_spreads_266 ?_
            refine jj_ior dX8_spreads_269 ?_
            refine jj_istore [(5, .int (x5 ||| q6.1)), (10, .int ((x6 - x6 / 37 * 37) + (μ 66 ((8 * x8) + x9).toNatClampNeg))), (0, .ref (jj_ad g 60)), (1, .int x1), (2, .int x2), (3, .int x3), (4, .int x4), (6, .int x6), (7, .int x7), (8, .int x8), (9, .int x9)] dX8_spreads_270 (by decide) rfl ?_
            refine jj_iinc (x9 + 1) [(9, .int (x9 + 1)), (5, .int (x5 ||| q6.1)), (10, .int ((x6 - x6 / 37 * 37) + (μ 66 ((8 * x8) + x9).toNatClampNeg))), (0, .ref (jj_ad g 60)), (1, .int x1), (2, .int x2), (3, .int x3), (4, .int x4), (6, .int x6), (7, .int x7), (8, .int x8)] dX8_spreads_272 10 rfl rfl (by decide) rfl ?_
            refine jj_goto 189 dX8_spreads_275 (by decide) ?_
            refine jj_sub [3, 4, 5, 6, 7, 1, 8, 9, 10, 0] rfl ?_
            exact ih _ _ _ h
          · replace h := (if_neg c5).symm.trans h
            refine jj_iload dX8_spreads_242 8 rfl ?_
            refine jj_aload_n dX8_spreads_244 1 rfl ?_
            refine jg_8_0 (k := 60) rfl lk_8_7 dX8_spreads_245 ?_
            show jj_V g X _ _ _ _ _ _ (.ref (jj_ad g 61) :: _) _
            refine jj_bipush (8) dX8_spreads_248 rfl ?_
            refine jj_bipush (8) dX8_spreads_250 rfl ?_
            refine jj_iload dX8_spreads_252 9 rfl ?_
            refine jj_imul dX8_spreads_254 ?_
            refine jj_iadd dX8_spreads_255 ?_
            refine jj_iload dX8_spreads_256 10 rfl ?_
            refine jj_iadd dX8_spreads_258 ?_
            obtain ⟨g7, h⟩ := jj_ge h
            refine jj_iaload (k := 61) (n := 351) rfl g7 dX8_spreads_259 ?_
            refine jj_iadd dX8_spreads_260 ?_
            refine jj_goto 266 dX8_spreads_261 (by decide) ?_
            obtain ⟨q8, e8, h⟩ := jj_be h
            refine jj_callVi [.int x9, .int ((x6 - x6 / 37 * 37) + (μ 66 ((8 * x8) + x9).toNatClampNeg)), .int (x7 + (μ 61 ((8 + (8 * x8)) + x9).toNatClampNeg))] [.int x5] (c_mdf_lessens (d + 56)  e8) jm_mdf_lessens lk_8_228 (b := 60) rfl (by decide) (jj_E8 rfl) rfl rfl rfl (by omega) rfl (Nat.le_of_ble_eq_true rfl) dX8_spreads_266 ?_
            refine jj_ior dX8_spreads_269 ?_
            refine jj_istore [(5, .int (x5 ||| q8.1)), (10, .int ((x6 - x6 / 37 * 37) + (μ 66 ((8 * x8) + x9).toNatClampNeg))), (0, .ref (jj_ad g 60)), (1, .int x1), (2, .int x2), (3, .int x3), (4, .int x4), (6, .int x6), (7, .int x7), (8, .int x8), (9, .int x9)] dX8_spreads_270 (by decide) rfl ?_
            refine jj_iinc (x9 + 1) [(9, .int (x9 + 1)), (5, .int (x5 ||| q8.1)), (10, .int ((x6 - x6 / 37 * 37) + (μ 66 ((8 * x8) + x9).toNatClampNeg))), (0, .ref (jj_ad g 60)), (1, .int x1), (2, .int x2), (3, .int x3), (4, .int x4), (6, .int x6), (7, .int x7), (8, .int x8)] dX8_spreads_272 10 rfl rfl (by decide) rfl ?_
            refine jj_goto 189 dX8_spreads_275 (by decide) ?_
            refine jj_sub [3, 4, 5, 6, 7, 1, 8, 9, 10, 0] rfl ?_
            exact ih _ _ _ h
def mdf_spreads_L119 (N : Nat) (k108 : Int32 → jj_M → Option (jj_M)) (x1 : Int32) (x2 : Int32) (x3 : Int32) (x4 : Int32) : Nat → Int32 → Int32 → jj_M → Option (jj_M)
  | 0, _, _, _ => none
  | n + 1, x5, x6, μ => if 296 ≤ x6 then k108 x5 μ else if jj_i x6 296 then if 1000000 ≤ (μ 65 x6.toNatClampNeg) then mdf_spreads_L189 N k108 (mdf_spreads_L119 N k108 x1 x2 x3 x4 n) x1 x2 x3 x4 x6 (μ 65 x6.toNatClampNeg) (x6 / 37) N x5 0 μ else (mdf_mayDrink N x1 (x6 / 37) x2 μ).bind fun q4 => if q4.1 = 0 then mdf_spreads_L189 N k108 (mdf_spreads_L119 N k108 x1 x2 x3 x4 n) x1 x2 x3 x4 x6 (μ 65 x6.toNatClampNeg) (x6 / 37) N x5 0 q4.2 else if x3 = 0 then (mdf_lessens (x6 / 37) 0 ((μ 65 x6.toNatClampNeg) + 1) q4.2).bind fun q7 => mdf_spreads_L189 N k108 (mdf_spreads_L119 N k108 x1 x2 x3 x4 n) x1 x2 x3 x4 x6 (μ 65 x6.toNatClampNeg) (x6 / 37) N (x5 ||| q7.1) 0 q7.2 else (mdf_lessens (x6 / 37) 0 (μ 65 x6.toNatClampNeg) q4.2).bind fun q8 => mdf_spreads_L189 N k108 (mdf_spreads_L119 N k108 x1 x2 x3 x4 n) x1 x2 x3 x4 x6 (μ 65 x6.toNatClampNeg) (x6 / 37) N (x5 ||| q8.1) 0 q8.2 else none
set_option maxRecDepth 100000 in
theorem t_mdf_spreads_L119 {g : jj_G} (d : Nat) {N : Nat} {k108 : Int32 → jj_M → Option (jj_M)} {x1 : Int32} {x2 : Int32} {x3 : Int32} {x4 : Int32}  {μ' : jj_M} {X : jj_X}   (hF : jj_F g none none μ' X) (hk108 : ∀ (x5 : Int32) (μ : jj_M), k108 x5 μ = some μ' → jj_V g X RX8 cX8_spreads 11 (d + 57) 108 [(0, .ref (jj_ad g 60)), (1, .int x1), (2, .int x2), (3, .int x3), (4, .int x4), (5, .int x5)] [] μ) : ∀ (n : Nat) (x5 : Int32) (x6 : Int32) (μ : jj_M), mdf_spreads_L119 N k108 x1 x2 x3 x4 n x5 x6 μ = some μ' → jj_V g X RX8 cX8_spreads 11 (d + 57) 119 [(0, .ref (jj_ad g 60)), (1, .int x1), (2, .int x2), (3, .int x3), (4, .int x4), (5, .int x5), (6, .int x6)] [] μ := by
  intro n
  induction n with
  | zero =>
    intro x5 x6 μ h
    exact (jj_no h).elim
  | succ n ih =>
    intro x5 x6 μ h
    rw [mdf_spreads_L119] at h
    refine jj_iload dX8_spreads_119 6 rfl ?_
    refine jj_sipush (296) dX8_spreads_121 rfl ?_
    refine jj_icmp_ge 284 dX8_spreads_124 (by decide) (fun c1 => ?_) (fun c1 => ?_)
    · replace h := (if_pos c1).symm.trans h
      refine jj_goto 108 dX8_spreads_284 (by decide) ?_
      refine jj_sub [0, 1, 2, 3, 4, 5] rfl ?_
      exact hk108 _ _ h
    · replace h := (if_neg c1).symm.trans h
      refine jj_aload_n dX8_spreads_127 0 rfl ?_
      refine jg_8_14 (k := 60) rfl lk_8_22 dX8_spreads_128 ?_
      show jj_V g X _ _ _ _ _ _ (.ref (jj_ad g 65) :: _) _
      refine jj_iload dX8_spreads_131 6 rfl ?_
      obtain ⟨g2, h⟩ := jj_ge h
      refine jj_iaload (k := 65) (n := 296) rfl g2 dX8_spreads_133 ?_
      refine jj_istore [(7, .int (μ 65 x6.toNatClampNeg)), (0, .ref (jj_ad g 60)), (1, .int x1), (2, .int x2), (3, .int x3), (4, .int x4), (5, .int x5), (6, .int x6)] dX8_spreads_134 (by decide) rfl ?_
      refine jj_iload dX8_spreads_136 7 rfl ?_
      refine jj_bipush (37) dX8_spreads_138 rfl ?_
      refine jj_idiv dX8_spreads_140 (by decide) ?_
      refine jj_istore [(8, .int (x6 / 37)), (7, .int (μ 65 x6.toNatClampNeg)), (0, .ref (jj_ad g 60)), (1, .int x1), (2, .int x2), (3, .int x3), (4, .int x4), (5, .int x5), (6, .int x6)] dX8_spreads_141 (by decide) rfl ?_
      refine jj_iload dX8_spreads_143 1 rfl ?_
      refine jj_ldc (1000000) lk_8_227 dX8_spreads_145 ?_
      refine jj_icmp_ge 186 dX8_spreads_147 (by decide) (fun c3 => ?_) (fun c3 => ?_)
      · replace h := (if_pos c3).symm.trans h
        refine jj_iconst (0) dX8_spreads_186 rfl ?_
        refine jj_istore [(9, .int 0), (8, .int (x6 / 37)), (7, .int (μ 65 x6.toNatClampNeg)), (0, .ref (jj_ad g 60)), (1, .int x1), (2, .int x2), (3, .int x3), (4, .int x4), (5, .int x5), (6, .int x6)] dX8_spreads_187 (by decide) rfl ?_
        refine jj_sub [3, 4, 5, 6, 7, 8, 9, 2, 1, 0] rfl ?_
        exact t_mdf_spreads_L189 d   hF hk108 ih _ _ _ _ h
      · replace h := (if_neg c3).symm.trans h
        refine jj_aload_n dX8_spreads_150 2 rfl ?_
        refine jj_iload_n dX8_spreads_151 3 rfl ?_
        refine jj_iload dX8_spreads_152 0 rfl ?_
        refine jj_iload_n dX8_spreads_154 4 rfl ?_
        obtain ⟨q4, e4, h⟩ := jj_be h
        refine jj_callVi [.int x1, .int (x6 / 37), .int x2] [] (c_mdf_mayDrink (d + 0)  e4) jm_mdf_mayDrink lk_8_232 (b := 60) rfl (by decide) (jj_E8 rfl) rfl rfl rfl (by omega) rfl (Nat.le_of_ble_eq_true rfl) dX8_spreads_155 ?_
        refine jj_if_eq 186 dX8_spreads_158 (by decide) (fun c5 => ?_) (fun c5 => ?_)
        · replace h := (if_pos c5).symm.trans h
          refine jj_iconst (0) dX8_spreads_186 rfl ?_
          refine jj_istore [(9, .int 0), (8, .int (x6 / 37)), (7, .int (μ 65 x6.toNatClampNeg)), (0, .ref (jj_ad g 60)), (1, .int x1), (2, .int x2), (3, .int x3), (4, .int x4), (5, .int x5), (6, .int x6)] dX8_spreads_187 (by decide) rfl ?_
          refine jj_sub [3, 4, 5, 6, 7, 8, 9, 2, 1, 0] rfl ?_
          exact t_mdf_spreads_L189 d   hF hk108 ih _ _ _ _ h
        · replace h := (if_neg c5).symm.trans h
          refine jj_iload dX8_spreads_161 7 rfl ?_
          refine jj_aload_n dX8_spreads_163 2 rfl ?_
          refine jj_iload dX8_spreads_164 0 rfl ?_
          refine jj_iconst (0) dX8_spreads_166 rfl ?_
          refine jj_iload_n dX8_spreads_167 5 rfl ?_
          refine jj_if_eq 176 dX8_spreads_168 (by decide) (fun c6 => ?_) (fun c6 => ?_)
          · replace h := (if_pos c6).symm.trans h
            refine jj_iload dX8_spreads_176 1 rfl ?_
            refine jj_iconst (1) dX8_spreads_178 rfl ?_
            refine jj_iadd dX8_spreads_179 ?_
            obtain ⟨q7, e7, h⟩ := jj_be h
            refine jj_callVi [.int (x6 / 37), .int 0, .int ((μ 65 x6.toNatClampNeg) + 1)] [.int x5] (c_mdf_lessens (d + 56)  e7) jm_mdf_lessens lk_8_228 (b := 60) rfl (by decide) (jj_E8 rfl) rfl rfl rfl (by omega) rfl (Nat.le_of_ble_eq_true rfl) dX8_spreads_180 ?_
            refine jj_ior dX8_spreads_183 ?_
            refine jj_istore [(5, .int (x5 ||| q7.1)), (8, .int (x6 / 37)), (7, .int (μ 65 x6.toNatClampNeg)), (0, .ref (jj_ad g 60)), (1, .int x1), (2, .int x2), (3, .int x3), (4, .int x4), (6, .int x6)] dX8_spreads_184 (by decide) rfl ?_
            refine jj_iconst (0) dX8_spreads_186 rfl ?_
            refine jj_istore [(9, .int 0), (5, .int (x5 ||| q7.1)), (8, .int (x6 / 37)), (7, .int (μ 65 x6.toNatClampNeg)), (0, .ref (jj_ad g 60)), (1, .int x1), (2, .int x2), (3, .int x3), (4, .int x4), (6, .int x6)] dX8_spreads_187 (by decide) rfl ?_
            refine jj_sub [4, 5, 6, 7, 8, 1, 9, 3, 2, 0] rfl ?_
            exact t_mdf_spreads_L189 d   hF hk108 ih _ _ _ _ h
          · replace h := (if_neg c6).symm.trans h
            refine jj_iload dX8_spreads_171 1 rfl ?_
            refine jj_goto 180 dX8_spreads_173 (by decide) ?_
            obtain ⟨q8, e8, h⟩ := jj_be h
            refine jj_callVi [.int (x6 / 37), .int 0, .int (μ 65 x6.toNatClampNeg)] [.int x5] (c_mdf_lessens (d + 56)  e8) jm_mdf_lessens lk_8_228 (b := 60) rfl (by decide) (jj_E8 rfl) rfl rfl rfl (by omega) rfl (Nat.le_of_ble_eq_true rfl) dX8_spreads_180 ?_
            refine jj_ior dX8_spreads_183 ?_
            refine jj_istore [(5, .int (x5 ||| q8.1)), (8, .int (x6 / 37)), (7, .int (μ 65 x6.toNatClampNeg)), (0, .ref (jj_ad g 60)), (1, .int x1), (2, .int x2), (3, .int x3), (4, .int x4), (6, .int x6)] dX8_spreads_184 (by decide) rfl ?_
            refine jj_iconst (0) dX8_spreads_186 rfl ?_
            refine jj_istore [(9, .int 0), (5, .int (x5 ||| q8.1)), (8, .int (x6 / 37)), (7, .int (μ 65 x6.toNatClampNeg)), (0, .ref (jj_ad g 60)), (1, .int x1), (2, .int x2), (3, .int x3), (4, .int x4), (6, .int x6)] dX8_spreads_187 (by decide) rfl ?_
            refine jj_sub [4, 5, 6, 7, 8, 1, 9, 3, 2, 0] rfl ?_
            exact t_mdf_spreads_L189 d   hF hk108 ih _ _ _ _ h
def mdf_spreads_L108 (N : Nat)  (x1 : Int32) (x2 : Int32) (x3 : Int32) (x4 : Int32) : Nat → Int32 → jj_M → Option (jj_M)
  | 0, _, _ => none
  | n + 1, x5, μ => if x5 = 0 then some μ else mdf_spreads_L119 N (mdf_spreads_L108 N x1 x2 x3 x4 n) x1 x2 x3 x4 N 0 0 μ
set_option maxRecDepth 100000 in
theorem t_mdf_spreads_L108 {g : jj_G} (d : Nat) {N : Nat}  {x1 : Int32} {x2 : Int32} {x3 : Int32} {x4 : Int32}  {μ' : jj_M} {X : jj_X}   (hF : jj_F g none none μ' X)  : ∀ (n : Nat) (x5 : Int32) (μ : jj_M), mdf_spreads_L108 N x1 x2 x3 x4 n x5 μ = some μ' → jj_V g X RX8 cX8_spreads 11 (d + 57) 108 [(0, .ref (jj_ad g 60)), (1, .int x1), (2, .int x2), (3, .int x3), (4, .int x4), (5, .int x5)] [] μ := by
  intro n
  induction n with
  | zero =>
    intro x5 μ h
    exact (jj_no h).elim
  | succ n ih =>
    intro x5 μ h
    rw [mdf_spreads_L108] at h
    refine jj_iload dX8_spreads_108 5 rfl ?_
    refine jj_if_eq 287 dX8_spreads_110 (by decide) (fun c1 => ?_) (fun c1 => ?_)
    · replace h := (if_pos c1).symm.trans h
      exact jj_vret1 hF dX8_spreads_287 (Option.some.inj h)
    · replace h := (if_neg c1).symm.trans h
      refine jj_iconst (0) dX8_spreads_113 rfl ?_
      refine jj_istore [(5, .int 0), (0, .ref (jj_ad g 60)), (1, .int x1), (2, .int x2), (3, .int x3), (4, .int x4)] dX8_spreads_114 (by decide) rfl ?_
      refine jj_iconst (0) dX8_spreads_116 rfl ?_
      refine jj_istore [(6, .int 0), (5, .int 0), (0, .ref (jj_ad g 60)), (1, .int x1), (2, .int x2), (3, .int x3), (4, .int x4)] dX8_spreads_117 (by decide) rfl ?_
      refine jj_sub [2, 3, 4, 5, 6, 1, 0] rfl ?_
      exact t_mdf_spreads_L119 d   hF ih _ _ _ _ h
def mdf_spreads_L29 (N : Nat)  (x1 : Int32) (x2 : Int32) (x3 : Int32) : Nat → Int32 → jj_M → Option (jj_M)
  | 0, _, _ => none
  | n + 1, x4, μ => if 64 ≤ x4 then (mdf_limitOf x1 μ).bind fun q2 => (mdf_its x1 2 μ).bind fun q3 => (mdf_its x1 4 μ).bind fun q4 => (mdf_lessens q3 q4 0 μ).bind fun q5 => mdf_spreads_L108 N x1 x2 x3 q2 N q5.1 q5.2 else if jj_i (8 + x4) 351 then if (μ 61 (8 + x4).toNatClampNeg) ≤ 0 then if jj_i x4 64 then mdf_spreads_L29 N x1 x2 x3 n (x4 + 1) (jj_u μ 66 x4.toNatClampNeg 1000000) else none else if jj_i (8 + x4) 351 then (mdf_thirstBy N x1 (μ 61 (8 + x4).toNatClampNeg) μ).bind fun q10 => if jj_i x4 64 then mdf_spreads_L29 N x1 x2 x3 n (x4 + 1) (jj_u q10.2 66 x4.toNatClampNeg q10.1) else none else none else none
set_option maxRecDepth 100000 in
theorem t_mdf_spreads_L29 {g : jj_G} (d : Nat) {N : Nat}  {x1 : Int32} {x2 : Int32} {x3 : Int32}  {μ' : jj_M} {X : jj_X}   (hF : jj_F g none none μ' X)  : ∀ (n : Nat) (x4 : Int32) (μ : jj_M), mdf_spreads_L29 N x1 x2 x3 n x4 μ = some μ' → jj_V g X RX8 cX8_spreads 11 (d + 57) 29 [(0, .ref (jj_ad g 60)), (1, .int x1), (2, .int x2), (3, .int x3), (4, .int x4)] [] μ := by
  intro n
  induction n with
  | zero =>
    intro x4 μ h
    exact (jj_no h).elim
  | succ n ih =>
    intro x4 μ h
    rw [mdf_spreads_L29] at h
    refine jj_iload dX8_spreads_29 4 rfl ?_
    refine jj_bipush (64) dX8_spreads_31 rfl ?_
    refine jj_icmp_ge 82 dX8_spreads_33 (by decide) (fun c1 => ?_) (fun c1 => ?_)
    · replace h := (if_pos c1).symm.trans h
      refine jj_aload_n dX8_spreads_82 0 rfl ?_
      refine jj_iload_n dX8_spreads_83 1 rfl ?_
      obtain ⟨q2, e2, h⟩ := jj_be h
      refine jj_callVi [.int x1] [] (c_mdf_limitOf (d + 54)  e2) jm_mdf_limitOf lk_8_108 (b := 60) rfl (by decide) (jj_E8 rfl) rfl rfl rfl (by omega) rfl (Nat.le_of_ble_eq_true rfl) dX8_spreads_84 ?_
      refine jj_istore [(4, .int q2), (0, .ref (jj_ad g 60)), (1, .int x1), (2, .int x2), (3, .int x3)] dX8_spreads_87 (by decide) rfl ?_
      refine jj_aload_n dX8_spreads_89 1 rfl ?_
      refine jj_aload_n dX8_spreads_90 1 rfl ?_
      refine jj_iload_n dX8_spreads_91 2 rfl ?_
      refine jj_iconst (2) dX8_spreads_92 rfl ?_
      obtain ⟨q3, e3, h⟩ := jj_be h
      refine jj_callVi [.int x1, .int 2] [.ref (jj_ad g 60)] (c_mdf_its (d + 55)  e3) jm_mdf_its lk_8_79 (b := 60) rfl (by decide) (jj_E8 rfl) rfl rfl rfl (by omega) rfl (Nat.le_of_ble_eq_true rfl) dX8_spreads_93 ?_
      refine jj_aload_n dX8_spreads_96 1 rfl ?_
      refine jj_iload_n dX8_spreads_97 2 rfl ?_
      refine jj_iconst (4) dX8_spreads_98 rfl ?_
      obtain ⟨q4, e4, h⟩ := jj_be h
      refine jj_callVi [.int x1, .int 4] [.int q3, .ref (jj_ad g 60)] (c_mdf_its (d + 55)  e4) jm_mdf_its lk_8_79 (b := 60) rfl (by decide) (jj_E8 rfl) rfl rfl rfl (by omega) rfl (Nat.le_of_ble_eq_true rfl) dX8_spreads_99 ?_
      refine jj_iconst (0) dX8_spreads_102 rfl ?_
      obtain ⟨q5, e5, h⟩ := jj_be h
      refine jj_callVi [.int q3, .int q4, .int 0] [] (c_mdf_lessens (d + 56)  e5) jm_mdf_lessens lk_8_228 (b := 60) rfl (by decide) (jj_E8 rfl) rfl rfl rfl (by omega) rfl (Nat.le_of_ble_eq_true rfl) dX8_spreads_103 ?_
      refine jj_istore [(5, .int q5.1), (4, .int q2), (0, .ref (jj_ad g 60)), (1, .int x1), (2, .int x2), (3, .int x3)] dX8_spreads_106 (by decide) rfl ?_
      refine jj_sub [2, 3, 4, 5, 1, 0] rfl ?_
      exact t_mdf_spreads_L108 d   hF  _ _ _ h
    · replace h := (if_neg c1).symm.trans h
      refine jj_aload_n dX8_spreads_36 0 rfl ?_
      refine jg_8_15 (k := 60) rfl lk_8_25 dX8_spreads_37 ?_
      show jj_V g X _ _ _ _ _ _ (.ref (jj_ad g 66) :: _) _
      refine jj_iload dX8_spreads_40 4 rfl ?_
      refine jj_aload_n dX8_spreads_42 0 rfl ?_
      refine jg_8_0 (k := 60) rfl lk_8_7 dX8_spreads_43 ?_
      show jj_V g X _ _ _ _ _ _ (.ref (jj_ad g 61) :: _) _
      refine jj_bipush (8) dX8_spreads_46 rfl ?_
      refine jj_iload dX8_spreads_48 4 rfl ?_
      refine jj_iadd dX8_spreads_50 ?_
      obtain ⟨g6, h⟩ := jj_ge h
      refine jj_iaload (k := 61) (n := 351) rfl g6 dX8_spreads_51 ?_
      refine jj_if_le 73 dX8_spreads_52 (by decide) (fun c7 => ?_) (fun c7 => ?_)
      · replace h := (if_pos c7).symm.trans h
        refine jj_ldc (1000000) lk_8_227 dX8_spreads_73 ?_
        obtain ⟨g8, h⟩ := jj_ge h
        refine jj_iastore (k := 66) (n := 64) rfl g8 dX8_spreads_75 ?_
        refine jj_iinc (x4 + 1) [(4, .int (x4 + 1)), (0, .ref (jj_ad g 60)), (1, .int x1), (2, .int x2), (3, .int x3)] dX8_spreads_76 4 rfl rfl (by decide) rfl ?_
        refine jj_goto 29 dX8_spreads_79 (by decide) ?_
        refine jj_sub [1, 2, 3, 4, 0] rfl ?_
        exact ih _ _ h
      · replace h := (if_neg c7).symm.trans h
        refine jj_aload_n dX8_spreads_55 0 rfl ?_
        refine jj_iload_n dX8_spreads_56 1 rfl ?_
        refine jj_aload_n dX8_spreads_57 0 rfl ?_
        refine jg_8_0 (k := 60) rfl lk_8_7 dX8_spreads_58 ?_
        show jj_V g X _ _ _ _ _ _ (.ref (jj_ad g 61) :: _) _
        refine jj_bipush (8) dX8_spreads_61 rfl ?_
        refine jj_iload dX8_spreads_63 4 rfl ?_
        refine jj_iadd dX8_spreads_65 ?_
        obtain ⟨g9, h⟩ := jj_ge h
        refine jj_iaload (k := 61) (n := 351) rfl g9 dX8_spreads_66 ?_
        obtain ⟨q10, e10, h⟩ := jj_be h
        refine jj_callVi [.int x1, .int (μ 61 (8 + x4).toNatClampNeg)] [.int x4, .ref (jj_ad g 66)] (c_mdf_thirstBy (d + 1)  e10) jm_mdf_thirstBy lk_8_204 (b := 60) rfl (by decide) (jj_E8 rfl) rfl rfl rfl (by omega) rfl (Nat.le_of_ble_eq_true rfl) dX8_spreads_67 ?_
        refine jj_goto 75 dX8_spreads_70 (by decide) ?_
        obtain ⟨g11, h⟩ := jj_ge h
        refine jj_iastore (k := 66) (n := 64) rfl g11 dX8_spreads_75 ?_
        refine jj_iinc (x4 + 1) [(4, .int (x4 + 1)), (0, .ref (jj_ad g 60)), (1, .int x1), (2, .int x2), (3, .int x3)] dX8_spreads_76 4 rfl rfl (by decide) rfl ?_
        refine jj_goto 29 dX8_spreads_79 (by decide) ?_
        refine jj_sub [1, 2, 3, 4, 0] rfl ?_
        exact ih _ _ h
def mdf_spreads_L3 (N : Nat)  (x1 : Int32) (x2 : Int32) (x3 : Int32) : Nat → Int32 → jj_M → Option (jj_M)
  | 0, _, _ => none
  | n + 1, x4, μ => if 296 ≤ x4 then mdf_spreads_L29 N x1 x2 x3 N 0 μ else if jj_i x4 296 then mdf_spreads_L3 N x1 x2 x3 n (x4 + 1) (jj_u μ 65 x4.toNatClampNeg 1000000) else none
set_option maxRecDepth 100000 in
theorem t_mdf_spreads_L3 {g : jj_G} (d : Nat) {N : Nat}  {x1 : Int32} {x2 : Int32} {x3 : Int32}  {μ' : jj_M} {X : jj_X}   (hF : jj_F g none none μ' X)  : ∀ (n : Nat) (x4 : Int32) (μ : jj_M), mdf_spreads_L3 N x1 x2 x3 n x4 μ = some μ' → jj_V g X RX8 cX8_spreads 11 (d + 57) 3 [(0, .ref (jj_ad g 60)), (1, .int x1), (2, .int x2), (3, .int x3), (4, .int x4)] [] μ := by
  intro n
  induction n with
  | zero =>
    intro x4 μ h
    exact (jj_no h).elim
  | succ n ih =>
    intro x4 μ h
    rw [mdf_spreads_L3] at h
    refine jj_iload dX8_spreads_3 4 rfl ?_
    refine jj_sipush (296) dX8_spreads_5 rfl ?_
    refine jj_icmp_ge 26 dX8_spreads_8 (by decide) (fun c1 => ?_) (fun c1 => ?_)
    · replace h := (if_pos c1).symm.trans h
      refine jj_iconst (0) dX8_spreads_26 rfl ?_
      refine jj_istore [(4, .int 0), (0, .ref (jj_ad g 60)), (1, .int x1), (2, .int x2), (3, .int x3)] dX8_spreads_27 (by decide) rfl ?_
      refine jj_sub [1, 2, 3, 4, 0] rfl ?_
      exact t_mdf_spreads_L29 d   hF  _ _ _ h
    · replace h := (if_neg c1).symm.trans h
      refine jj_aload_n dX8_spreads_11 0 rfl ?_
      refine jg_8_14 (k := 60) rfl lk_8_22 dX8_spreads_12 ?_
      show jj_V g X _ _ _ _ _ _ (.ref (jj_ad g 65) :: _) _
      refine jj_iload dX8_spreads_15 4 rfl ?_
      refine jj_ldc (1000000) lk_8_227 dX8_spreads_17 ?_
      obtain ⟨g2, h⟩ := jj_ge h
      refine jj_iastore (k := 65) (n := 296) rfl g2 dX8_spreads_19 ?_
      refine jj_iinc (x4 + 1) [(4, .int (x4 + 1)), (0, .ref (jj_ad g 60)), (1, .int x1), (2, .int x2), (3, .int x3)] dX8_spreads_20 4 rfl rfl (by decide) rfl ?_
      refine jj_goto 3 dX8_spreads_23 (by decide) ?_
      refine jj_sub [1, 2, 3, 4, 0] rfl ?_
      exact ih _ _ h
def mdf_spreads (N : Nat) (x1 : Int32) (x2 : Int32) (x3 : Int32) (μ : jj_M) : Option (jj_M) := mdf_spreads_L3 N x1 x2 x3 N 0 μ
set_option maxRecDepth 100000 in
theorem c_mdf_spreads {g : jj_G} (d : Nat) {N : Nat} {x1 : Int32} {x2 : Int32} {x3 : Int32} {μ : jj_M} {μ' : jj_M}   (h : mdf_spreads N x1 x2 x3 μ = some μ') : jj_N g yX8_spreads cX8_spreads 11 none (d + 57) [.ref (jj_ad g 60), .int x1, .int x2, .int x3] μ none μ' := by
  refine jj_N_of jn_8 (Nat.le_of_ble_eq_true rfl) (fun X hF => ?_)
  unfold mdf_spreads at h
  refine jj_sub (own := RX8) (lv2 := [(0, .ref (jj_ad g 60)), (1, .int x1), (2, .int x2), (3, .int x3)]) [0, 1, 2, 3] rfl ?_
  refine jj_iconst (0) dX8_spreads_0 rfl ?_
  refine jj_istore [(4, .int 0), (0, .ref (jj_ad g 60)), (1, .int x1), (2, .int x2), (3, .int x3)] dX8_spreads_1 (by decide) rfl ?_
  refine jj_sub [1, 2, 3, 4, 0] rfl ?_
  exact t_mdf_spreads_L3 d   hF  _ _ _ h
def mdf_leastAt_L5 (N : Nat)  (x1 : Int32) (μ : jj_M) : Nat → Int32 → Int32 → Option (Int32)
  | 0, _, _ => none
  | n + 1, x2, x3 => if 37 ≤ x3 then some x2 else if jj_i ((37 * x1) + x3) 296 then if x2 ≤ (μ 65 ((37 * x1) + x3).toNatClampNeg) then mdf_leastAt_L5 N x1 μ n x2 (x3 + 1) else if jj_i ((37 * x1) + x3) 296 then mdf_leastAt_L5 N x1 μ n (μ 65 ((37 * x1) + x3).toNatClampNeg) (x3 + 1) else none else none
set_option maxRecDepth 100000 in
theorem t_mdf_leastAt_L5 {g : jj_G} (d : Nat) {N : Nat}  {x1 : Int32} {μ : jj_M}  {r : Int32} {X : jj_X}   (hF : jj_F g (some .int) (some (.int r)) μ X)  : ∀ (n : Nat) (x2 : Int32) (x3 : Int32), mdf_leastAt_L5 N x1 μ n x2 x3 = some r → jj_V g X RX8 cX8_leastAt 4 (d + 0) 5 [(0, .ref (jj_ad g 60)), (1, .int x1), (2, .int x2), (3, .int x3)] [] μ := by
  intro n
  induction n with
  | zero =>
    intro x2 x3 h
    exact (jj_no h).elim
  | succ n ih =>
    intro x2 x3 h
    rw [mdf_leastAt_L5] at h
    refine jj_iload_n dX8_leastAt_5 3 rfl ?_
    refine jj_bipush (37) dX8_leastAt_6 rfl ?_
    refine jj_icmp_ge 48 dX8_leastAt_8 (by decide) (fun c1 => ?_) (fun c1 => ?_)
    · replace h := (if_pos c1).symm.trans h
      refine jj_iload_n dX8_leastAt_48 2 rfl ?_
      exact jj_iret1 hF dX8_leastAt_49 (Option.some.inj h)
    · replace h := (if_neg c1).symm.trans h
      refine jj_aload_n dX8_leastAt_11 0 rfl ?_
      refine jg_8_14 (k := 60) rfl lk_8_22 dX8_leastAt_12 ?_
      show jj_V g X _ _ _ _ _ _ (.ref (jj_ad g 65) :: _) _
      refine jj_bipush (37) dX8_leastAt_15 rfl ?_
      refine jj_iload_n dX8_leastAt_17 1 rfl ?_
      refine jj_imul dX8_leastAt_18 ?_
      refine jj_iload_n dX8_leastAt_19 3 rfl ?_
      refine jj_iadd dX8_leastAt_20 ?_
      obtain ⟨g2, h⟩ := jj_ge h
      refine jj_iaload (k := 65) (n := 296) rfl g2 dX8_leastAt_21 ?_
      refine jj_iload_n dX8_leastAt_22 2 rfl ?_
      refine jj_icmp_ge 40 dX8_leastAt_23 (by decide) (fun c3 => ?_) (fun c3 => ?_)
      · replace h := (if_pos c3).symm.trans h
        refine jj_iload_n dX8_leastAt_40 2 rfl ?_
        refine jj_istore_n [(2, .int x2), (0, .ref (jj_ad g 60)), (1, .int x1), (3, .int x3)] dX8_leastAt_41 (by decide) rfl ?_
        refine jj_iinc (x3 + 1) [(3, .int (x3 + 1)), (2, .int x2), (0, .ref (jj_ad g 60)), (1, .int x1)] dX8_leastAt_42 3 rfl rfl (by decide) rfl ?_
        refine jj_goto 5 dX8_leastAt_45 (by decide) ?_
        refine jj_sub [2, 3, 1, 0] rfl ?_
        exact ih _ _ h
      · replace h := (if_neg c3).symm.trans h
        refine jj_aload_n dX8_leastAt_26 0 rfl ?_
        refine jg_8_14 (k := 60) rfl lk_8_22 dX8_leastAt_27 ?_
        show jj_V g X _ _ _ _ _ _ (.ref (jj_ad g 65) :: _) _
        refine jj_bipush (37) dX8_leastAt_30 rfl ?_
        refine jj_iload_n dX8_leastAt_32 1 rfl ?_
        refine jj_imul dX8_leastAt_33 ?_
        refine jj_iload_n dX8_leastAt_34 3 rfl ?_
        refine jj_iadd dX8_leastAt_35 ?_
        obtain ⟨g4, h⟩ := jj_ge h
        refine jj_iaload (k := 65) (n := 296) rfl g4 dX8_leastAt_36 ?_
        refine jj_goto 41 dX8_leastAt_37 (by decide) ?_
        refine jj_istore_n [(2, .int (μ 65 ((37 * x1) + x3).toNatClampNeg)), (0, .ref (jj_ad g 60)), (1, .int x1), (3, .int x3)] dX8_leastAt_41 (by decide) rfl ?_
        refine jj_iinc (x3 + 1) [(3, .int (x3 + 1)), (2, .int (μ 65 ((37 * x1) + x3).toNatClampNeg)), (0, .ref (jj_ad g 60)), (1, .int x1)] dX8_leastAt_42 3 rfl rfl (by decide) rfl ?_
        refine jj_goto 5 dX8_leastAt_45 (by decide) ?_
        refine jj_sub [2, 3, 1, 0] rfl ?_
        exact ih _ _ h
def mdf_leastAt (N : Nat) (x1 : Int32) (μ : jj_M) : Option (Int32) := mdf_leastAt_L5 N x1 μ N 1000000 0
set_option maxRecDepth 100000 in
theorem c_mdf_leastAt {g : jj_G} (d : Nat) {N : Nat} {x1 : Int32} {μ : jj_M} {r : Int32}   (h : mdf_leastAt N x1 μ = some r) : jj_N g yX8_leastAt cX8_leastAt 4 (some .int) (d + 0) [.ref (jj_ad g 60), .int x1] μ (some (.int r)) μ := by
  refine jj_N_of jn_8 (Nat.le_of_ble_eq_true rfl) (fun X hF => ?_)
  unfold mdf_leastAt at h
  refine jj_sub (own := RX8) (lv2 := [(0, .ref (jj_ad g 60)), (1, .int x1)]) [0, 1] rfl ?_
  refine jj_ldc (1000000) lk_8_227 dX8_leastAt_0 ?_
  refine jj_istore_n [(2, .int 1000000), (0, .ref (jj_ad g 60)), (1, .int x1)] dX8_leastAt_2 (by decide) rfl ?_
  refine jj_iconst (0) dX8_leastAt_3 rfl ?_
  refine jj_istore_n [(3, .int 0), (2, .int 1000000), (0, .ref (jj_ad g 60)), (1, .int x1)] dX8_leastAt_4 (by decide) rfl ?_
  refine jj_sub [2, 3, 1, 0] rfl ?_
  exact t_mdf_leastAt_L5 d   hF  _ _ _ h
def mdf_wrongWay  (x1 : Int32) (x2 : Int32) (μ : jj_M) : Option (Int32) := if (mdf_isPerson x1 μ) = 0 then some (-1000000001) else if x2 = 0 then some (-1000000001) else (mdf_its x1 5 μ).bind fun q3 => if q3 = 1 then some (-1000000003) else some 0
set_option maxRecDepth 100000 in
theorem c_mdf_wrongWay {g : jj_G} (d : Nat)  {x1 : Int32} {x2 : Int32} {μ : jj_M} {r : Int32}   (h : mdf_wrongWay x1 x2 μ = some r) : jj_N g yX8_wrongWay cX8_wrongWay 3 (some .int) (d + 2) [.ref (jj_ad g 60), .int x1, .int x2] μ (some (.int r)) μ := by
  refine jj_N_of jn_8 (Nat.le_of_ble_eq_true rfl) (fun X hF => ?_)
  unfold mdf_wrongWay at h
  refine jj_sub (own := RX8) (lv2 := [(0, .ref (jj_ad g 60)), (1, .int x1), (2, .int x2)]) [0, 1, 2] rfl ?_
  refine jj_aload_n dX8_wrongWay_0 0 rfl ?_
  refine jj_iload_n dX8_wrongWay_1 1 rfl ?_
  refine jj_callVi [.int x1] [] (c_mdf_isPerson (d + 0)  rfl) jm_mdf_isPerson lk_8_103 (b := 60) rfl (by decide) (jj_E8 rfl) rfl rfl rfl (by omega) rfl (Nat.le_of_ble_eq_true rfl) dX8_wrongWay_2 ?_
  refine jj_if_eq 12 dX8_wrongWay_5 (by decide) (fun c1 => ?_) (fun c1 => ?_)
  · replace h := (if_pos c1).symm.trans h
    refine jj_ldc (-1000000001) lk_8_67 dX8_wrongWay_12 ?_
    refine jj_goto 33 dX8_wrongWay_14 (by decide) ?_
    exact jj_iret1 hF dX8_wrongWay_33 (Option.some.inj h)
  · replace h := (if_neg c1).symm.trans h
    refine jj_iload_n dX8_wrongWay_8 2 rfl ?_
    refine jj_if_ne 17 dX8_wrongWay_9 (by decide) (fun c2 => ?_) (fun c2 => ?_)
    · replace h := (if_neg c2).symm.trans h
      refine jj_aload_n dX8_wrongWay_17 0 rfl ?_
      refine jj_iload_n dX8_wrongWay_18 1 rfl ?_
      refine jj_iconst (5) dX8_wrongWay_19 rfl ?_
      obtain ⟨q3, e3, h⟩ := jj_be h
      refine jj_callVi [.int x1, .int 5] [] (c_mdf_its (d + 0)  e3) jm_mdf_its lk_8_79 (b := 60) rfl (by decide) (jj_E8 rfl) rfl rfl rfl (by omega) rfl (Nat.le_of_ble_eq_true rfl) dX8_wrongWay_20 ?_
      refine jj_iconst (1) dX8_wrongWay_23 rfl ?_
      refine jj_icmp_ne 32 dX8_wrongWay_24 (by decide) (fun c4 => ?_) (fun c4 => ?_)
      · replace h := (if_neg c4).symm.trans h
        refine jj_iconst (0) dX8_wrongWay_32 rfl ?_
        exact jj_iret1 hF dX8_wrongWay_33 (Option.some.inj h)
      · replace h := (if_pos c4).symm.trans h
        refine jj_ldc (-1000000003) lk_8_199 dX8_wrongWay_27 ?_
        refine jj_goto 33 dX8_wrongWay_29 (by decide) ?_
        exact jj_iret1 hF dX8_wrongWay_33 (Option.some.inj h)
    · replace h := (if_pos c2).symm.trans h
      refine jj_ldc (-1000000001) lk_8_67 dX8_wrongWay_12 ?_
      refine jj_goto 33 dX8_wrongWay_14 (by decide) ?_
      exact jj_iret1 hF dX8_wrongWay_33 (Option.some.inj h)
def mdf_way_B21 (N : Nat)  (x1 : Int32) (x2 : Int32) (x3 : Int32) (x4 : Int32) (sx1 : Int32) (sx2 : Int32) (μ : jj_M) : Option (Int32 × jj_M) := (mdf_wrongWay sx1 sx2 μ).bind fun q1 => if q1 = 0 then (mdf_its x1 3 μ).bind fun q3 => if q3 = x2 then some ((0, μ)) else (mdf_spreads N x1 x3 x4 μ).bind fun q5 => (mdf_leastAt N x2 q5).bind fun q6 => if q6 = 1000000 then (mdf_errs (-1000000002) q5).bind fun q8 => some ((q8.1, q8.2)) else (mdf_mayDrink N x1 x2 x3 q5).bind fun q9 => if q9.1 = 0 then (mdf_errs (-1000000002) q9.2).bind fun q12 => some ((q12.1, q12.2)) else if x4 = 0 then some ((q6 + 1, q9.2)) else some ((q6, q9.2)) else (mdf_errs q1 μ).bind fun q13 => some ((q13.1, q13.2))
set_option maxRecDepth 100000 in
theorem t_mdf_way_B21 {g : jj_G} (d : Nat) {N : Nat}  {x1 : Int32} {x2 : Int32} {x3 : Int32} {x4 : Int32} {sx1 : Int32} {sx2 : Int32} {μ : jj_M}  {r : Int32} {μ' : jj_M} {X : jj_X}   (hF : jj_F g (some .int) (some (.int r)) μ' X)  (h : mdf_way_B21 N x1 x2 x3 x4 sx1 sx2 μ = some (r, μ')) : jj_V g X RX8 cX8_way 7 (d + 58) 21 [(0, .ref (jj_ad g 60)), (1, .int x1), (2, .int x2), (3, .int x3), (4, .int x4)] [.int sx2, .int sx1, .ref (jj_ad g 60)] μ := by
  unfold mdf_way_B21 at h
  obtain ⟨q1, e1, h⟩ := jj_be h
  refine jj_callVi [.int sx1, .int sx2] [] (c_mdf_wrongWay (d + 55)  e1) jm_mdf_wrongWay lk_8_238 (b := 60) rfl (by decide) (jj_E8 rfl) rfl rfl rfl (by omega) rfl (Nat.le_of_ble_eq_true rfl) dX8_way_21 ?_
  refine jj_istore [(5, .int q1), (0, .ref (jj_ad g 60)), (1, .int x1), (2, .int x2), (3, .int x3), (4, .int x4)] dX8_way_24 (by decide) rfl ?_
  refine jj_iload dX8_way_26 0 rfl ?_
  refine jj_if_eq 38 dX8_way_28 (by decide) (fun c2 => ?_) (fun c2 => ?_)
  · replace h := (if_pos c2).symm.trans h
    refine jj_aload_n dX8_way_38 1 rfl ?_
    refine jj_iload_n dX8_way_39 2 rfl ?_
    refine jj_iconst (3) dX8_way_40 rfl ?_
    obtain ⟨q3, e3, h⟩ := jj_be h
    refine jj_callVi [.int x1, .int 3] [] (c_mdf_its (d + 56)  e3) jm_mdf_its lk_8_79 (b := 60) rfl (by decide) (jj_E8 rfl) rfl rfl rfl (by omega) rfl (Nat.le_of_ble_eq_true rfl) dX8_way_41 ?_
    refine jj_iload_n dX8_way_44 3 rfl ?_
    refine jj_icmp_ne 50 dX8_way_45 (by decide) (fun c4 => ?_) (fun c4 => ?_)
    · replace h := (if_neg c4).symm.trans h
      refine jj_aload_n dX8_way_50 1 rfl ?_
      refine jj_iload_n dX8_way_51 2 rfl ?_
      refine jj_iload_n dX8_way_52 4 rfl ?_
      refine jj_iload dX8_way_53 5 rfl ?_
      obtain ⟨q5, e5, h⟩ := jj_be h
      refine jj_callVv [.int x1, .int x3, .int x4] [] (c_mdf_spreads (d + 0)  e5) jm_mdf_spreads lk_8_242 (b := 60) rfl (by decide) (jj_E8 rfl) rfl rfl rfl (by omega) rfl (Nat.le_of_ble_eq_true rfl) dX8_way_55 ?_
      refine jj_aload_n dX8_way_58 1 rfl ?_
      refine jj_iload_n dX8_way_59 3 rfl ?_
      obtain ⟨q6, e6, h⟩ := jj_be h
      refine jj_callVi [.int x2] [] (c_mdf_leastAt (d + 57)  e6) jm_mdf_leastAt lk_8_246 (b := 60) rfl (by decide) (jj_E8 rfl) rfl rfl rfl (by omega) rfl (Nat.le_of_ble_eq_true rfl) dX8_way_60 ?_
      refine jj_istore [(6, .int q6), (5, .int q1), (0, .ref (jj_ad g 60)), (1, .int x1), (2, .int x2), (3, .int x3), (4, .int x4)] dX8_way_63 (by decide) rfl ?_
      refine jj_iload dX8_way_65 0 rfl ?_
      refine jj_ldc (1000000) lk_8_227 dX8_way_67 ?_
      refine jj_icmp_eq 82 dX8_way_69 (by decide) (fun c7 => ?_) (fun c7 => ?_)
      · replace h := (if_pos c7).symm.trans h
        refine jj_aload_n dX8_way_82 2 rfl ?_
        refine jj_ldc (-1000000002) lk_8_249 dX8_way_83 ?_
        obtain ⟨q8, e8, h⟩ := jj_be h
        refine jj_callVi [.int (-1000000002)] [] (c_mdf_errs (d + 57)  e8) jm_mdf_errs lk_8_68 (b := 60) rfl (by decide) (jj_E8 rfl) rfl rfl rfl (by omega) rfl (Nat.le_of_ble_eq_true rfl) dX8_way_85 ?_
        exact jj_iret2 hF dX8_way_88 (Option.some.inj h)
      · replace h := (if_neg c7).symm.trans h
        refine jj_aload_n dX8_way_72 2 rfl ?_
        refine jj_iload_n dX8_way_73 3 rfl ?_
        refine jj_iload_n dX8_way_74 4 rfl ?_
        refine jj_iload_n dX8_way_75 5 rfl ?_
        obtain ⟨q9, e9, h⟩ := jj_be h
        refine jj_callVi [.int x1, .int x2, .int x3] [] (c_mdf_mayDrink (d + 1)  e9) jm_mdf_mayDrink lk_8_232 (b := 60) rfl (by decide) (jj_E8 rfl) rfl rfl rfl (by omega) rfl (Nat.le_of_ble_eq_true rfl) dX8_way_76 ?_
        refine jj_if_ne 89 dX8_way_79 (by decide) (fun c10 => ?_) (fun c10 => ?_)
        · replace h := (if_neg c10).symm.trans h
          refine jj_iload dX8_way_89 6 rfl ?_
          refine jj_if_eq 99 dX8_way_91 (by decide) (fun c11 => ?_) (fun c11 => ?_)
          · replace h := (if_pos c11).symm.trans h
            refine jj_iload dX8_way_99 0 rfl ?_
            refine jj_iconst (1) dX8_way_101 rfl ?_
            refine jj_iadd dX8_way_102 ?_
            exact jj_iret2 hF dX8_way_103 (Option.some.inj h)
          · replace h := (if_neg c11).symm.trans h
            refine jj_iload dX8_way_94 0 rfl ?_
            refine jj_goto 103 dX8_way_96 (by decide) ?_
            exact jj_iret2 hF dX8_way_103 (Option.some.inj h)
        · replace h := (if_pos c10).symm.trans h
          refine jj_aload_n dX8_way_82 2 rfl ?_
          refine jj_ldc (-1000000002) lk_8_249 dX8_way_83 ?_
          obtain ⟨q12, e12, h⟩ := jj_be h
          refine jj_callVi [.int (-1000000002)] [] (c_mdf_errs (d + 57)  e12) jm_mdf_errs lk_8_68 (b := 60) rfl (by decide) (jj_E8 rfl) rfl rfl rfl (by omega) rfl (Nat.le_of_ble_eq_true rfl) dX8_way_85 ?_
          exact jj_iret2 hF dX8_way_88 (Option.some.inj h)
    · replace h := (if_pos c4).symm.trans h
      refine jj_iconst (0) dX8_way_48 rfl ?_
      exact jj_iret2 hF dX8_way_49 (Option.some.inj h)
  · replace h := (if_neg c2).symm.trans h
    refine jj_aload_n dX8_way_31 1 rfl ?_
    refine jj_iload dX8_way_32 0 rfl ?_
    obtain ⟨q13, e13, h⟩ := jj_be h
    refine jj_callVi [.int q1] [] (c_mdf_errs (d + 57)  e13) jm_mdf_errs lk_8_68 (b := 60) rfl (by decide) (jj_E8 rfl) rfl rfl rfl (by omega) rfl (Nat.le_of_ble_eq_true rfl) dX8_way_34 ?_
    exact jj_iret2 hF dX8_way_37 (Option.some.inj h)
def mdf_way (N : Nat) (x1 : Int32) (x2 : Int32) (x3 : Int32) (x4 : Int32) (μ : jj_M) : Option (Int32 × jj_M) := if (mdf_isWell x2) = 0 then mdf_way_B21 N x1 x2 x3 x4 x1 0 μ else if (mdf_isSet x3) = 0 then mdf_way_B21 N x1 x2 x3 x4 x1 0 μ else mdf_way_B21 N x1 x2 x3 x4 x1 1 μ
set_option maxRecDepth 100000 in
theorem c_mdf_way {g : jj_G} (d : Nat) {N : Nat} {x1 : Int32} {x2 : Int32} {x3 : Int32} {x4 : Int32} {μ : jj_M} {r : Int32} {μ' : jj_M}   (h : mdf_way N x1 x2 x3 x4 μ = some (r, μ')) : jj_N g yX8_way cX8_way 7 (some .int) (d + 58) [.ref (jj_ad g 60), .int x1, .int x2, .int x3, .int x4] μ (some (.int r)) μ' := by
  refine jj_N_of jn_8 (Nat.le_of_ble_eq_true rfl) (fun X hF => ?_)
  unfold mdf_way at h
  refine jj_sub (own := RX8) (lv2 := [(0, .ref (jj_ad g 60)), (1, .int x1), (2, .int x2), (3, .int x3), (4, .int x4)]) [0, 1, 2, 3, 4] rfl ?_
  refine jj_aload_n dX8_way_0 0 rfl ?_
  refine jj_iload_n dX8_way_1 1 rfl ?_
  refine jj_iload_n dX8_way_2 2 rfl ?_
  refine jj_callSi [.int x2] [.int x1, .ref (jj_ad g 60)] (c_mdf_isWell (d + 56)  rfl) jm_mdf_isWell lk_8_58 rfl (by omega) rfl (Nat.le_of_ble_eq_true rfl) dX8_way_3 ?_
  refine jj_if_eq 20 dX8_way_6 (by decide) (fun c1 => ?_) (fun c1 => ?_)
  · replace h := (if_pos c1).symm.trans h
    refine jj_iconst (0) dX8_way_20 rfl ?_
    refine jj_sub [0, 1, 2, 3, 4] rfl ?_
    exact t_mdf_way_B21 d   hF  h
  · replace h := (if_neg c1).symm.trans h
    refine jj_iload_n dX8_way_9 3 rfl ?_
    refine jj_callSi [.int x3] [.int x1, .ref (jj_ad g 60)] (c_mdf_isSet (d + 56)  rfl) jm_mdf_isSet lk_8_235 rfl (by omega) rfl (Nat.le_of_ble_eq_true rfl) dX8_way_10 ?_
    refine jj_if_eq 20 dX8_way_13 (by decide) (fun c2 => ?_) (fun c2 => ?_)
    · replace h := (if_pos c2).symm.trans h
      refine jj_iconst (0) dX8_way_20 rfl ?_
      refine jj_sub [0, 1, 2, 3, 4] rfl ?_
      exact t_mdf_way_B21 d   hF  h
    · replace h := (if_neg c2).symm.trans h
      refine jj_iconst (1) dX8_way_16 rfl ?_
      refine jj_goto 21 dX8_way_17 (by decide) ?_
      refine jj_sub [0, 1, 2, 3, 4] rfl ?_
      exact t_mdf_way_B21 d   hF  h
def mdf_soonest (N : Nat) (x1 : Int32) (x2 : Int32) (x3 : Int32) (μ : jj_M) : Option (Int32 × jj_M) := (mdf_way N x1 x2 x3 1 μ).bind fun q1 => some ((q1.1, q1.2))
set_option maxRecDepth 100000 in
theorem c_mdf_soonest {g : jj_G} (d : Nat) {N : Nat} {x1 : Int32} {x2 : Int32} {x3 : Int32} {μ : jj_M} {r : Int32} {μ' : jj_M}   (h : mdf_soonest N x1 x2 x3 μ = some (r, μ')) : jj_N g yX8_soonest cX8_soonest 4 (some .int) (d + 59) [.ref (jj_ad g 60), .int x1, .int x2, .int x3] μ (some (.int r)) μ' := by
  refine jj_N_of jn_8 (Nat.le_of_ble_eq_true rfl) (fun X hF => ?_)
  unfold mdf_soonest at h
  refine jj_sub (own := RX8) (lv2 := [(0, .ref (jj_ad g 60)), (1, .int x1), (2, .int x2), (3, .int x3)]) [0, 1, 2, 3] rfl ?_
  refine jj_aload_n dX8_soonest_0 0 rfl ?_
  refine jj_iload_n dX8_soonest_1 1 rfl ?_
  refine jj_iload_n dX8_soonest_2 2 rfl ?_
  refine jj_iload_n dX8_soonest_3 3 rfl ?_
  refine jj_iconst (1) dX8_soonest_4 rfl ?_
  obtain ⟨q1, e1, h⟩ := jj_be h
  refine jj_callVi [.int x1, .int x2, .int x3, .int 1] [] (c_mdf_way (d + 0)  e1) jm_mdf_way lk_8_250 (b := 60) rfl (by decide) (jj_E8 rfl) rfl rfl rfl (by omega) rfl (Nat.le_of_ble_eq_true rfl) dX8_soonest_5 ?_
  exact jj_iret2 hF dX8_soonest_8 (Option.some.inj h)
def mdf_drinks (N : Nat) (x1 : Int32) (x2 : Int32) (x3 : Int32) (μ : jj_M) : Option (Int32 × jj_M) := (mdf_way N x1 x2 x3 0 μ).bind fun q1 => some ((q1.1, q1.2))
set_option maxRecDepth 100000 in
theorem c_mdf_drinks {g : jj_G} (d : Nat) {N : Nat} {x1 : Int32} {x2 : Int32} {x3 : Int32} {μ : jj_M} {r : Int32} {μ' : jj_M}   (h : mdf_drinks N x1 x2 x3 μ = some (r, μ')) : jj_N g yX8_drinks cX8_drinks 4 (some .int) (d + 59) [.ref (jj_ad g 60), .int x1, .int x2, .int x3] μ (some (.int r)) μ' := by
  refine jj_N_of jn_8 (Nat.le_of_ble_eq_true rfl) (fun X hF => ?_)
  unfold mdf_drinks at h
  refine jj_sub (own := RX8) (lv2 := [(0, .ref (jj_ad g 60)), (1, .int x1), (2, .int x2), (3, .int x3)]) [0, 1, 2, 3] rfl ?_
  refine jj_aload_n dX8_drinks_0 0 rfl ?_
  refine jj_iload_n dX8_drinks_1 1 rfl ?_
  refine jj_iload_n dX8_drinks_2 2 rfl ?_
  refine jj_iload_n dX8_drinks_3 3 rfl ?_
  refine jj_iconst (0) dX8_drinks_4 rfl ?_
  obtain ⟨q1, e1, h⟩ := jj_be h
  refine jj_callVi [.int x1, .int x2, .int x3, .int 0] [] (c_mdf_way (d + 0)  e1) jm_mdf_way lk_8_250 (b := 60) rfl (by decide) (jj_E8 rfl) rfl rfl rfl (by omega) rfl (Nat.le_of_ble_eq_true rfl) dX8_drinks_5 ?_
  exact jj_iret2 hF dX8_drinks_8 (Option.some.inj h)
def mdf_reached_L12 (N : Nat)  (μ : jj_M) : Nat → Int32 → Int32 → Option (Int32 × jj_M)
  | 0, _, _ => none
  | n + 1, x3, x4 => if 8 ≤ x4 then some ((x3, μ)) else (mdf_leastAt N x4 μ).bind fun q2 => if 1000000 ≤ q2 then mdf_reached_L12 N μ n (x3 ||| 0) (x4 + 1) else mdf_reached_L12 N μ n (x3 ||| (1 <<< (x4 &&& 31))) (x4 + 1)
set_option maxRecDepth 100000 in
theorem t_mdf_reached_L12 {g : jj_G} (d : Nat) {N : Nat}  {μ : jj_M}  {r : Int32} {μ' : jj_M} {X : jj_X}   (hF : jj_F g (some .int) (some (.int r)) μ' X)  : ∀ (n : Nat) (x3 : Int32) (x4 : Int32), mdf_reached_L12 N μ n x3 x4 = some (r, μ') → jj_V g X RX8 cX8_reached 5 (d + 58) 12 [(0, .ref (jj_ad g 60)), (3, .int x3), (4, .int x4)] [] μ := by
  intro n
  induction n with
  | zero =>
    intro x3 x4 h
    exact (jj_no h).elim
  | succ n ih =>
    intro x3 x4 h
    rw [mdf_reached_L12] at h
    refine jj_iload dX8_reached_12 2 rfl ?_
    refine jj_bipush (8) dX8_reached_14 rfl ?_
    refine jj_icmp_ge 47 dX8_reached_16 (by decide) (fun c1 => ?_) (fun c1 => ?_)
    · replace h := (if_pos c1).symm.trans h
      refine jj_iload_n dX8_reached_47 1 rfl ?_
      exact jj_iret2 hF dX8_reached_48 (Option.some.inj h)
    · replace h := (if_neg c1).symm.trans h
      refine jj_iload_n dX8_reached_19 1 rfl ?_
      refine jj_aload_n dX8_reached_20 0 rfl ?_
      refine jj_iload dX8_reached_21 2 rfl ?_
      obtain ⟨q2, e2, h⟩ := jj_be h
      refine jj_callVi [.int x4] [.int x3] (c_mdf_leastAt (d + 57)  e2) jm_mdf_leastAt lk_8_246 (b := 60) rfl (by decide) (jj_E8 rfl) rfl rfl rfl (by omega) rfl (Nat.le_of_ble_eq_true rfl) dX8_reached_23 ?_
      refine jj_ldc (1000000) lk_8_227 dX8_reached_26 ?_
      refine jj_icmp_ge 38 dX8_reached_28 (by decide) (fun c3 => ?_) (fun c3 => ?_)
      · replace h := (if_pos c3).symm.trans h
        refine jj_iconst (0) dX8_reached_38 rfl ?_
        refine jj_ior dX8_reached_39 ?_
        refine jj_istore_n [(3, .int (x3 ||| 0)), (0, .ref (jj_ad g 60)), (4, .int x4)] dX8_reached_40 (by decide) rfl ?_
        refine jj_iinc (x4 + 1) [(4, .int (x4 + 1)), (3, .int (x3 ||| 0)), (0, .ref (jj_ad g 60))] dX8_reached_41 2 rfl rfl (by decide) rfl ?_
        refine jj_goto 12 dX8_reached_44 (by decide) ?_
        refine jj_sub [2, 1, 0] rfl ?_
        exact ih _ _ h
      · replace h := (if_neg c3).symm.trans h
        refine jj_iconst (1) dX8_reached_31 rfl ?_
        refine jj_iload dX8_reached_32 2 rfl ?_
        refine jj_ishl dX8_reached_34 ?_
        refine jj_goto 39 dX8_reached_35 (by decide) ?_
        refine jj_ior dX8_reached_39 ?_
        refine jj_istore_n [(3, .int (x3 ||| (1 <<< (x4 &&& 31)))), (0, .ref (jj_ad g 60)), (4, .int x4)] dX8_reached_40 (by decide) rfl ?_
        refine jj_iinc (x4 + 1) [(4, .int (x4 + 1)), (3, .int (x3 ||| (1 <<< (x4 &&& 31)))), (0, .ref (jj_ad g 60))] dX8_reached_41 2 rfl rfl (by decide) rfl ?_
        refine jj_goto 12 dX8_reached_44 (by decide) ?_
        refine jj_sub [2, 1, 0] rfl ?_
        exact ih _ _ h
def mdf_reached (N : Nat) (x1 : Int32) (x2 : Int32) (μ : jj_M) : Option (Int32 × jj_M) := (mdf_spreads N x1 x2 1 μ).bind fun q1 => mdf_reached_L12 N q1 N 0 0
set_option maxRecDepth 100000 in
theorem c_mdf_reached {g : jj_G} (d : Nat) {N : Nat} {x1 : Int32} {x2 : Int32} {μ : jj_M} {r : Int32} {μ' : jj_M}   (h : mdf_reached N x1 x2 μ = some (r, μ')) : jj_N g yX8_reached cX8_reached 5 (some .int) (d + 58) [.ref (jj_ad g 60), .int x1, .int x2] μ (some (.int r)) μ' := by
  refine jj_N_of jn_8 (Nat.le_of_ble_eq_true rfl) (fun X hF => ?_)
  unfold mdf_reached at h
  refine jj_sub (own := RX8) (lv2 := [(0, .ref (jj_ad g 60)), (1, .int x1), (2, .int x2)]) [0, 1, 2] rfl ?_
  refine jj_aload_n dX8_reached_0 0 rfl ?_
  refine jj_iload_n dX8_reached_1 1 rfl ?_
  refine jj_iload_n dX8_reached_2 2 rfl ?_
  refine jj_iconst (1) dX8_reached_3 rfl ?_
  obtain ⟨q1, e1, h⟩ := jj_be h
  refine jj_callVv [.int x1, .int x2, .int 1] [] (c_mdf_spreads (d + 0)  e1) jm_mdf_spreads lk_8_242 (b := 60) rfl (by decide) (jj_E8 rfl) rfl rfl rfl (by omega) rfl (Nat.le_of_ble_eq_true rfl) dX8_reached_4 ?_
  refine jj_iconst (0) dX8_reached_7 rfl ?_
  refine jj_istore_n [(3, .int 0), (0, .ref (jj_ad g 60)), (1, .int x1), (2, .int x2)] dX8_reached_8 (by decide) rfl ?_
  refine jj_iconst (0) dX8_reached_9 rfl ?_
  refine jj_istore [(4, .int 0), (3, .int 0), (0, .ref (jj_ad g 60)), (1, .int x1), (2, .int x2)] dX8_reached_10 (by decide) rfl ?_
  refine jj_sub [2, 1, 0] rfl ?_
  exact t_mdf_reached_L12 d   hF  _ _ _ h
def mdf_reach_L52 (N : Nat)  (x1 : Int32) (x2 : Int32) (x3 : Int32) : Nat → Int32 → Int32 → jj_M → Option (Int32 × jj_M)
  | 0, _, _, _ => none
  | n + 1, x5, x6, μ => if 8 ≤ x6 then some ((x5, μ)) else if x3 = 1 then (mdf_mayDrink N x1 x6 x2 μ).bind fun q3 => if q3.1 = 0 then mdf_reach_L52 N x1 x2 x3 n (x5 &&& ((1 <<< (x6 &&& 31)) ^^^ (-1))) (x6 + 1) q3.2 else mdf_reach_L52 N x1 x2 x3 n (x5 &&& 255) (x6 + 1) q3.2 else some ((x5, μ))
set_option maxRecDepth 100000 in
theorem t_mdf_reach_L52 {g : jj_G} (d : Nat) {N : Nat}  {x1 : Int32} {x2 : Int32} {x3 : Int32}  {r : Int32} {μ' : jj_M} {X : jj_X}   (hF : jj_F g (some .int) (some (.int r)) μ' X)  : ∀ (n : Nat) (x5 : Int32) (x6 : Int32) (μ : jj_M), mdf_reach_L52 N x1 x2 x3 n x5 x6 μ = some (r, μ') → jj_V g X RX8 cX8_reach 7 (d + 59) 52 [(0, .ref (jj_ad g 60)), (1, .int x1), (2, .int x2), (3, .int x3), (5, .int x5), (6, .int x6)] [] μ := by
  intro n
  induction n with
  | zero =>
    intro x5 x6 μ h
    exact (jj_no h).elim
  | succ n ih =>
    intro x5 x6 μ h
    rw [mdf_reach_L52] at h
    refine jj_iload dX8_reach_52 5 rfl ?_
    refine jj_bipush (8) dX8_reach_54 rfl ?_
    refine jj_icmp_ge 98 dX8_reach_56 (by decide) (fun c1 => ?_) (fun c1 => ?_)
    · replace h := (if_pos c1).symm.trans h
      refine jj_iload dX8_reach_98 4 rfl ?_
      exact jj_iret2 hF dX8_reach_100 (Option.some.inj h)
    · replace h := (if_neg c1).symm.trans h
      refine jj_iload_n dX8_reach_59 3 rfl ?_
      refine jj_iconst (1) dX8_reach_60 rfl ?_
      refine jj_icmp_ne 98 dX8_reach_61 (by decide) (fun c2 => ?_) (fun c2 => ?_)
      · replace h := (if_neg c2).symm.trans h
        refine jj_iload dX8_reach_98 4 rfl ?_
        exact jj_iret2 hF dX8_reach_100 (Option.some.inj h)
      · replace h := (if_pos c2).symm.trans h
        refine jj_iload dX8_reach_64 4 rfl ?_
        refine jj_aload_n dX8_reach_66 0 rfl ?_
        refine jj_iload_n dX8_reach_67 1 rfl ?_
        refine jj_iload dX8_reach_68 5 rfl ?_
        refine jj_iload_n dX8_reach_70 2 rfl ?_
        obtain ⟨q3, e3, h⟩ := jj_be h
        refine jj_callVi [.int x1, .int x6, .int x2] [.int x5] (c_mdf_mayDrink (d + 2)  e3) jm_mdf_mayDrink lk_8_232 (b := 60) rfl (by decide) (jj_E8 rfl) rfl rfl rfl (by omega) rfl (Nat.le_of_ble_eq_true rfl) dX8_reach_71 ?_
        refine jj_if_eq 83 dX8_reach_74 (by decide) (fun c4 => ?_) (fun c4 => ?_)
        · replace h := (if_pos c4).symm.trans h
          refine jj_iconst (1) dX8_reach_83 rfl ?_
          refine jj_iload dX8_reach_84 5 rfl ?_
          refine jj_ishl dX8_reach_86 ?_
          refine jj_iconst (-1) dX8_reach_87 rfl ?_
          refine jj_ixor dX8_reach_88 ?_
          refine jj_iand dX8_reach_89 ?_
          refine jj_istore [(5, .int (x5 &&& ((1 <<< (x6 &&& 31)) ^^^ (-1)))), (0, .ref (jj_ad g 60)), (1, .int x1), (2, .int x2), (3, .int x3), (6, .int x6)] dX8_reach_90 (by decide) rfl ?_
          refine jj_iinc (x6 + 1) [(6, .int (x6 + 1)), (5, .int (x5 &&& ((1 <<< (x6 &&& 31)) ^^^ (-1)))), (0, .ref (jj_ad g 60)), (1, .int x1), (2, .int x2), (3, .int x3)] dX8_reach_92 5 rfl rfl (by decide) rfl ?_
          refine jj_goto 52 dX8_reach_95 (by decide) ?_
          refine jj_sub [2, 3, 4, 5, 1, 0] rfl ?_
          exact ih _ _ _ h
        · replace h := (if_neg c4).symm.trans h
          refine jj_sipush (255) dX8_reach_77 rfl ?_
          refine jj_goto 89 dX8_reach_80 (by decide) ?_
          refine jj_iand dX8_reach_89 ?_
          refine jj_istore [(5, .int (x5 &&& 255)), (0, .ref (jj_ad g 60)), (1, .int x1), (2, .int x2), (3, .int x3), (6, .int x6)] dX8_reach_90 (by decide) rfl ?_
          refine jj_iinc (x6 + 1) [(6, .int (x6 + 1)), (5, .int (x5 &&& 255)), (0, .ref (jj_ad g 60)), (1, .int x1), (2, .int x2), (3, .int x3)] dX8_reach_92 5 rfl rfl (by decide) rfl ?_
          refine jj_goto 52 dX8_reach_95 (by decide) ?_
          refine jj_sub [2, 3, 4, 5, 1, 0] rfl ?_
          exact ih _ _ _ h
def mdf_reach_B24 (N : Nat)  (x1 : Int32) (x2 : Int32) (x3 : Int32) (sx1 : Int32) (sx2 : Int32) (μ : jj_M) : Option (Int32 × jj_M) := (mdf_wrongWay sx1 sx2 μ).bind fun q1 => if q1 = 0 then (mdf_reached N x1 x2 μ).bind fun q3 => mdf_reach_L52 N x1 x2 x3 N q3.1 0 q3.2 else (mdf_errs q1 μ).bind fun q4 => some ((q4.1, q4.2))
set_option maxRecDepth 100000 in
theorem t_mdf_reach_B24 {g : jj_G} (d : Nat) {N : Nat}  {x1 : Int32} {x2 : Int32} {x3 : Int32} {sx1 : Int32} {sx2 : Int32} {μ : jj_M}  {r : Int32} {μ' : jj_M} {X : jj_X}   (hF : jj_F g (some .int) (some (.int r)) μ' X)  (h : mdf_reach_B24 N x1 x2 x3 sx1 sx2 μ = some (r, μ')) : jj_V g X RX8 cX8_reach 7 (d + 59) 24 [(0, .ref (jj_ad g 60)), (1, .int x1), (2, .int x2), (3, .int x3)] [.int sx2, .int sx1, .ref (jj_ad g 60)] μ := by
  unfold mdf_reach_B24 at h
  obtain ⟨q1, e1, h⟩ := jj_be h
  refine jj_callVi [.int sx1, .int sx2] [] (c_mdf_wrongWay (d + 56)  e1) jm_mdf_wrongWay lk_8_238 (b := 60) rfl (by decide) (jj_E8 rfl) rfl rfl rfl (by omega) rfl (Nat.le_of_ble_eq_true rfl) dX8_reach_24 ?_
  refine jj_istore [(4, .int q1), (0, .ref (jj_ad g 60)), (1, .int x1), (2, .int x2), (3, .int x3)] dX8_reach_27 (by decide) rfl ?_
  refine jj_iload dX8_reach_29 0 rfl ?_
  refine jj_if_eq 41 dX8_reach_31 (by decide) (fun c2 => ?_) (fun c2 => ?_)
  · replace h := (if_pos c2).symm.trans h
    refine jj_aload_n dX8_reach_41 1 rfl ?_
    refine jj_iload_n dX8_reach_42 2 rfl ?_
    refine jj_iload_n dX8_reach_43 3 rfl ?_
    obtain ⟨q3, e3, h⟩ := jj_be h
    refine jj_callVi [.int x1, .int x2] [] (c_mdf_reached (d + 0)  e3) jm_mdf_reached lk_8_254 (b := 60) rfl (by decide) (jj_E8 rfl) rfl rfl rfl (by omega) rfl (Nat.le_of_ble_eq_true rfl) dX8_reach_44 ?_
    refine jj_istore [(5, .int q3.1), (4, .int q1), (0, .ref (jj_ad g 60)), (1, .int x1), (2, .int x2), (3, .int x3)] dX8_reach_47 (by decide) rfl ?_
    refine jj_iconst (0) dX8_reach_49 rfl ?_
    refine jj_istore [(6, .int 0), (5, .int q3.1), (4, .int q1), (0, .ref (jj_ad g 60)), (1, .int x1), (2, .int x2), (3, .int x3)] dX8_reach_50 (by decide) rfl ?_
    refine jj_sub [3, 4, 5, 6, 1, 0] rfl ?_
    exact t_mdf_reach_L52 d   hF  _ _ _ _ h
  · replace h := (if_neg c2).symm.trans h
    refine jj_aload_n dX8_reach_34 1 rfl ?_
    refine jj_iload dX8_reach_35 0 rfl ?_
    obtain ⟨q4, e4, h⟩ := jj_be h
    refine jj_callVi [.int q1] [] (c_mdf_errs (d + 58)  e4) jm_mdf_errs lk_8_68 (b := 60) rfl (by decide) (jj_E8 rfl) rfl rfl rfl (by omega) rfl (Nat.le_of_ble_eq_true rfl) dX8_reach_37 ?_
    exact jj_iret2 hF dX8_reach_40 (Option.some.inj h)
def mdf_reach (N : Nat) (x1 : Int32) (x2 : Int32) (x3 : Int32) (μ : jj_M) : Option (Int32 × jj_M) := if (mdf_isSet x2) = 0 then mdf_reach_B24 N x1 x2 x3 x1 0 μ else if (mdf_in (Int32.toInt64 x3) 0 1) = 0 then mdf_reach_B24 N x1 x2 x3 x1 0 μ else mdf_reach_B24 N x1 x2 x3 x1 1 μ
set_option maxRecDepth 100000 in
theorem c_mdf_reach {g : jj_G} (d : Nat) {N : Nat} {x1 : Int32} {x2 : Int32} {x3 : Int32} {μ : jj_M} {r : Int32} {μ' : jj_M}   (h : mdf_reach N x1 x2 x3 μ = some (r, μ')) : jj_N g yX8_reach cX8_reach 7 (some .int) (d + 59) [.ref (jj_ad g 60), .int x1, .int x2, .int x3] μ (some (.int r)) μ' := by
  refine jj_N_of jn_8 (Nat.le_of_ble_eq_true rfl) (fun X hF => ?_)
  unfold mdf_reach at h
  refine jj_sub (own := RX8) (lv2 := [(0, .ref (jj_ad g 60)), (1, .int x1), (2, .int x2), (3, .int x3)]) [0, 1, 2, 3] rfl ?_
  refine jj_aload_n dX8_reach_0 0 rfl ?_
  refine jj_iload_n dX8_reach_1 1 rfl ?_
  refine jj_iload_n dX8_reach_2 2 rfl ?_
  refine jj_callSi [.int x2] [.int x1, .ref (jj_ad g 60)] (c_mdf_isSet (d + 57)  rfl) jm_mdf_isSet lk_8_235 rfl (by omega) rfl (Nat.le_of_ble_eq_true rfl) dX8_reach_3 ?_
  refine jj_if_eq 23 dX8_reach_6 (by decide) (fun c1 => ?_) (fun c1 => ?_)
  · replace h := (if_pos c1).symm.trans h
    refine jj_iconst (0) dX8_reach_23 rfl ?_
    refine jj_sub [0, 1, 2, 3] rfl ?_
    exact t_mdf_reach_B24 d   hF  h
  · replace h := (if_neg c1).symm.trans h
    refine jj_iload_n dX8_reach_9 3 rfl ?_
    refine jj_i2l dX8_reach_10 ?_
    refine jj_lconst (0) dX8_reach_11 rfl ?_
    refine jj_lconst (1) dX8_reach_12 rfl ?_
    refine jj_callSi [.long (Int32.toInt64 x3), .long 0, .long 1] [.int x1, .ref (jj_ad g 60)] (c_mdf_in (d + 58)  rfl) jm_mdf_in lk_8_46 rfl (by omega) rfl (Nat.le_of_ble_eq_true rfl) dX8_reach_13 ?_
    refine jj_if_eq 23 dX8_reach_16 (by decide) (fun c2 => ?_) (fun c2 => ?_)
    · replace h := (if_pos c2).symm.trans h
      refine jj_iconst (0) dX8_reach_23 rfl ?_
      refine jj_sub [0, 1, 2, 3] rfl ?_
      exact t_mdf_reach_B24 d   hF  h
    · replace h := (if_neg c2).symm.trans h
      refine jj_iconst (1) dX8_reach_19 rfl ?_
      refine jj_goto 24 dX8_reach_20 (by decide) ?_
      refine jj_sub [0, 1, 2, 3] rfl ?_
      exact t_mdf_reach_B24 d   hF  h
def mdf_dry_B75 (N : Nat) (k33 : Int32 → Int32 → Int32 → jj_M → Option (Int32 × jj_M)) (x1 : Int32) (x2 : Int32) (x5 : Int32) (x6 : Int32) (x7 : Int32) (sx0 : Int32) (μ : jj_M) : Option (Int32 × jj_M) := if x5 ≤ x7 then k33 sx0 x5 (x6 + 1) μ else k33 sx0 x7 (x6 + 1) μ
set_option maxRecDepth 100000 in
theorem t_mdf_dry_B75 {g : jj_G} (d : Nat) {N : Nat} {k33 : Int32 → Int32 → Int32 → jj_M → Option (Int32 × jj_M)} {x1 : Int32} {x2 : Int32} {x5 : Int32} {x6 : Int32} {x7 : Int32} {sx0 : Int32} {μ : jj_M}  {r : Int32} {μ' : jj_M} {X : jj_X}   (hF : jj_F g (some .int) (some (.int r)) μ' X) (hk33 : ∀ (x4 : Int32) (x5 : Int32) (x6 : Int32) (μ : jj_M), k33 x4 x5 x6 μ = some (r, μ') → jj_V g X RX8 cX8_dry 8 (d + 59) 33 [(0, .ref (jj_ad g 60)), (1, .int x1), (2, .int x2), (4, .int x4), (5, .int x5), (6, .int x6)] [] μ) (h : mdf_dry_B75 N k33 x1 x2 x5 x6 x7 sx0 μ = some (r, μ')) : jj_V g X RX8 cX8_dry 8 (d + 59) 75 [(0, .ref (jj_ad g 60)), (1, .int x1), (2, .int x2), (5, .int x5), (6, .int x6), (7, .int x7)] [.int sx0] μ := by
  unfold mdf_dry_B75 at h
  refine jj_istore [(4, .int sx0), (0, .ref (jj_ad g 60)), (1, .int x1), (2, .int x2), (5, .int x5), (6, .int x6), (7, .int x7)] dX8_dry_75 (by decide) rfl ?_
  refine jj_iload dX8_dry_77 6 rfl ?_
  refine jj_iload dX8_dry_79 4 rfl ?_
  refine jj_icmp_ge 89 dX8_dry_81 (by decide) (fun c1 => ?_) (fun c1 => ?_)
  · replace h := (if_pos c1).symm.trans h
    refine jj_iload dX8_dry_89 4 rfl ?_
    refine jj_istore [(5, .int x5), (4, .int sx0), (0, .ref (jj_ad g 60)), (1, .int x1), (2, .int x2), (6, .int x6), (7, .int x7)] dX8_dry_91 (by decide) rfl ?_
    refine jj_iinc (x6 + 1) [(6, .int (x6 + 1)), (5, .int x5), (4, .int sx0), (0, .ref (jj_ad g 60)), (1, .int x1), (2, .int x2), (7, .int x7)] dX8_dry_93 5 rfl rfl (by decide) rfl ?_
    refine jj_goto 33 dX8_dry_96 (by decide) ?_
    refine jj_sub [3, 4, 5, 2, 1, 0] rfl ?_
    exact hk33 _ _ _ _ h
  · replace h := (if_neg c1).symm.trans h
    refine jj_iload dX8_dry_84 6 rfl ?_
    refine jj_goto 91 dX8_dry_86 (by decide) ?_
    refine jj_istore [(5, .int x7), (4, .int sx0), (0, .ref (jj_ad g 60)), (1, .int x1), (2, .int x2), (6, .int x6), (7, .int x7)] dX8_dry_91 (by decide) rfl ?_
    refine jj_iinc (x6 + 1) [(6, .int (x6 + 1)), (5, .int x7), (4, .int sx0), (0, .ref (jj_ad g 60)), (1, .int x1), (2, .int x2), (7, .int x7)] dX8_dry_93 5 rfl rfl (by decide) rfl ?_
    refine jj_goto 33 dX8_dry_96 (by decide) ?_
    refine jj_sub [3, 4, 5, 2, 1, 0] rfl ?_
    exact hk33 _ _ _ _ h
def mdf_dry_L33 (N : Nat)  (x1 : Int32) (x2 : Int32) : Nat → Int32 → Int32 → Int32 → jj_M → Option (Int32 × jj_M)
  | 0, _, _, _, _ => none
  | n + 1, x4, x5, x6, μ => if 8 ≤ x6 then if x2 = 0 then some ((x4, μ)) else some ((x5, μ)) else (mdf_reached N x1 (1 <<< (x6 &&& 31)) μ).bind fun q3 => (mdf_ones N (q3.1 &&& ((1 <<< (x6 &&& 31)) ^^^ (-1)))).bind fun q4 => if x5 ≤ q4 then mdf_dry_B75 N (mdf_dry_L33 N x1 x2 n) x1 x2 x5 x6 q4 x4 q3.2 else mdf_dry_B75 N (mdf_dry_L33 N x1 x2 n) x1 x2 x5 x6 q4 x6 q3.2
set_option maxRecDepth 100000 in
theorem t_mdf_dry_L33 {g : jj_G} (d : Nat) {N : Nat}  {x1 : Int32} {x2 : Int32}  {r : Int32} {μ' : jj_M} {X : jj_X}   (hF : jj_F g (some .int) (some (.int r)) μ' X)  : ∀ (n : Nat) (x4 : Int32) (x5 : Int32) (x6 : Int32) (μ : jj_M), mdf_dry_L33 N x1 x2 n x4 x5 x6 μ = some (r, μ') → jj_V g X RX8 cX8_dry 8 (d + 59) 33 [(0, .ref (jj_ad g 60)), (1, .int x1), (2, .int x2), (4, .int x4), (5, .int x5), (6, .int x6)] [] μ := by
  intro n
  induction n with
  | zero =>
    intro x4 x5 x6 μ h
    exact (jj_no h).elim
  | succ n ih =>
    intro x4 x5 x6 μ h
    rw [mdf_dry_L33] at h
    refine jj_iload dX8_dry_33 5 rfl ?_
    refine jj_bipush (8) dX8_dry_35 rfl ?_
    refine jj_icmp_ge 99 dX8_dry_37 (by decide) (fun c1 => ?_) (fun c1 => ?_)
    · replace h := (if_pos c1).symm.trans h
      refine jj_iload_n dX8_dry_99 2 rfl ?_
      refine jj_if_ne 108 dX8_dry_100 (by decide) (fun c2 => ?_) (fun c2 => ?_)
      · replace h := (if_neg c2).symm.trans h
        refine jj_iload dX8_dry_108 4 rfl ?_
        exact jj_iret2 hF dX8_dry_110 (Option.some.inj h)
      · replace h := (if_pos c2).symm.trans h
        refine jj_iload dX8_dry_103 3 rfl ?_
        refine jj_goto 110 dX8_dry_105 (by decide) ?_
        exact jj_iret2 hF dX8_dry_110 (Option.some.inj h)
    · replace h := (if_neg c1).symm.trans h
      refine jj_aload_n dX8_dry_40 0 rfl ?_
      refine jj_iload_n dX8_dry_41 1 rfl ?_
      refine jj_iconst (1) dX8_dry_42 rfl ?_
      refine jj_iload dX8_dry_43 5 rfl ?_
      refine jj_ishl dX8_dry_45 ?_
      obtain ⟨q3, e3, h⟩ := jj_be h
      refine jj_callVi [.int x1, .int (1 <<< (x6 &&& 31))] [] (c_mdf_reached (d + 0)  e3) jm_mdf_reached lk_8_254 (b := 60) rfl (by decide) (jj_E8 rfl) rfl rfl rfl (by omega) rfl (Nat.le_of_ble_eq_true rfl) dX8_dry_46 ?_
      refine jj_iconst (1) dX8_dry_49 rfl ?_
      refine jj_iload dX8_dry_50 5 rfl ?_
      refine jj_ishl dX8_dry_52 ?_
      refine jj_iconst (-1) dX8_dry_53 rfl ?_
      refine jj_ixor dX8_dry_54 ?_
      refine jj_iand dX8_dry_55 ?_
      obtain ⟨q4, e4, h⟩ := jj_be h
      refine jj_callSi [.int (q3.1 &&& ((1 <<< (x6 &&& 31)) ^^^ (-1)))] [] (c_mdf_ones (d + 58)  e4) jm_mdf_ones lk_8_224 rfl (by omega) rfl (Nat.le_of_ble_eq_true rfl) dX8_dry_56 ?_
      refine jj_istore [(7, .int q4), (0, .ref (jj_ad g 60)), (1, .int x1), (2, .int x2), (4, .int x4), (5, .int x5), (6, .int x6)] dX8_dry_59 (by decide) rfl ?_
      refine jj_iload dX8_dry_61 0 rfl ?_
      refine jj_iload dX8_dry_63 5 rfl ?_
      refine jj_icmp_ge 73 dX8_dry_65 (by decide) (fun c5 => ?_) (fun c5 => ?_)
      · replace h := (if_pos c5).symm.trans h
        refine jj_iload dX8_dry_73 4 rfl ?_
        refine jj_sub [1, 2, 3, 5, 6, 0] rfl ?_
        exact t_mdf_dry_B75 d   hF ih h
      · replace h := (if_neg c5).symm.trans h
        refine jj_iload dX8_dry_68 6 rfl ?_
        refine jj_goto 75 dX8_dry_70 (by decide) ?_
        refine jj_sub [1, 2, 3, 5, 6, 0] rfl ?_
        exact t_mdf_dry_B75 d   hF ih h
def mdf_dry (N : Nat) (x1 : Int32) (x2 : Int32) (μ : jj_M) : Option (Int32 × jj_M) := (mdf_wrongWay x1 (mdf_in (Int32.toInt64 x2) 0 1) μ).bind fun q1 => if q1 = 0 then mdf_dry_L33 N x1 x2 N 0 8 0 μ else (mdf_errs q1 μ).bind fun q3 => some ((q3.1, q3.2))
set_option maxRecDepth 100000 in
theorem c_mdf_dry {g : jj_G} (d : Nat) {N : Nat} {x1 : Int32} {x2 : Int32} {μ : jj_M} {r : Int32} {μ' : jj_M}   (h : mdf_dry N x1 x2 μ = some (r, μ')) : jj_N g yX8_dry cX8_dry 8 (some .int) (d + 59) [.ref (jj_ad g 60), .int x1, .int x2] μ (some (.int r)) μ' := by
  refine jj_N_of jn_8 (Nat.le_of_ble_eq_true rfl) (fun X hF => ?_)
  unfold mdf_dry at h
  refine jj_sub (own := RX8) (lv2 := [(0, .ref (jj_ad g 60)), (1, .int x1), (2, .int x2)]) [0, 1, 2] rfl ?_
  refine jj_aload_n dX8_dry_0 0 rfl ?_
  refine jj_iload_n dX8_dry_1 1 rfl ?_
  refine jj_iload_n dX8_dry_2 2 rfl ?_
  refine jj_i2l dX8_dry_3 ?_
  refine jj_lconst (0) dX8_dry_4 rfl ?_
  refine jj_lconst (1) dX8_dry_5 rfl ?_
  refine jj_callSi [.long (Int32.toInt64 x2), .long 0, .long 1] [.int x1, .ref (jj_ad g 60)] (c_mdf_in (d + 58)  rfl) jm_mdf_in lk_8_46 rfl (by omega) rfl (Nat.le_of_ble_eq_true rfl) dX8_dry_6 ?_
  obtain ⟨q1, e1, h⟩ := jj_be h
  refine jj_callVi [.int x1, .int (mdf_in (Int32.toInt64 x2) 0 1)] [] (c_mdf_wrongWay (d + 56)  e1) jm_mdf_wrongWay lk_8_238 (b := 60) rfl (by decide) (jj_E8 rfl) rfl rfl rfl (by omega) rfl (Nat.le_of_ble_eq_true rfl) dX8_dry_9 ?_
  refine jj_istore_n [(3, .int q1), (0, .ref (jj_ad g 60)), (1, .int x1), (2, .int x2)] dX8_dry_12 (by decide) rfl ?_
  refine jj_iload_n dX8_dry_13 0 rfl ?_
  refine jj_if_eq 23 dX8_dry_14 (by decide) (fun c2 => ?_) (fun c2 => ?_)
  · replace h := (if_pos c2).symm.trans h
    refine jj_iconst (0) dX8_dry_23 rfl ?_
    refine jj_istore [(4, .int 0), (3, .int q1), (0, .ref (jj_ad g 60)), (1, .int x1), (2, .int x2)] dX8_dry_24 (by decide) rfl ?_
    refine jj_bipush (8) dX8_dry_26 rfl ?_
    refine jj_istore [(5, .int 8), (4, .int 0), (3, .int q1), (0, .ref (jj_ad g 60)), (1, .int x1), (2, .int x2)] dX8_dry_28 (by decide) rfl ?_
    refine jj_iconst (0) dX8_dry_30 rfl ?_
    refine jj_istore [(6, .int 0), (5, .int 8), (4, .int 0), (3, .int q1), (0, .ref (jj_ad g 60)), (1, .int x1), (2, .int x2)] dX8_dry_31 (by decide) rfl ?_
    refine jj_sub [4, 5, 6, 2, 1, 0] rfl ?_
    exact t_mdf_dry_L33 d   hF  _ _ _ _ _ h
  · replace h := (if_neg c2).symm.trans h
    refine jj_aload_n dX8_dry_17 1 rfl ?_
    refine jj_iload_n dX8_dry_18 0 rfl ?_
    obtain ⟨q3, e3, h⟩ := jj_be h
    refine jj_callVi [.int q1] [] (c_mdf_errs (d + 58)  e3) jm_mdf_errs lk_8_68 (b := 60) rfl (by decide) (jj_E8 rfl) rfl rfl rfl (by omega) rfl (Nat.le_of_ble_eq_true rfl) dX8_dry_19 ?_
    exact jj_iret2 hF dX8_dry_22 (Option.some.inj h)
def mdf_net_B72 (N : Nat) (k6 : Int32 → Int32 → Int32 → Option (Int32 × jj_M)) (k22 : Int32 → Int32 → Int32 → Option (Int32 × jj_M)) (x1 : Int32) (x2 : Int32) (x3 : Int32) (x4 : Int32) (x5 : Int32) (x6 : Int32) (sx0 : Int32) (μ : jj_M) : Option (Int32 × jj_M) := if sx0 = 0 then k22 x4 x5 (x6 + 1) else if jj_i (8 + x6) 351 then if x5 ≤ (μ 61 (8 + x6).toNatClampNeg) then k22 x4 x5 (x6 + 1) else if jj_i (8 + x6) 351 then k22 (x6 - x6 / 8 * 8) (μ 61 (8 + x6).toNatClampNeg) (x6 + 1) else none else none
set_option maxRecDepth 100000 in
theorem t_mdf_net_B72 {g : jj_G} (d : Nat) {N : Nat} {k6 : Int32 → Int32 → Int32 → Option (Int32 × jj_M)} {k22 : Int32 → Int32 → Int32 → Option (Int32 × jj_M)} {x1 : Int32} {x2 : Int32} {x3 : Int32} {x4 : Int32} {x5 : Int32} {x6 : Int32} {sx0 : Int32} {μ : jj_M}  {r : Int32} {μ' : jj_M} {X : jj_X}   (hF : jj_F g (some .int) (some (.int r)) μ' X) (hk6 : ∀ (x1 : Int32) (x2 : Int32) (x3 : Int32), k6 x1 x2 x3 = some (r, μ') → jj_V g X RX8 cX8_net 8 (d + 1) 6 [(0, .ref (jj_ad g 60)), (1, .int x1), (2, .int x2), (3, .int x3)] [] μ) (hk22 : ∀ (x4 : Int32) (x5 : Int32) (x6 : Int32), k22 x4 x5 x6 = some (r, μ') → jj_V g X RX8 cX8_net 8 (d + 1) 22 [(0, .ref (jj_ad g 60)), (1, .int x1), (2, .int x2), (3, .int x3), (4, .int x4), (5, .int x5), (6, .int x6)] [] μ) (h : mdf_net_B72 N k6 k22 x1 x2 x3 x4 x5 x6 sx0 μ = some (r, μ')) : jj_V g X RX8 cX8_net 8 (d + 1) 72 [(0, .ref (jj_ad g 60)), (1, .int x1), (2, .int x2), (3, .int x3), (4, .int x4), (5, .int x5), (6, .int x6)] [.int sx0] μ := by
  unfold mdf_net_B72 at h
  refine jj_istore [(7, .int sx0), (0, .ref (jj_ad g 60)), (1, .int x1), (2, .int x2), (3, .int x3), (4, .int x4), (5, .int x5), (6, .int x6)] dX8_net_72 (by decide) rfl ?_
  refine jj_iload dX8_net_74 0 rfl ?_
  refine jj_if_eq 113 dX8_net_76 (by decide) (fun c1 => ?_) (fun c1 => ?_)
  · replace h := (if_pos c1).symm.trans h
    refine jj_iinc (x6 + 1) [(6, .int (x6 + 1)), (7, .int sx0), (0, .ref (jj_ad g 60)), (1, .int x1), (2, .int x2), (3, .int x3), (4, .int x4), (5, .int x5)] dX8_net_113 7 rfl rfl (by decide) rfl ?_
    refine jj_goto 22 dX8_net_116 (by decide) ?_
    refine jj_sub [2, 3, 4, 5, 6, 7, 0] rfl ?_
    exact hk22 _ _ _ h
  · replace h := (if_neg c1).symm.trans h
    refine jj_aload_n dX8_net_79 1 rfl ?_
    refine jg_8_0 (k := 60) rfl lk_8_7 dX8_net_80 ?_
    show jj_V g X _ _ _ _ _ _ (.ref (jj_ad g 61) :: _) _
    refine jj_bipush (8) dX8_net_83 rfl ?_
    refine jj_iload dX8_net_85 7 rfl ?_
    refine jj_iadd dX8_net_87 ?_
    obtain ⟨g2, h⟩ := jj_ge h
    refine jj_iaload (k := 61) (n := 351) rfl g2 dX8_net_88 ?_
    refine jj_iload dX8_net_89 6 rfl ?_
    refine jj_icmp_ge 113 dX8_net_91 (by decide) (fun c3 => ?_) (fun c3 => ?_)
    · replace h := (if_pos c3).symm.trans h
      refine jj_iinc (x6 + 1) [(6, .int (x6 + 1)), (7, .int sx0), (0, .ref (jj_ad g 60)), (1, .int x1), (2, .int x2), (3, .int x3), (4, .int x4), (5, .int x5)] dX8_net_113 7 rfl rfl (by decide) rfl ?_
      refine jj_goto 22 dX8_net_116 (by decide) ?_
      refine jj_sub [2, 3, 4, 5, 6, 7, 0] rfl ?_
      exact hk22 _ _ _ h
    · replace h := (if_neg c3).symm.trans h
      refine jj_aload_n dX8_net_94 1 rfl ?_
      refine jg_8_0 (k := 60) rfl lk_8_7 dX8_net_95 ?_
      show jj_V g X _ _ _ _ _ _ (.ref (jj_ad g 61) :: _) _
      refine jj_bipush (8) dX8_net_98 rfl ?_
      refine jj_iload dX8_net_100 7 rfl ?_
      refine jj_iadd dX8_net_102 ?_
      obtain ⟨g4, h⟩ := jj_ge h
      refine jj_iaload (k := 61) (n := 351) rfl g4 dX8_net_103 ?_
      refine jj_istore [(5, .int (μ 61 (8 + x6).toNatClampNeg)), (7, .int sx0), (0, .ref (jj_ad g 60)), (1, .int x1), (2, .int x2), (3, .int x3), (4, .int x4), (6, .int x6)] dX8_net_104 (by decide) rfl ?_
      refine jj_iload dX8_net_106 7 rfl ?_
      refine jj_bipush (8) dX8_net_108 rfl ?_
      refine jj_irem dX8_net_110 (by decide) ?_
      refine jj_istore [(4, .int (x6 - x6 / 8 * 8)), (5, .int (μ 61 (8 + x6).toNatClampNeg)), (7, .int sx0), (0, .ref (jj_ad g 60)), (1, .int x1), (2, .int x2), (3, .int x3), (6, .int x6)] dX8_net_111 (by decide) rfl ?_
      refine jj_iinc (x6 + 1) [(6, .int (x6 + 1)), (4, .int (x6 - x6 / 8 * 8)), (5, .int (μ 61 (8 + x6).toNatClampNeg)), (7, .int sx0), (0, .ref (jj_ad g 60)), (1, .int x1), (2, .int x2), (3, .int x3)] dX8_net_113 7 rfl rfl (by decide) rfl ?_
      refine jj_goto 22 dX8_net_116 (by decide) ?_
      refine jj_sub [4, 5, 6, 7, 1, 2, 0] rfl ?_
      exact hk22 _ _ _ h
def mdf_net_L22 (N : Nat) (k6 : Int32 → Int32 → Int32 → Option (Int32 × jj_M)) (x1 : Int32) (x2 : Int32) (x3 : Int32) (μ : jj_M) : Nat → Int32 → Int32 → Int32 → Option (Int32 × jj_M)
  | 0, _, _, _ => none
  | n + 1, x4, x5, x6 => if 64 ≤ x6 then if 0 ≤ x4 then k6 (x1 ||| (1 <<< (x4 &&& 31))) (x2 + x5) (x3 + 1) else (mdf_errs (-1000000002) μ).bind fun q3 => some ((q3.1, q3.2)) else if ((x1 >>> ((x6 / 8) &&& 31)) &&& 1) = 1 then if ((x1 >>> ((x6 - x6 / 8 * 8) &&& 31)) &&& 1) = 0 then if jj_i (8 + x6) 351 then if (μ 61 (8 + x6).toNatClampNeg) ≤ 0 then mdf_net_B72 N k6 (mdf_net_L22 N k6 x1 x2 x3 μ n) x1 x2 x3 x4 x5 x6 0 μ else mdf_net_B72 N k6 (mdf_net_L22 N k6 x1 x2 x3 μ n) x1 x2 x3 x4 x5 x6 1 μ else none else mdf_net_B72 N k6 (mdf_net_L22 N k6 x1 x2 x3 μ n) x1 x2 x3 x4 x5 x6 0 μ else mdf_net_B72 N k6 (mdf_net_L22 N k6 x1 x2 x3 μ n) x1 x2 x3 x4 x5 x6 0 μ
set_option maxRecDepth 100000 in
theorem t_mdf_net_L22 {g : jj_G} (d : Nat) {N : Nat} {k6 : Int32 → Int32 → Int32 → Option (Int32 × jj_M)} {x1 : Int32} {x2 : Int32} {x3 : Int32} {μ : jj_M}  {r : Int32} {μ' : jj_M} {X : jj_X}   (hF : jj_F g (some .int) (some (.int r)) μ' X) (hk6 : ∀ (x1 : Int32) (x2 : Int32) (x3 : Int32), k6 x1 x2 x3 = some (r, μ') → jj_V g X RX8 cX8_net 8 (d + 1) 6 [(0, .ref (jj_ad g 60)), (1, .int x1), (2, .int x2), (3, .int x3)] [] μ) : ∀ (n : Nat) (x4 : Int32) (x5 : Int32) (x6 : Int32), mdf_net_L22 N k6 x1 x2 x3 μ n x4 x5 x6 = some (r, μ') → jj_V g X RX8 cX8_net 8 (d + 1) 22 [(0, .ref (jj_ad g 60)), (1, .int x1), (2, .int x2), (3, .int x3), (4, .int x4), (5, .int x5), (6, .int x6)] [] μ := by
  intro n
  induction n with
  | zero =>
    intro x4 x5 x6 h
    exact (jj_no h).elim
  | succ n ih =>
    intro x4 x5 x6 h
    rw [mdf_net_L22] at h
    refine jj_iload dX8_net_22 6 rfl ?_
    refine jj_bipush (64) dX8_net_24 rfl ?_
    refine jj_icmp_ge 119 dX8_net_26 (by decide) (fun c1 => ?_) (fun c1 => ?_)
    · replace h := (if_pos c1).symm.trans h
      refine jj_iload dX8_net_119 4 rfl ?_
      refine jj_if_ge 131 dX8_net_121 (by decide) (fun c2 => ?_) (fun c2 => ?_)
      · replace h := (if_pos c2).symm.trans h
        refine jj_iload_n dX8_net_131 1 rfl ?_
        refine jj_iconst (1) dX8_net_132 rfl ?_
        refine jj_iload dX8_net_133 4 rfl ?_
        refine jj_ishl dX8_net_135 ?_
        refine jj_ior dX8_net_136 ?_
        refine jj_istore_n [(1, .int (x1 ||| (1 <<< (x4 &&& 31)))), (0, .ref (jj_ad g 60)), (2, .int x2), (3, .int x3), (4, .int x4), (5, .int x5), (6, .int x6)] dX8_net_137 (by decide) rfl ?_
        refine jj_iload_n dX8_net_138 2 rfl ?_
        refine jj_iload dX8_net_139 5 rfl ?_
        refine jj_iadd dX8_net_141 ?_
        refine jj_istore_n [(2, .int (x2 + x5)), (1, .int (x1 ||| (1 <<< (x4 &&& 31)))), (0, .ref (jj_ad g 60)), (3, .int x3), (4, .int x4), (5, .int x5), (6, .int x6)] dX8_net_142 (by decide) rfl ?_
        refine jj_iinc (x3 + 1) [(3, .int (x3 + 1)), (2, .int (x2 + x5)), (1, .int (x1 ||| (1 <<< (x4 &&& 31)))), (0, .ref (jj_ad g 60)), (4, .int x4), (5, .int x5), (6, .int x6)] dX8_net_143 3 rfl rfl (by decide) rfl ?_
        refine jj_goto 6 dX8_net_146 (by decide) ?_
        refine jj_sub [3, 2, 1, 0] rfl ?_
        exact hk6 _ _ _ h
      · replace h := (if_neg c2).symm.trans h
        refine jj_aload_n dX8_net_124 0 rfl ?_
        refine jj_ldc (-1000000002) lk_8_249 dX8_net_125 ?_
        obtain ⟨q3, e3, h⟩ := jj_be h
        refine jj_callVi [.int (-1000000002)] [] (c_mdf_errs (d + 0)  e3) jm_mdf_errs lk_8_68 (b := 60) rfl (by decide) (jj_E8 rfl) rfl rfl rfl (by omega) rfl (Nat.le_of_ble_eq_true rfl) dX8_net_127 ?_
        exact jj_iret2 hF dX8_net_130 (Option.some.inj h)
    · replace h := (if_neg c1).symm.trans h
      refine jj_iload_n dX8_net_29 1 rfl ?_
      refine jj_iload dX8_net_30 6 rfl ?_
      refine jj_bipush (8) dX8_net_32 rfl ?_
      refine jj_idiv dX8_net_34 (by decide) ?_
      refine jj_ishr dX8_net_35 ?_
      refine jj_iconst (1) dX8_net_36 rfl ?_
      refine jj_iand dX8_net_37 ?_
      refine jj_iconst (1) dX8_net_38 rfl ?_
      refine jj_icmp_ne 71 dX8_net_39 (by decide) (fun c4 => ?_) (fun c4 => ?_)
      · replace h := (if_neg c4).symm.trans h
        refine jj_iconst (0) dX8_net_71 rfl ?_
        refine jj_sub [0, 1, 2, 3, 4, 5, 6] rfl ?_
        exact t_mdf_net_B72 d   hF hk6 ih h
      · replace h := (if_pos c4).symm.trans h
        refine jj_iload_n dX8_net_42 1 rfl ?_
        refine jj_iload dX8_net_43 6 rfl ?_
        refine jj_bipush (8) dX8_net_45 rfl ?_
        refine jj_irem dX8_net_47 (by decide) ?_
        refine jj_ishr dX8_net_48 ?_
        refine jj_iconst (1) dX8_net_49 rfl ?_
        refine jj_iand dX8_net_50 ?_
        refine jj_if_ne 71 dX8_net_51 (by decide) (fun c5 => ?_) (fun c5 => ?_)
        · replace h := (if_neg c5).symm.trans h
          refine jj_iconst (0) dX8_net_71 rfl ?_
          refine jj_sub [0, 1, 2, 3, 4, 5, 6] rfl ?_
          exact t_mdf_net_B72 d   hF hk6 ih h
        · replace h := (if_pos c5).symm.trans h
          refine jj_aload_n dX8_net_54 0 rfl ?_
          refine jg_8_0 (k := 60) rfl lk_8_7 dX8_net_55 ?_
          show jj_V g X _ _ _ _ _ _ (.ref (jj_ad g 61) :: _) _
          refine jj_bipush (8) dX8_net_58 rfl ?_
          refine jj_iload dX8_net_60 6 rfl ?_
          refine jj_iadd dX8_net_62 ?_
          obtain ⟨g6, h⟩ := jj_ge h
          refine jj_iaload (k := 61) (n := 351) rfl g6 dX8_net_63 ?_
          refine jj_if_le 71 dX8_net_64 (by decide) (fun c7 => ?_) (fun c7 => ?_)
          · replace h := (if_pos c7).symm.trans h
            refine jj_iconst (0) dX8_net_71 rfl ?_
            refine jj_sub [0, 1, 2, 3, 4, 5, 6] rfl ?_
            exact t_mdf_net_B72 d   hF hk6 ih h
          · replace h := (if_neg c7).symm.trans h
            refine jj_iconst (1) dX8_net_67 rfl ?_
            refine jj_goto 72 dX8_net_68 (by decide) ?_
            refine jj_sub [0, 1, 2, 3, 4, 5, 6] rfl ?_
            exact t_mdf_net_B72 d   hF hk6 ih h
def mdf_net_L6 (N : Nat)  (μ : jj_M) : Nat → Int32 → Int32 → Int32 → Option (Int32 × jj_M)
  | 0, _, _, _ => none
  | n + 1, x1, x2, x3 => if 8 ≤ x3 then some ((x2, μ)) else mdf_net_L22 N (mdf_net_L6 N μ n) x1 x2 x3 μ N (-1) 1000000 0
set_option maxRecDepth 100000 in
theorem t_mdf_net_L6 {g : jj_G} (d : Nat) {N : Nat}  {μ : jj_M}  {r : Int32} {μ' : jj_M} {X : jj_X}   (hF : jj_F g (some .int) (some (.int r)) μ' X)  : ∀ (n : Nat) (x1 : Int32) (x2 : Int32) (x3 : Int32), mdf_net_L6 N μ n x1 x2 x3 = some (r, μ') → jj_V g X RX8 cX8_net 8 (d + 1) 6 [(0, .ref (jj_ad g 60)), (1, .int x1), (2, .int x2), (3, .int x3)] [] μ := by
  intro n
  induction n with
  | zero =>
    intro x1 x2 x3 h
    exact (jj_no h).elim
  | succ n ih =>
    intro x1 x2 x3 h
    rw [mdf_net_L6] at h
    refine jj_iload_n dX8_net_6 3 rfl ?_
    refine jj_bipush (8) dX8_net_7 rfl ?_
    refine jj_icmp_ge 149 dX8_net_9 (by decide) (fun c1 => ?_) (fun c1 => ?_)
    · replace h := (if_pos c1).symm.trans h
      refine jj_iload_n dX8_net_149 2 rfl ?_
      exact jj_iret2 hF dX8_net_150 (Option.some.inj h)
    · replace h := (if_neg c1).symm.trans h
      refine jj_iconst (-1) dX8_net_12 rfl ?_
      refine jj_istore [(4, .int (-1)), (0, .ref (jj_ad g 60)), (1, .int x1), (2, .int x2), (3, .int x3)] dX8_net_13 (by decide) rfl ?_
      refine jj_ldc (1000000) lk_8_227 dX8_net_15 ?_
      refine jj_istore [(5, .int 1000000), (4, .int (-1)), (0, .ref (jj_ad g 60)), (1, .int x1), (2, .int x2), (3, .int x3)] dX8_net_17 (by decide) rfl ?_
      refine jj_iconst (0) dX8_net_19 rfl ?_
      refine jj_istore [(6, .int 0), (5, .int 1000000), (4, .int (-1)), (0, .ref (jj_ad g 60)), (1, .int x1), (2, .int x2), (3, .int x3)] dX8_net_20 (by decide) rfl ?_
      refine jj_sub [3, 4, 5, 6, 2, 1, 0] rfl ?_
      exact t_mdf_net_L22 d   hF ih _ _ _ _ h
def mdf_net (N : Nat)  (μ : jj_M) : Option (Int32 × jj_M) := mdf_net_L6 N μ N 1 0 1
set_option maxRecDepth 100000 in
theorem c_mdf_net {g : jj_G} (d : Nat) {N : Nat}  {μ : jj_M} {r : Int32} {μ' : jj_M}   (h : mdf_net N μ = some (r, μ')) : jj_N g yX8_net cX8_net 8 (some .int) (d + 1) [.ref (jj_ad g 60)] μ (some (.int r)) μ' := by
  refine jj_N_of jn_8 (Nat.le_of_ble_eq_true rfl) (fun X hF => ?_)
  unfold mdf_net at h
  refine jj_sub (own := RX8) (lv2 := [(0, .ref (jj_ad g 60))]) [0] rfl ?_
  refine jj_iconst (1) dX8_net_0 rfl ?_
  refine jj_istore_n [(1, .int 1), (0, .ref (jj_ad g 60))] dX8_net_1 (by decide) rfl ?_
  refine jj_iconst (0) dX8_net_2 rfl ?_
  refine jj_istore_n [(2, .int 0), (1, .int 1), (0, .ref (jj_ad g 60))] dX8_net_3 (by decide) rfl ?_
  refine jj_iconst (1) dX8_net_4 rfl ?_
  refine jj_istore_n [(3, .int 1), (2, .int 0), (1, .int 1), (0, .ref (jj_ad g 60))] dX8_net_5 (by decide) rfl ?_
  refine jj_sub [3, 2, 1, 0] rfl ?_
  exact t_mdf_net_L6 d   hF  _ _ _ _ h
def mdf_shortest_L63 (N : Nat) (k54 : Int32 → jj_M → Option (Int32 × jj_M)) (x2 : Int32) (x3 : Int32) : Nat → Int32 → jj_M → Option (Int32 × jj_M)
  | 0, _, _ => none
  | n + 1, x4, μ => if 64 ≤ x4 then k54 (x3 + 1) μ else if jj_i (x4 / 8) 296 then if jj_i (8 + x4) 351 then if jj_i (8 + x4) 351 then if (μ 61 (8 + x4).toNatClampNeg) ≤ 0 then if jj_i (x4 - x4 / 8 * 8) 296 then if jj_i (x4 - x4 / 8 * 8) 296 then (some (jj_u μ 65 (x4 - x4 / 8 * 8).toNatClampNeg (μ 65 (x4 - x4 / 8 * 8).toNatClampNeg))).bind fun m8 => mdf_shortest_L63 N k54 x2 x3 n (x4 + 1) m8 else none else none else if jj_i (x4 - x4 / 8 * 8) 296 then if (μ 65 (x4 - x4 / 8 * 8).toNatClampNeg) ≤ ((μ 65 (x4 / 8).toNatClampNeg) + (μ 61 (8 + x4).toNatClampNeg)) then if jj_i (x4 - x4 / 8 * 8) 296 then if jj_i (x4 - x4 / 8 * 8) 296 then (some (jj_u μ 65 (x4 - x4 / 8 * 8).toNatClampNeg (μ 65 (x4 - x4 / 8 * 8).toNatClampNeg))).bind fun m13 => mdf_shortest_L63 N k54 x2 x3 n (x4 + 1) m13 else none else none else if jj_i (x4 - x4 / 8 * 8) 296 then (some (jj_u μ 65 (x4 - x4 / 8 * 8).toNatClampNeg ((μ 65 (x4 / 8).toNatClampNeg) + (μ 61 (8 + x4).toNatClampNeg)))).bind fun m15 => mdf_shortest_L63 N k54 x2 x3 n (x4 + 1) m15 else none else none else none else none else none
set_option maxRecDepth 100000 in
theorem t_mdf_shortest_L63 {g : jj_G} (d : Nat) {N : Nat} {k54 : Int32 → jj_M → Option (Int32 × jj_M)} {x2 : Int32} {x3 : Int32}  {r : Int32} {μ' : jj_M} {X : jj_X}   (hF : jj_F g (some .int) (some (.int r)) μ' X) (hk54 : ∀ (x3 : Int32) (μ : jj_M), k54 x3 μ = some (r, μ') → jj_V g X RX8 cX8_shortest 6 (d + 2) 54 [(0, .ref (jj_ad g 60)), (2, .int x2), (3, .int x3)] [] μ) : ∀ (n : Nat) (x4 : Int32) (μ : jj_M), mdf_shortest_L63 N k54 x2 x3 n x4 μ = some (r, μ') → jj_V g X RX8 cX8_shortest 6 (d + 2) 63 [(0, .ref (jj_ad g 60)), (2, .int x2), (3, .int x3), (4, .int x4)] [] μ := by
  intro n
  induction n with
  | zero =>
    intro x4 μ h
    exact (jj_no h).elim
  | succ n ih =>
    intro x4 μ h
    rw [mdf_shortest_L63] at h
    refine jj_iload dX8_shortest_63 3 rfl ?_
    refine jj_bipush (64) dX8_shortest_65 rfl ?_
    refine jj_icmp_ge 152 dX8_shortest_67 (by decide) (fun c1 => ?_) (fun c1 => ?_)
    · replace h := (if_pos c1).symm.trans h
      refine jj_iinc (x3 + 1) [(3, .int (x3 + 1)), (0, .ref (jj_ad g 60)), (2, .int x2), (4, .int x4)] dX8_shortest_152 2 rfl rfl (by decide) rfl ?_
      refine jj_goto 54 dX8_shortest_155 (by decide) ?_
      refine jj_sub [1, 2, 0] rfl ?_
      exact hk54 _ _ h
    · replace h := (if_neg c1).symm.trans h
      refine jj_aload_n dX8_shortest_70 0 rfl ?_
      refine jg_8_14 (k := 60) rfl lk_8_22 dX8_shortest_71 ?_
      show jj_V g X _ _ _ _ _ _ (.ref (jj_ad g 65) :: _) _
      refine jj_iload dX8_shortest_74 3 rfl ?_
      refine jj_bipush (8) dX8_shortest_76 rfl ?_
      refine jj_idiv dX8_shortest_78 (by decide) ?_
      obtain ⟨g2, h⟩ := jj_ge h
      refine jj_iaload (k := 65) (n := 296) rfl g2 dX8_shortest_79 ?_
      refine jj_aload_n dX8_shortest_80 0 rfl ?_
      refine jg_8_0 (k := 60) rfl lk_8_7 dX8_shortest_81 ?_
      show jj_V g X _ _ _ _ _ _ (.ref (jj_ad g 61) :: _) _
      refine jj_bipush (8) dX8_shortest_84 rfl ?_
      refine jj_iload dX8_shortest_86 3 rfl ?_
      refine jj_iadd dX8_shortest_88 ?_
      obtain ⟨g3, h⟩ := jj_ge h
      refine jj_iaload (k := 61) (n := 351) rfl g3 dX8_shortest_89 ?_
      refine jj_iadd dX8_shortest_90 ?_
      refine jj_istore [(5, .int ((μ 65 (x4 / 8).toNatClampNeg) + (μ 61 (8 + x4).toNatClampNeg))), (0, .ref (jj_ad g 60)), (2, .int x2), (3, .int x3), (4, .int x4)] dX8_shortest_91 (by decide) rfl ?_
      refine jj_aload_n dX8_shortest_93 1 rfl ?_
      refine jg_8_14 (k := 60) rfl lk_8_22 dX8_shortest_94 ?_
      show jj_V g X _ _ _ _ _ _ (.ref (jj_ad g 65) :: _) _
      refine jj_iload dX8_shortest_97 4 rfl ?_
      refine jj_bipush (8) dX8_shortest_99 rfl ?_
      refine jj_irem dX8_shortest_101 (by decide) ?_
      refine jj_aload_n dX8_shortest_102 1 rfl ?_
      refine jg_8_0 (k := 60) rfl lk_8_7 dX8_shortest_103 ?_
      show jj_V g X _ _ _ _ _ _ (.ref (jj_ad g 61) :: _) _
      refine jj_bipush (8) dX8_shortest_106 rfl ?_
      refine jj_iload dX8_shortest_108 4 rfl ?_
      refine jj_iadd dX8_shortest_110 ?_
      obtain ⟨g4, h⟩ := jj_ge h
      refine jj_iaload (k := 61) (n := 351) rfl g4 dX8_shortest_111 ?_
      refine jj_if_le 135 dX8_shortest_112 (by decide) (fun c5 => ?_) (fun c5 => ?_)
      · replace h := (if_pos c5).symm.trans h
        refine jj_aload_n dX8_shortest_135 1 rfl ?_
        refine jg_8_14 (k := 60) rfl lk_8_22 dX8_shortest_136 ?_
        show jj_V g X _ _ _ _ _ _ (.ref (jj_ad g 65) :: _) _
        refine jj_iload dX8_shortest_139 4 rfl ?_
        refine jj_bipush (8) dX8_shortest_141 rfl ?_
        refine jj_irem dX8_shortest_143 (by decide) ?_
        obtain ⟨g6, h⟩ := jj_ge h
        refine jj_iaload (k := 65) (n := 296) rfl g6 dX8_shortest_144 ?_
        obtain ⟨g7, h⟩ := jj_ge h
        refine jj_iastore (k := 65) (n := 296) rfl g7 dX8_shortest_145 ?_
        obtain ⟨m8, em8, h⟩ := jj_be h
        refine jj_mu em8 ?_
        refine jj_iinc (x4 + 1) [(4, .int (x4 + 1)), (5, .int ((μ 65 (x4 / 8).toNatClampNeg) + (μ 61 (8 + x4).toNatClampNeg))), (0, .ref (jj_ad g 60)), (2, .int x2), (3, .int x3)] dX8_shortest_146 4 rfl rfl (by decide) rfl ?_
        refine jj_goto 63 dX8_shortest_149 (by decide) ?_
        refine jj_sub [2, 3, 4, 0] rfl ?_
        exact ih _ _ h
      · replace h := (if_neg c5).symm.trans h
        refine jj_iload dX8_shortest_115 0 rfl ?_
        refine jj_aload_n dX8_shortest_117 1 rfl ?_
        refine jg_8_14 (k := 60) rfl lk_8_22 dX8_shortest_118 ?_
        show jj_V g X _ _ _ _ _ _ (.ref (jj_ad g 65) :: _) _
        refine jj_iload dX8_shortest_121 4 rfl ?_
        refine jj_bipush (8) dX8_shortest_123 rfl ?_
        refine jj_irem dX8_shortest_125 (by decide) ?_
        obtain ⟨g9, h⟩ := jj_ge h
        refine jj_iaload (k := 65) (n := 296) rfl g9 dX8_shortest_126 ?_
        refine jj_icmp_ge 135 dX8_shortest_127 (by decide) (fun c10 => ?_) (fun c10 => ?_)
        · replace h := (if_pos c10).symm.trans h
          refine jj_aload_n dX8_shortest_135 1 rfl ?_
          refine jg_8_14 (k := 60) rfl lk_8_22 dX8_shortest_136 ?_
          show jj_V g X _ _ _ _ _ _ (.ref (jj_ad g 65) :: _) _
          refine jj_iload dX8_shortest_139 4 rfl ?_
          refine jj_bipush (8) dX8_shortest_141 rfl ?_
          refine jj_irem dX8_shortest_143 (by decide) ?_
          obtain ⟨g11, h⟩ := jj_ge h
          refine jj_iaload (k := 65) (n := 296) rfl g11 dX8_shortest_144 ?_
          obtain ⟨g12, h⟩ := jj_ge h
          refine jj_iastore (k := 65) (n := 296) rfl g12 dX8_shortest_145 ?_
          obtain ⟨m13, em13, h⟩ := jj_be h
          refine jj_mu em13 ?_
          refine jj_iinc (x4 + 1) [(4, .int (x4 + 1)), (5, .int ((μ 65 (x4 / 8).toNatClampNeg) + (μ 61 (8 + x4).toNatClampNeg))), (0, .ref (jj_ad g 60)), (2, .int x2), (3, .int x3)] dX8_shortest_146 4 rfl rfl (by decide) rfl ?_
          refine jj_goto 63 dX8_shortest_149 (by decide) ?_
          refine jj_sub [2, 3, 4, 0] rfl ?_
          exact ih _ _ h
        · replace h := (if_neg c10).symm.trans h
          refine jj_iload dX8_shortest_130 0 rfl ?_
          refine jj_goto 145 dX8_shortest_132 (by decide) ?_
          obtain ⟨g14, h⟩ := jj_ge h
          refine jj_iastore (k := 65) (n := 296) rfl g14 dX8_shortest_145 ?_
          obtain ⟨m15, em15, h⟩ := jj_be h
          refine jj_mu em15 ?_
          refine jj_iinc (x4 + 1) [(4, .int (x4 + 1)), (5, .int ((μ 65 (x4 / 8).toNatClampNeg) + (μ 61 (8 + x4).toNatClampNeg))), (0, .ref (jj_ad g 60)), (2, .int x2), (3, .int x3)] dX8_shortest_146 4 rfl rfl (by decide) rfl ?_
          refine jj_goto 63 dX8_shortest_149 (by decide) ?_
          refine jj_sub [2, 3, 4, 0] rfl ?_
          exact ih _ _ h
def mdf_shortest_L54 (N : Nat)  (x2 : Int32) : Nat → Int32 → jj_M → Option (Int32 × jj_M)
  | 0, _, _ => none
  | n + 1, x3, μ => if 8 ≤ x3 then if jj_i x2 296 then if 1000000 ≤ (μ 65 x2.toNatClampNeg) then (mdf_errs (-1000000002) μ).bind fun q4 => some ((q4.1, q4.2)) else if jj_i x2 296 then some ((μ 65 x2.toNatClampNeg, μ)) else none else none else mdf_shortest_L63 N (mdf_shortest_L54 N x2 n) x2 x3 N 0 μ
set_option maxRecDepth 100000 in
theorem t_mdf_shortest_L54 {g : jj_G} (d : Nat) {N : Nat}  {x2 : Int32}  {r : Int32} {μ' : jj_M} {X : jj_X}   (hF : jj_F g (some .int) (some (.int r)) μ' X)  : ∀ (n : Nat) (x3 : Int32) (μ : jj_M), mdf_shortest_L54 N x2 n x3 μ = some (r, μ') → jj_V g X RX8 cX8_shortest 6 (d + 2) 54 [(0, .ref (jj_ad g 60)), (2, .int x2), (3, .int x3)] [] μ := by
  intro n
  induction n with
  | zero =>
    intro x3 μ h
    exact (jj_no h).elim
  | succ n ih =>
    intro x3 μ h
    rw [mdf_shortest_L54] at h
    refine jj_iload_n dX8_shortest_54 2 rfl ?_
    refine jj_bipush (8) dX8_shortest_55 rfl ?_
    refine jj_icmp_ge 158 dX8_shortest_57 (by decide) (fun c1 => ?_) (fun c1 => ?_)
    · replace h := (if_pos c1).symm.trans h
      refine jj_aload_n dX8_shortest_158 0 rfl ?_
      refine jg_8_14 (k := 60) rfl lk_8_22 dX8_shortest_159 ?_
      show jj_V g X _ _ _ _ _ _ (.ref (jj_ad g 65) :: _) _
      refine jj_iload_n dX8_shortest_162 1 rfl ?_
      obtain ⟨g2, h⟩ := jj_ge h
      refine jj_iaload (k := 65) (n := 296) rfl g2 dX8_shortest_163 ?_
      refine jj_ldc (1000000) lk_8_227 dX8_shortest_164 ?_
      refine jj_icmp_ge 178 dX8_shortest_166 (by decide) (fun c3 => ?_) (fun c3 => ?_)
      · replace h := (if_pos c3).symm.trans h
        refine jj_aload_n dX8_shortest_178 0 rfl ?_
        refine jj_ldc (-1000000002) lk_8_249 dX8_shortest_179 ?_
        obtain ⟨q4, e4, h⟩ := jj_be h
        refine jj_callVi [.int (-1000000002)] [] (c_mdf_errs (d + 1)  e4) jm_mdf_errs lk_8_68 (b := 60) rfl (by decide) (jj_E8 rfl) rfl rfl rfl (by omega) rfl (Nat.le_of_ble_eq_true rfl) dX8_shortest_181 ?_
        exact jj_iret2 hF dX8_shortest_184 (Option.some.inj h)
      · replace h := (if_neg c3).symm.trans h
        refine jj_aload_n dX8_shortest_169 0 rfl ?_
        refine jg_8_14 (k := 60) rfl lk_8_22 dX8_shortest_170 ?_
        show jj_V g X _ _ _ _ _ _ (.ref (jj_ad g 65) :: _) _
        refine jj_iload_n dX8_shortest_173 1 rfl ?_
        obtain ⟨g5, h⟩ := jj_ge h
        refine jj_iaload (k := 65) (n := 296) rfl g5 dX8_shortest_174 ?_
        refine jj_goto 184 dX8_shortest_175 (by decide) ?_
        exact jj_iret2 hF dX8_shortest_184 (Option.some.inj h)
    · replace h := (if_neg c1).symm.trans h
      refine jj_iconst (0) dX8_shortest_60 rfl ?_
      refine jj_istore [(4, .int 0), (0, .ref (jj_ad g 60)), (2, .int x2), (3, .int x3)] dX8_shortest_61 (by decide) rfl ?_
      refine jj_sub [1, 2, 3, 0] rfl ?_
      exact t_mdf_shortest_L63 d   hF ih _ _ _ h
def mdf_shortest_L23 (N : Nat)  (x1 : Int32) (x2 : Int32) : Nat → Int32 → jj_M → Option (Int32 × jj_M)
  | 0, _, _ => none
  | n + 1, x3, μ => if 8 ≤ x3 then mdf_shortest_L54 N x2 N 0 μ else if x3 = x1 then if jj_i x3 296 then mdf_shortest_L23 N x1 x2 n (x3 + 1) (jj_u μ 65 x3.toNatClampNeg 0) else none else if jj_i x3 296 then mdf_shortest_L23 N x1 x2 n (x3 + 1) (jj_u μ 65 x3.toNatClampNeg 1000000) else none
set_option maxRecDepth 100000 in
theorem t_mdf_shortest_L23 {g : jj_G} (d : Nat) {N : Nat}  {x1 : Int32} {x2 : Int32}  {r : Int32} {μ' : jj_M} {X : jj_X}   (hF : jj_F g (some .int) (some (.int r)) μ' X)  : ∀ (n : Nat) (x3 : Int32) (μ : jj_M), mdf_shortest_L23 N x1 x2 n x3 μ = some (r, μ') → jj_V g X RX8 cX8_shortest 6 (d + 2) 23 [(0, .ref (jj_ad g 60)), (1, .int x1), (2, .int x2), (3, .int x3)] [] μ := by
  intro n
  induction n with
  | zero =>
    intro x3 μ h
    exact (jj_no h).elim
  | succ n ih =>
    intro x3 μ h
    rw [mdf_shortest_L23] at h
    refine jj_iload_n dX8_shortest_23 3 rfl ?_
    refine jj_bipush (8) dX8_shortest_24 rfl ?_
    refine jj_icmp_ge 52 dX8_shortest_26 (by decide) (fun c1 => ?_) (fun c1 => ?_)
    · replace h := (if_pos c1).symm.trans h
      refine jj_iconst (0) dX8_shortest_52 rfl ?_
      refine jj_istore_n [(3, .int 0), (0, .ref (jj_ad g 60)), (1, .int x1), (2, .int x2)] dX8_shortest_53 (by decide) rfl ?_
      refine jj_sub [1, 3, 0] rfl ?_
      exact t_mdf_shortest_L54 d   hF  _ _ _ h
    · replace h := (if_neg c1).symm.trans h
      refine jj_aload_n dX8_shortest_29 0 rfl ?_
      refine jg_8_14 (k := 60) rfl lk_8_22 dX8_shortest_30 ?_
      show jj_V g X _ _ _ _ _ _ (.ref (jj_ad g 65) :: _) _
      refine jj_iload_n dX8_shortest_33 3 rfl ?_
      refine jj_iload_n dX8_shortest_34 3 rfl ?_
      refine jj_iload_n dX8_shortest_35 1 rfl ?_
      refine jj_icmp_ne 43 dX8_shortest_36 (by decide) (fun c2 => ?_) (fun c2 => ?_)
      · replace h := (if_neg c2).symm.trans h
        refine jj_ldc (1000000) lk_8_227 dX8_shortest_43 ?_
        obtain ⟨g3, h⟩ := jj_ge h
        refine jj_iastore (k := 65) (n := 296) rfl g3 dX8_shortest_45 ?_
        refine jj_iinc (x3 + 1) [(3, .int (x3 + 1)), (0, .ref (jj_ad g 60)), (1, .int x1), (2, .int x2)] dX8_shortest_46 3 rfl rfl (by decide) rfl ?_
        refine jj_goto 23 dX8_shortest_49 (by decide) ?_
        refine jj_sub [1, 2, 3, 0] rfl ?_
        exact ih _ _ h
      · replace h := (if_pos c2).symm.trans h
        refine jj_iconst (0) dX8_shortest_39 rfl ?_
        refine jj_goto 45 dX8_shortest_40 (by decide) ?_
        obtain ⟨g4, h⟩ := jj_ge h
        refine jj_iastore (k := 65) (n := 296) rfl g4 dX8_shortest_45 ?_
        refine jj_iinc (x3 + 1) [(3, .int (x3 + 1)), (0, .ref (jj_ad g 60)), (1, .int x1), (2, .int x2)] dX8_shortest_46 3 rfl rfl (by decide) rfl ?_
        refine jj_goto 23 dX8_shortest_49 (by decide) ?_
        refine jj_sub [1, 2, 3, 0] rfl ?_
        exact ih _ _ h
def mdf_shortest (N : Nat) (x1 : Int32) (x2 : Int32) (μ : jj_M) : Option (Int32 × jj_M) := if (mdf_isWell x1) = 0 then (mdf_errs (-1000000001) μ).bind fun q2 => some ((q2.1, q2.2)) else if (mdf_isWell x2) = 0 then (mdf_errs (-1000000001) μ).bind fun q4 => some ((q4.1, q4.2)) else mdf_shortest_L23 N x1 x2 N 0 μ
set_option maxRecDepth 100000 in
theorem c_mdf_shortest {g : jj_G} (d : Nat) {N : Nat} {x1 : Int32} {x2 : Int32} {μ : jj_M} {r : Int32} {μ' : jj_M}   (h : mdf_shortest N x1 x2 μ = some (r, μ')) : jj_N g yX8_shortest cX8_shortest 6 (some .int) (d + 2) [.ref (jj_ad g 60), .int x1, .int x2] μ (some (.int r)) μ' := by
  refine jj_N_of jn_8 (Nat.le_of_ble_eq_true rfl) (fun X hF => ?_)
  unfold mdf_shortest at h
  refine jj_sub (own := RX8) (lv2 := [(0, .ref (jj_ad g 60)), (1, .int x1), (2, .int x2)]) [0, 1, 2] rfl ?_
  refine jj_iload_n dX8_shortest_0 1 rfl ?_
  refine jj_callSi [.int x1] [] (c_mdf_isWell (d + 0)  rfl) jm_mdf_isWell lk_8_58 rfl (by omega) rfl (Nat.le_of_ble_eq_true rfl) dX8_shortest_1 ?_
  refine jj_if_eq 14 dX8_shortest_4 (by decide) (fun c1 => ?_) (fun c1 => ?_)
  · replace h := (if_pos c1).symm.trans h
    refine jj_aload_n dX8_shortest_14 0 rfl ?_
    refine jj_ldc (-1000000001) lk_8_67 dX8_shortest_15 ?_
    obtain ⟨q2, e2, h⟩ := jj_be h
    refine jj_callVi [.int (-1000000001)] [] (c_mdf_errs (d + 1)  e2) jm_mdf_errs lk_8_68 (b := 60) rfl (by decide) (jj_E8 rfl) rfl rfl rfl (by omega) rfl (Nat.le_of_ble_eq_true rfl) dX8_shortest_17 ?_
    exact jj_iret2 hF dX8_shortest_20 (Option.some.inj h)
  · replace h := (if_neg c1).symm.trans h
    refine jj_iload_n dX8_shortest_7 2 rfl ?_
    refine jj_callSi [.int x2] [] (c_mdf_isWell (d + 0)  rfl) jm_mdf_isWell lk_8_58 rfl (by omega) rfl (Nat.le_of_ble_eq_true rfl) dX8_shortest_8 ?_
    refine jj_if_ne 21 dX8_shortest_11 (by decide) (fun c3 => ?_) (fun c3 => ?_)
    · replace h := (if_neg c3).symm.trans h
      refine jj_iconst (0) dX8_shortest_21 rfl ?_
      refine jj_istore_n [(3, .int 0), (0, .ref (jj_ad g 60)), (1, .int x1), (2, .int x2)] dX8_shortest_22 (by decide) rfl ?_
      refine jj_sub [1, 2, 3, 0] rfl ?_
      exact t_mdf_shortest_L23 d   hF  _ _ _ h
    · replace h := (if_pos c3).symm.trans h
      refine jj_aload_n dX8_shortest_14 0 rfl ?_
      refine jj_ldc (-1000000001) lk_8_67 dX8_shortest_15 ?_
      obtain ⟨q4, e4, h⟩ := jj_be h
      refine jj_callVi [.int (-1000000001)] [] (c_mdf_errs (d + 1)  e4) jm_mdf_errs lk_8_68 (b := 60) rfl (by decide) (jj_E8 rfl) rfl rfl rfl (by omega) rfl (Nat.le_of_ble_eq_true rfl) dX8_shortest_17 ?_
      exact jj_iret2 hF dX8_shortest_20 (Option.some.inj h)
def mdf_isWalk_B75 (N : Nat) (k26 : Int32 → Int32 → Option (Int32)) (x1 : Int32) (x3 : Int32) (x4 : Int32) (sx0 : Int32) (μ : jj_M) : Option (Int32) := if (mdf_isWell x4) = 0 then k26 0 (x3 + 1) else if x4 = sx0 then k26 1 (x3 + 1) else (mdf_roadOf sx0 x4 μ).bind fun q3 => if q3 ≤ 0 then k26 0 (x3 + 1) else k26 1 (x3 + 1)
set_option maxRecDepth 100000 in
theorem t_mdf_isWalk_B75 {g : jj_G} (d : Nat) {N : Nat} {k26 : Int32 → Int32 → Option (Int32)} {x1 : Int32} {x3 : Int32} {x4 : Int32} {sx0 : Int32} {μ : jj_M}  {r : Int32} {X : jj_X}   (hF : jj_F g (some .boolean) (some (.int r)) μ X) (hk26 : ∀ (x2 : Int32) (x3 : Int32), k26 x2 x3 = some r → jj_V g X RX8 cX8_isWalk 6 (d + 2) 26 [(0, .ref (jj_ad g 60)), (1, .int x1), (2, .int x2), (3, .int x3)] [] μ) (h : mdf_isWalk_B75 N k26 x1 x3 x4 sx0 μ = some r) : jj_V g X RX8 cX8_isWalk 6 (d + 2) 75 [(0, .ref (jj_ad g 60)), (1, .int x1), (3, .int x3), (4, .int x4)] [.int sx0] μ := by
  unfold mdf_isWalk_B75 at h
  refine jj_istore [(5, .int sx0), (0, .ref (jj_ad g 60)), (1, .int x1), (3, .int x3), (4, .int x4)] dX8_isWalk_75 (by decide) rfl ?_
  refine jj_iload dX8_isWalk_77 4 rfl ?_
  refine jj_callSi [.int x4] [] (c_mdf_isWell (d + 0)  rfl) jm_mdf_isWell lk_8_58 rfl (by omega) rfl (Nat.le_of_ble_eq_true rfl) dX8_isWalk_79 ?_
  refine jj_if_eq 107 dX8_isWalk_82 (by decide) (fun c1 => ?_) (fun c1 => ?_)
  · replace h := (if_pos c1).symm.trans h
    refine jj_iconst (0) dX8_isWalk_107 rfl ?_
    refine jj_istore_n [(2, .int 0), (5, .int sx0), (0, .ref (jj_ad g 60)), (1, .int x1), (3, .int x3), (4, .int x4)] dX8_isWalk_108 (by decide) rfl ?_
    refine jj_iinc (x3 + 1) [(3, .int (x3 + 1)), (2, .int 0), (5, .int sx0), (0, .ref (jj_ad g 60)), (1, .int x1), (4, .int x4)] dX8_isWalk_109 4 rfl rfl (by decide) rfl ?_
    refine jj_goto 26 dX8_isWalk_112 (by decide) ?_
    refine jj_sub [3, 4, 1, 0] rfl ?_
    exact hk26 _ _ h
  · replace h := (if_neg c1).symm.trans h
    refine jj_iload dX8_isWalk_85 4 rfl ?_
    refine jj_iload dX8_isWalk_87 0 rfl ?_
    refine jj_icmp_eq 103 dX8_isWalk_89 (by decide) (fun c2 => ?_) (fun c2 => ?_)
    · replace h := (if_pos c2).symm.trans h
      refine jj_iconst (1) dX8_isWalk_103 rfl ?_
      refine jj_goto 108 dX8_isWalk_104 (by decide) ?_
      refine jj_istore_n [(2, .int 1), (5, .int sx0), (0, .ref (jj_ad g 60)), (1, .int x1), (3, .int x3), (4, .int x4)] dX8_isWalk_108 (by decide) rfl ?_
      refine jj_iinc (x3 + 1) [(3, .int (x3 + 1)), (2, .int 1), (5, .int sx0), (0, .ref (jj_ad g 60)), (1, .int x1), (4, .int x4)] dX8_isWalk_109 4 rfl rfl (by decide) rfl ?_
      refine jj_goto 26 dX8_isWalk_112 (by decide) ?_
      refine jj_sub [3, 4, 1, 0] rfl ?_
      exact hk26 _ _ h
    · replace h := (if_neg c2).symm.trans h
      refine jj_aload_n dX8_isWalk_92 1 rfl ?_
      refine jj_iload dX8_isWalk_93 0 rfl ?_
      refine jj_iload dX8_isWalk_95 4 rfl ?_
      obtain ⟨q3, e3, h⟩ := jj_be h
      refine jj_callVi [.int sx0, .int x4] [] (c_mdf_roadOf (d + 1)  e3) jm_mdf_roadOf lk_8_76 (b := 60) rfl (by decide) (jj_E8 rfl) rfl rfl rfl (by omega) rfl (Nat.le_of_ble_eq_true rfl) dX8_isWalk_97 ?_
      refine jj_if_le 107 dX8_isWalk_100 (by decide) (fun c4 => ?_) (fun c4 => ?_)
      · replace h := (if_pos c4).symm.trans h
        refine jj_iconst (0) dX8_isWalk_107 rfl ?_
        refine jj_istore_n [(2, .int 0), (5, .int sx0), (0, .ref (jj_ad g 60)), (1, .int x1), (3, .int x3), (4, .int x4)] dX8_isWalk_108 (by decide) rfl ?_
        refine jj_iinc (x3 + 1) [(3, .int (x3 + 1)), (2, .int 0), (5, .int sx0), (0, .ref (jj_ad g 60)), (1, .int x1), (4, .int x4)] dX8_isWalk_109 4 rfl rfl (by decide) rfl ?_
        refine jj_goto 26 dX8_isWalk_112 (by decide) ?_
        refine jj_sub [3, 4, 1, 0] rfl ?_
        exact hk26 _ _ h
      · replace h := (if_neg c4).symm.trans h
        refine jj_iconst (1) dX8_isWalk_103 rfl ?_
        refine jj_goto 108 dX8_isWalk_104 (by decide) ?_
        refine jj_istore_n [(2, .int 1), (5, .int sx0), (0, .ref (jj_ad g 60)), (1, .int x1), (3, .int x3), (4, .int x4)] dX8_isWalk_108 (by decide) rfl ?_
        refine jj_iinc (x3 + 1) [(3, .int (x3 + 1)), (2, .int 1), (5, .int sx0), (0, .ref (jj_ad g 60)), (1, .int x1), (4, .int x4)] dX8_isWalk_109 4 rfl rfl (by decide) rfl ?_
        refine jj_goto 26 dX8_isWalk_112 (by decide) ?_
        refine jj_sub [3, 4, 1, 0] rfl ?_
        exact hk26 _ _ h
def mdf_isWalk_L26 (N : Nat)  (x1 : Int32) (μ : jj_M) : Nat → Int32 → Int32 → Option (Int32)
  | 0, _, _ => none
  | n + 1, x2, x3 => if jj_i x1 4 then if (μ 69 x1.toNatClampNeg) ≤ x3 then if x2 = 0 ∨ x2 = 1 then some x2 else none else if x2 = 0 then if x2 = 0 ∨ x2 = 1 then some x2 else none else if jj_i ((40 * x1) + x3) 160 then if x3 = 0 then mdf_isWalk_B75 N (mdf_isWalk_L26 N x1 μ n) x1 x3 (μ 70 ((40 * x1) + x3).toNatClampNeg) (μ 70 ((40 * x1) + x3).toNatClampNeg) μ else if jj_i (((40 * x1) + x3) - 1) 160 then mdf_isWalk_B75 N (mdf_isWalk_L26 N x1 μ n) x1 x3 (μ 70 ((40 * x1) + x3).toNatClampNeg) (μ 70 (((40 * x1) + x3) - 1).toNatClampNeg) μ else none else none else none
set_option maxRecDepth 100000 in
theorem t_mdf_isWalk_L26 {g : jj_G} (d : Nat) {N : Nat}  {x1 : Int32} {μ : jj_M}  {r : Int32} {X : jj_X}   (hF : jj_F g (some .boolean) (some (.int r)) μ X)  : ∀ (n : Nat) (x2 : Int32) (x3 : Int32), mdf_isWalk_L26 N x1 μ n x2 x3 = some r → jj_V g X RX8 cX8_isWalk 6 (d + 2) 26 [(0, .ref (jj_ad g 60)), (1, .int x1), (2, .int x2), (3, .int x3)] [] μ := by
  intro n
  induction n with
  | zero =>
    intro x2 x3 h
    exact (jj_no h).elim
  | succ n ih =>
    intro x2 x3 h
    rw [mdf_isWalk_L26] at h
    refine jj_iload_n dX8_isWalk_26 3 rfl ?_
    refine jj_aload_n dX8_isWalk_27 0 rfl ?_
    refine jg_8_22 (k := 60) rfl lk_8_34 dX8_isWalk_28 ?_
    show jj_V g X _ _ _ _ _ _ (.ref (jj_ad g 69) :: _) _
    refine jj_iload_n dX8_isWalk_31 1 rfl ?_
    obtain ⟨g1, h⟩ := jj_ge h
    refine jj_iaload (k := 69) (n := 4) rfl g1 dX8_isWalk_32 ?_
    refine jj_icmp_ge 115 dX8_isWalk_33 (by decide) (fun c2 => ?_) (fun c2 => ?_)
    · replace h := (if_pos c2).symm.trans h
      refine jj_iload_n dX8_isWalk_115 2 rfl ?_
      obtain ⟨g3, h⟩ := jj_ge h
      exact jj_zret1 hF dX8_isWalk_116 g3 (Option.some.inj h)
    · replace h := (if_neg c2).symm.trans h
      refine jj_iload_n dX8_isWalk_36 2 rfl ?_
      refine jj_if_eq 115 dX8_isWalk_37 (by decide) (fun c4 => ?_) (fun c4 => ?_)
      · replace h := (if_pos c4).symm.trans h
        refine jj_iload_n dX8_isWalk_115 2 rfl ?_
        obtain ⟨g5, h⟩ := jj_ge h
        exact jj_zret1 hF dX8_isWalk_116 g5 (Option.some.inj h)
      · replace h := (if_neg c4).symm.trans h
        refine jj_aload_n dX8_isWalk_40 0 rfl ?_
        refine jg_8_23 (k := 60) rfl lk_8_37 dX8_isWalk_41 ?_
        show jj_V g X _ _ _ _ _ _ (.ref (jj_ad g 70) :: _) _
        refine jj_bipush (40) dX8_isWalk_44 rfl ?_
        refine jj_iload_n dX8_isWalk_46 1 rfl ?_
        refine jj_imul dX8_isWalk_47 ?_
        refine jj_iload_n dX8_isWalk_48 3 rfl ?_
        refine jj_iadd dX8_isWalk_49 ?_
        obtain ⟨g6, h⟩ := jj_ge h
        refine jj_iaload (k := 70) (n := 160) rfl g6 dX8_isWalk_50 ?_
        refine jj_istore [(4, .int (μ 70 ((40 * x1) + x3).toNatClampNeg)), (0, .ref (jj_ad g 60)), (1, .int x1), (2, .int x2), (3, .int x3)] dX8_isWalk_51 (by decide) rfl ?_
        refine jj_iload_n dX8_isWalk_53 4 rfl ?_
        refine jj_if_ne 62 dX8_isWalk_54 (by decide) (fun c7 => ?_) (fun c7 => ?_)
        · replace h := (if_neg c7).symm.trans h
          refine jj_aload_n dX8_isWalk_62 1 rfl ?_
          refine jg_8_23 (k := 60) rfl lk_8_37 dX8_isWalk_63 ?_
          show jj_V g X _ _ _ _ _ _ (.ref (jj_ad g 70) :: _) _
          refine jj_bipush (40) dX8_isWalk_66 rfl ?_
          refine jj_iload_n dX8_isWalk_68 2 rfl ?_
          refine jj_imul dX8_isWalk_69 ?_
          refine jj_iload_n dX8_isWalk_70 4 rfl ?_
          refine jj_iadd dX8_isWalk_71 ?_
          refine jj_iconst (1) dX8_isWalk_72 rfl ?_
          refine jj_isub dX8_isWalk_73 ?_
          obtain ⟨g8, h⟩ := jj_ge h
          refine jj_iaload (k := 70) (n := 160) rfl g8 dX8_isWalk_74 ?_
          refine jj_sub [1, 2, 4, 0] rfl ?_
          exact t_mdf_isWalk_B75 d   hF ih h
        · replace h := (if_pos c7).symm.trans h
          refine jj_iload dX8_isWalk_57 0 rfl ?_
          refine jj_goto 75 dX8_isWalk_59 (by decide) ?_
          refine jj_sub [1, 2, 4, 0] rfl ?_
          exact t_mdf_isWalk_B75 d   hF ih h
def mdf_isWalk (N : Nat) (x1 : Int32) (μ : jj_M) : Option (Int32) := if jj_i x1 4 then if (μ 68 x1.toNatClampNeg) ≤ 0 then mdf_isWalk_L26 N x1 μ N 0 0 else if jj_i x1 4 then if (μ 69 x1.toNatClampNeg) ≤ 0 then mdf_isWalk_L26 N x1 μ N 0 0 else mdf_isWalk_L26 N x1 μ N 1 0 else none else none
set_option maxRecDepth 100000 in
theorem c_mdf_isWalk {g : jj_G} (d : Nat) {N : Nat} {x1 : Int32} {μ : jj_M} {r : Int32}   (h : mdf_isWalk N x1 μ = some r) : jj_N g yX8_isWalk cX8_isWalk 6 (some .boolean) (d + 2) [.ref (jj_ad g 60), .int x1] μ (some (.int r)) μ := by
  refine jj_N_of jn_8 (Nat.le_of_ble_eq_true rfl) (fun X hF => ?_)
  unfold mdf_isWalk at h
  refine jj_sub (own := RX8) (lv2 := [(0, .ref (jj_ad g 60)), (1, .int x1)]) [0, 1] rfl ?_
  refine jj_aload_n dX8_isWalk_0 0 rfl ?_
  refine jg_8_21 (k := 60) rfl lk_8_31 dX8_isWalk_1 ?_
  show jj_V g X _ _ _ _ _ _ (.ref (jj_ad g 68) :: _) _
  refine jj_iload_n dX8_isWalk_4 1 rfl ?_
  obtain ⟨g1, h⟩ := jj_ge h
  refine jj_iaload (k := 68) (n := 4) rfl g1 dX8_isWalk_5 ?_
  refine jj_if_le 22 dX8_isWalk_6 (by decide) (fun c2 => ?_) (fun c2 => ?_)
  · replace h := (if_pos c2).symm.trans h
    refine jj_iconst (0) dX8_isWalk_22 rfl ?_
    refine jj_istore_n [(2, .int 0), (0, .ref (jj_ad g 60)), (1, .int x1)] dX8_isWalk_23 (by decide) rfl ?_
    refine jj_iconst (0) dX8_isWalk_24 rfl ?_
    refine jj_istore_n [(3, .int 0), (2, .int 0), (0, .ref (jj_ad g 60)), (1, .int x1)] dX8_isWalk_25 (by decide) rfl ?_
    refine jj_sub [2, 3, 1, 0] rfl ?_
    exact t_mdf_isWalk_L26 d   hF  _ _ _ h
  · replace h := (if_neg c2).symm.trans h
    refine jj_aload_n dX8_isWalk_9 0 rfl ?_
    refine jg_8_22 (k := 60) rfl lk_8_34 dX8_isWalk_10 ?_
    show jj_V g X _ _ _ _ _ _ (.ref (jj_ad g 69) :: _) _
    refine jj_iload_n dX8_isWalk_13 1 rfl ?_
    obtain ⟨g3, h⟩ := jj_ge h
    refine jj_iaload (k := 69) (n := 4) rfl g3 dX8_isWalk_14 ?_
    refine jj_if_le 22 dX8_isWalk_15 (by decide) (fun c4 => ?_) (fun c4 => ?_)
    · replace h := (if_pos c4).symm.trans h
      refine jj_iconst (0) dX8_isWalk_22 rfl ?_
      refine jj_istore_n [(2, .int 0), (0, .ref (jj_ad g 60)), (1, .int x1)] dX8_isWalk_23 (by decide) rfl ?_
      refine jj_iconst (0) dX8_isWalk_24 rfl ?_
      refine jj_istore_n [(3, .int 0), (2, .int 0), (0, .ref (jj_ad g 60)), (1, .int x1)] dX8_isWalk_25 (by decide) rfl ?_
      refine jj_sub [2, 3, 1, 0] rfl ?_
      exact t_mdf_isWalk_L26 d   hF  _ _ _ h
    · replace h := (if_neg c4).symm.trans h
      refine jj_iconst (1) dX8_isWalk_18 rfl ?_
      refine jj_goto 23 dX8_isWalk_19 (by decide) ?_
      refine jj_istore_n [(2, .int 1), (0, .ref (jj_ad g 60)), (1, .int x1)] dX8_isWalk_23 (by decide) rfl ?_
      refine jj_iconst (0) dX8_isWalk_24 rfl ?_
      refine jj_istore_n [(3, .int 0), (2, .int 1), (0, .ref (jj_ad g 60)), (1, .int x1)] dX8_isWalk_25 (by decide) rfl ?_
      refine jj_sub [2, 3, 1, 0] rfl ?_
      exact t_mdf_isWalk_L26 d   hF  _ _ _ h
def mdf_isSheet  (x0 : Int32)  : Int32 := mdf_in (Int32.toInt64 x0) 0 3
theorem z_mdf_isSheet (x0 : Int32)  : mdf_isSheet x0 = 0 ∨ mdf_isSheet x0 = 1 := by
  unfold mdf_isSheet
  first | (first | exact Or.inl rfl | exact Or.inr rfl | apply z_mdf_in) | ((repeat' split) <;> first | exact Or.inl rfl | exact Or.inr rfl | apply z_mdf_in)
set_option maxRecDepth 100000 in
theorem c_mdf_isSheet {g : jj_G} (d : Nat)  {x0 : Int32} {μ : jj_M} {r : Int32}   (h : mdf_isSheet x0 = r) : jj_N g yX8_isSheet cX8_isSheet 1 (some .boolean) (d + 1) [.int x0] μ (some (.int r)) μ := by
  refine jj_N_of jn_8 (Nat.le_of_ble_eq_true rfl) (fun X hF => ?_)
  unfold mdf_isSheet at h
  refine jj_sub (own := RX8) (lv2 := [(0, .int x0)]) [0] rfl ?_
  refine jj_iload_n dX8_isSheet_0 0 rfl ?_
  refine jj_i2l dX8_isSheet_1 ?_
  refine jj_lconst (0) dX8_isSheet_2 rfl ?_
  refine jj_ldc2_w (3) lk_8_307 dX8_isSheet_3 ?_
  refine jj_callSi [.long (Int32.toInt64 x0), .long 0, .long 3] [] (c_mdf_in (d + 0)  rfl) jm_mdf_in lk_8_46 rfl (by omega) rfl (Nat.le_of_ble_eq_true rfl) dX8_isSheet_6 ?_
  exact jj_zret1 hF dX8_isSheet_9 (z_mdf_in _ _ _) h
def mdf_walked_L33 (N : Nat)  (x1 : Int32) (μ : jj_M) : Nat → Int32 → Int32 → Option (Int32 × jj_M)
  | 0, _, _ => none
  | n + 1, x2, x3 => if jj_i x1 4 then if (μ 69 x1.toNatClampNeg) ≤ x3 then some ((x2, μ)) else if jj_i (((40 * x1) + x3) - 1) 160 then if jj_i ((40 * x1) + x3) 160 then (mdf_roadOf (μ 70 (((40 * x1) + x3) - 1).toNatClampNeg) (μ 70 ((40 * x1) + x3).toNatClampNeg) μ).bind fun q5 => mdf_walked_L33 N x1 μ n (x2 + q5) (x3 + 1) else none else none else none
set_option maxRecDepth 100000 in
theorem t_mdf_walked_L33 {g : jj_G} (d : Nat) {N : Nat}  {x1 : Int32} {μ : jj_M}  {r : Int32} {μ' : jj_M} {X : jj_X}   (hF : jj_F g (some .int) (some (.int r)) μ' X)  : ∀ (n : Nat) (x2 : Int32) (x3 : Int32), mdf_walked_L33 N x1 μ n x2 x3 = some (r, μ') → jj_V g X RX8 cX8_walked 4 (d + 3) 33 [(0, .ref (jj_ad g 60)), (1, .int x1), (2, .int x2), (3, .int x3)] [] μ := by
  intro n
  induction n with
  | zero =>
    intro x2 x3 h
    exact (jj_no h).elim
  | succ n ih =>
    intro x2 x3 h
    rw [mdf_walked_L33] at h
    refine jj_iload_n dX8_walked_33 3 rfl ?_
    refine jj_aload_n dX8_walked_34 0 rfl ?_
    refine jg_8_22 (k := 60) rfl lk_8_34 dX8_walked_35 ?_
    show jj_V g X _ _ _ _ _ _ (.ref (jj_ad g 69) :: _) _
    refine jj_iload_n dX8_walked_38 1 rfl ?_
    obtain ⟨g1, h⟩ := jj_ge h
    refine jj_iaload (k := 69) (n := 4) rfl g1 dX8_walked_39 ?_
    refine jj_icmp_ge 80 dX8_walked_40 (by decide) (fun c2 => ?_) (fun c2 => ?_)
    · replace h := (if_pos c2).symm.trans h
      refine jj_iload_n dX8_walked_80 2 rfl ?_
      exact jj_iret2 hF dX8_walked_81 (Option.some.inj h)
    · replace h := (if_neg c2).symm.trans h
      refine jj_iload_n dX8_walked_43 2 rfl ?_
      refine jj_aload_n dX8_walked_44 0 rfl ?_
      refine jj_aload_n dX8_walked_45 0 rfl ?_
      refine jg_8_23 (k := 60) rfl lk_8_37 dX8_walked_46 ?_
      show jj_V g X _ _ _ _ _ _ (.ref (jj_ad g 70) :: _) _
      refine jj_bipush (40) dX8_walked_49 rfl ?_
      refine jj_iload_n dX8_walked_51 1 rfl ?_
      refine jj_imul dX8_walked_52 ?_
      refine jj_iload_n dX8_walked_53 3 rfl ?_
      refine jj_iadd dX8_walked_54 ?_
      refine jj_iconst (1) dX8_walked_55 rfl ?_
      refine jj_isub dX8_walked_56 ?_
      obtain ⟨g3, h⟩ := jj_ge h
      refine jj_iaload (k := 70) (n := 160) rfl g3 dX8_walked_57 ?_
      refine jj_aload_n dX8_walked_58 0 rfl ?_
      refine jg_8_23 (k := 60) rfl lk_8_37 dX8_walked_59 ?_
      show jj_V g X _ _ _ _ _ _ (.ref (jj_ad g 70) :: _) _
      refine jj_bipush (40) dX8_walked_62 rfl ?_
      refine jj_iload_n dX8_walked_64 1 rfl ?_
      refine jj_imul dX8_walked_65 ?_
      refine jj_iload_n dX8_walked_66 3 rfl ?_
      refine jj_iadd dX8_walked_67 ?_
      obtain ⟨g4, h⟩ := jj_ge h
      refine jj_iaload (k := 70) (n := 160) rfl g4 dX8_walked_68 ?_
      obtain ⟨q5, e5, h⟩ := jj_be h
      refine jj_callVi [.int (μ 70 (((40 * x1) + x3) - 1).toNatClampNeg), .int (μ 70 ((40 * x1) + x3).toNatClampNeg)] [.int x2] (c_mdf_roadOf (d + 2)  e5) jm_mdf_roadOf lk_8_76 (b := 60) rfl (by decide) (jj_E8 rfl) rfl rfl rfl (by omega) rfl (Nat.le_of_ble_eq_true rfl) dX8_walked_69 ?_
      refine jj_iadd dX8_walked_72 ?_
      refine jj_istore_n [(2, .int (x2 + q5)), (0, .ref (jj_ad g 60)), (1, .int x1), (3, .int x3)] dX8_walked_73 (by decide) rfl ?_
      refine jj_iinc (x3 + 1) [(3, .int (x3 + 1)), (2, .int (x2 + q5)), (0, .ref (jj_ad g 60)), (1, .int x1)] dX8_walked_74 3 rfl rfl (by decide) rfl ?_
      refine jj_goto 33 dX8_walked_77 (by decide) ?_
      refine jj_sub [2, 3, 1, 0] rfl ?_
      exact ih _ _ h
def mdf_walked (N : Nat) (x1 : Int32) (μ : jj_M) : Option (Int32 × jj_M) := if (mdf_isSheet x1) = 0 then (mdf_errs (-1000000001) μ).bind fun q5 => some ((q5.1, q5.2)) else (mdf_isWalk N x1 μ).bind fun q2 => if q2 = 0 then (mdf_errs (-1000000002) μ).bind fun q4 => some ((q4.1, q4.2)) else mdf_walked_L33 N x1 μ N 0 1
set_option maxRecDepth 100000 in
theorem c_mdf_walked {g : jj_G} (d : Nat) {N : Nat} {x1 : Int32} {μ : jj_M} {r : Int32} {μ' : jj_M}   (h : mdf_walked N x1 μ = some (r, μ')) : jj_N g yX8_walked cX8_walked 4 (some .int) (d + 3) [.ref (jj_ad g 60), .int x1] μ (some (.int r)) μ' := by
  refine jj_N_of jn_8 (Nat.le_of_ble_eq_true rfl) (fun X hF => ?_)
  unfold mdf_walked at h
  refine jj_sub (own := RX8) (lv2 := [(0, .ref (jj_ad g 60)), (1, .int x1)]) [0, 1] rfl ?_
  refine jj_iload_n dX8_walked_0 1 rfl ?_
  refine jj_callSi [.int x1] [] (c_mdf_isSheet (d + 1)  rfl) jm_mdf_isSheet lk_8_257 rfl (by omega) rfl (Nat.le_of_ble_eq_true rfl) dX8_walked_1 ?_
  refine jj_if_ne 14 dX8_walked_4 (by decide) (fun c1 => ?_) (fun c1 => ?_)
  · replace h := (if_neg c1).symm.trans h
    refine jj_aload_n dX8_walked_14 0 rfl ?_
    refine jj_iload_n dX8_walked_15 1 rfl ?_
    obtain ⟨q2, e2, h⟩ := jj_be h
    refine jj_callVi [.int x1] [] (c_mdf_isWalk (d + 0)  e2) jm_mdf_isWalk lk_8_260 (b := 60) rfl (by decide) (jj_E8 rfl) rfl rfl rfl (by omega) rfl (Nat.le_of_ble_eq_true rfl) dX8_walked_16 ?_
    refine jj_if_ne 29 dX8_walked_19 (by decide) (fun c3 => ?_) (fun c3 => ?_)
    · replace h := (if_neg c3).symm.trans h
      refine jj_iconst (0) dX8_walked_29 rfl ?_
      refine jj_istore_n [(2, .int 0), (0, .ref (jj_ad g 60)), (1, .int x1)] dX8_walked_30 (by decide) rfl ?_
      refine jj_iconst (1) dX8_walked_31 rfl ?_
      refine jj_istore_n [(3, .int 1), (2, .int 0), (0, .ref (jj_ad g 60)), (1, .int x1)] dX8_walked_32 (by decide) rfl ?_
      refine jj_sub [2, 3, 1, 0] rfl ?_
      exact t_mdf_walked_L33 d   hF  _ _ _ h
    · replace h := (if_pos c3).symm.trans h
      refine jj_aload_n dX8_walked_22 0 rfl ?_
      refine jj_ldc (-1000000002) lk_8_249 dX8_walked_23 ?_
      obtain ⟨q4, e4, h⟩ := jj_be h
      refine jj_callVi [.int (-1000000002)] [] (c_mdf_errs (d + 2)  e4) jm_mdf_errs lk_8_68 (b := 60) rfl (by decide) (jj_E8 rfl) rfl rfl rfl (by omega) rfl (Nat.le_of_ble_eq_true rfl) dX8_walked_25 ?_
      exact jj_iret2 hF dX8_walked_28 (Option.some.inj h)
  · replace h := (if_pos c1).symm.trans h
    refine jj_aload_n dX8_walked_7 0 rfl ?_
    refine jj_ldc (-1000000001) lk_8_67 dX8_walked_8 ?_
    obtain ⟨q5, e5, h⟩ := jj_be h
    refine jj_callVi [.int (-1000000001)] [] (c_mdf_errs (d + 2)  e5) jm_mdf_errs lk_8_68 (b := 60) rfl (by decide) (jj_E8 rfl) rfl rfl rfl (by omega) rfl (Nat.le_of_ble_eq_true rfl) dX8_walked_10 ?_
    exact jj_iret2 hF dX8_walked_13 (Option.some.inj h)
def mdf_alive_B141 (N : Nat) (k53 : Int32 → Int32 → Int32 → jj_M → Option (Int32 × jj_M)) (x1 : Int32) (x2 : Int32) (x3 : Int32) (x4 : Int32) (x6 : Int32) (x7 : Int32) (sx0 : Int32) (μ : jj_M) : Option (Int32 × jj_M) := if ((x3 >>> (x7 &&& 31)) &&& 1) = 1 then k53 0 sx0 (x6 + 1) μ else k53 x4 sx0 (x6 + 1) μ
set_option maxRecDepth 100000 in
theorem t_mdf_alive_B141 {g : jj_G} (d : Nat) {N : Nat} {k53 : Int32 → Int32 → Int32 → jj_M → Option (Int32 × jj_M)} {x1 : Int32} {x2 : Int32} {x3 : Int32} {x4 : Int32} {x6 : Int32} {x7 : Int32} {sx0 : Int32} {μ : jj_M}  {r : Int32} {μ' : jj_M} {X : jj_X}   (hF : jj_F g (some .int) (some (.int r)) μ' X) (hk53 : ∀ (x4 : Int32) (x5 : Int32) (x6 : Int32) (μ : jj_M), k53 x4 x5 x6 μ = some (r, μ') → jj_V g X RX8 cX8_alive 9 (d + 56) 53 [(0, .ref (jj_ad g 60)), (1, .int x1), (2, .int x2), (3, .int x3), (4, .int x4), (5, .int x5), (6, .int x6)] [] μ) (h : mdf_alive_B141 N k53 x1 x2 x3 x4 x6 x7 sx0 μ = some (r, μ')) : jj_V g X RX8 cX8_alive 9 (d + 56) 141 [(0, .ref (jj_ad g 60)), (1, .int x1), (2, .int x2), (3, .int x3), (4, .int x4), (6, .int x6), (7, .int x7)] [.int sx0] μ := by
  unfold mdf_alive_B141 at h
  refine jj_istore [(5, .int sx0), (0, .ref (jj_ad g 60)), (1, .int x1), (2, .int x2), (3, .int x3), (4, .int x4), (6, .int x6), (7, .int x7)] dX8_alive_141 (by decide) rfl ?_
  refine jj_iload_n dX8_alive_143 4 rfl ?_
  refine jj_iload dX8_alive_144 7 rfl ?_
  refine jj_ishr dX8_alive_146 ?_
  refine jj_iconst (1) dX8_alive_147 rfl ?_
  refine jj_iand dX8_alive_148 ?_
  refine jj_iconst (1) dX8_alive_149 rfl ?_
  refine jj_icmp_ne 157 dX8_alive_150 (by decide) (fun c1 => ?_) (fun c1 => ?_)
  · replace h := (if_neg c1).symm.trans h
    refine jj_iload dX8_alive_157 5 rfl ?_
    refine jj_istore [(4, .int x4), (5, .int sx0), (0, .ref (jj_ad g 60)), (1, .int x1), (2, .int x2), (3, .int x3), (6, .int x6), (7, .int x7)] dX8_alive_159 (by decide) rfl ?_
    refine jj_iinc (x6 + 1) [(6, .int (x6 + 1)), (4, .int x4), (5, .int sx0), (0, .ref (jj_ad g 60)), (1, .int x1), (2, .int x2), (3, .int x3), (7, .int x7)] dX8_alive_161 6 rfl rfl (by decide) rfl ?_
    refine jj_goto 53 dX8_alive_164 (by decide) ?_
    refine jj_sub [3, 4, 5, 6, 1, 2, 0] rfl ?_
    exact hk53 _ _ _ _ h
  · replace h := (if_pos c1).symm.trans h
    refine jj_iconst (0) dX8_alive_153 rfl ?_
    refine jj_goto 159 dX8_alive_154 (by decide) ?_
    refine jj_istore [(4, .int 0), (5, .int sx0), (0, .ref (jj_ad g 60)), (1, .int x1), (2, .int x2), (3, .int x3), (6, .int x6), (7, .int x7)] dX8_alive_159 (by decide) rfl ?_
    refine jj_iinc (x6 + 1) [(6, .int (x6 + 1)), (4, .int 0), (5, .int sx0), (0, .ref (jj_ad g 60)), (1, .int x1), (2, .int x2), (3, .int x3), (7, .int x7)] dX8_alive_161 6 rfl rfl (by decide) rfl ?_
    refine jj_goto 53 dX8_alive_164 (by decide) ?_
    refine jj_sub [3, 4, 5, 6, 1, 2, 0] rfl ?_
    exact hk53 _ _ _ _ h
def mdf_alive_L53 (N : Nat)  (x1 : Int32) (x2 : Int32) (x3 : Int32) : Nat → Int32 → Int32 → Int32 → jj_M → Option (Int32 × jj_M)
  | 0, _, _, _, _ => none
  | n + 1, x4, x5, x6, μ => if jj_i x1 4 then if (μ 69 x1.toNatClampNeg) ≤ x6 then if x5 = 0 then some ((0, μ)) else some ((1, μ)) else if x5 = 0 then if x5 = 0 then some ((0, μ)) else some ((1, μ)) else if jj_i ((40 * x1) + x6) 160 then if jj_i (((40 * x1) + x6) - 1) 160 then (mdf_roadOf (μ 70 (((40 * x1) + x6) - 1).toNatClampNeg) (μ 70 ((40 * x1) + x6).toNatClampNeg) μ).bind fun q8 => if q8 ≤ 0 then (mdf_limitOf x2 μ).bind fun q10 => if q10 < (x4 + 0) then mdf_alive_B141 N (mdf_alive_L53 N x1 x2 x3 n) x1 x2 x3 (x4 + 0) x6 (μ 70 ((40 * x1) + x6).toNatClampNeg) 0 μ else mdf_alive_B141 N (mdf_alive_L53 N x1 x2 x3 n) x1 x2 x3 (x4 + 0) x6 (μ 70 ((40 * x1) + x6).toNatClampNeg) 1 μ else (mdf_thirstBy N x2 q8 μ).bind fun q12 => (mdf_limitOf x2 q12.2).bind fun q13 => if q13 < (x4 + q12.1) then mdf_alive_B141 N (mdf_alive_L53 N x1 x2 x3 n) x1 x2 x3 (x4 + q12.1) x6 (μ 70 ((40 * x1) + x6).toNatClampNeg) 0 q12.2 else mdf_alive_B141 N (mdf_alive_L53 N x1 x2 x3 n) x1 x2 x3 (x4 + q12.1) x6 (μ 70 ((40 * x1) + x6).toNatClampNeg) 1 q12.2 else none else none else none
set_option maxRecDepth 100000 in
theorem t_mdf_alive_L53 {g : jj_G} (d : Nat) {N : Nat}  {x1 : Int32} {x2 : Int32} {x3 : Int32}  {r : Int32} {μ' : jj_M} {X : jj_X}   (hF : jj_F g (some .int) (some (.int r)) μ' X)  : ∀ (n : Nat) (x4 : Int32) (x5 : Int32) (x6 : Int32) (μ : jj_M), mdf_alive_L53 N x1 x2 x3 n x4 x5 x6 μ = some (r, μ') → jj_V g X RX8 cX8_alive 9 (d + 56) 53 [(0, .ref (jj_ad g 60)), (1, .int x1), (2, .int x2), (3, .int x3), (4, .int x4), (5, .int x5), (6, .int x6)] [] μ := by
  intro n
  induction n with
  | zero =>
    intro x4 x5 x6 μ h
    exact (jj_no h).elim
  | succ n ih =>
    intro x4 x5 x6 μ h
    rw [mdf_alive_L53] at h
    refine jj_iload dX8_alive_53 6 rfl ?_
    refine jj_aload_n dX8_alive_55 0 rfl ?_
    refine jg_8_22 (k := 60) rfl lk_8_34 dX8_alive_56 ?_
    show jj_V g X _ _ _ _ _ _ (.ref (jj_ad g 69) :: _) _
    refine jj_iload_n dX8_alive_59 1 rfl ?_
    obtain ⟨g1, h⟩ := jj_ge h
    refine jj_iaload (k := 69) (n := 4) rfl g1 dX8_alive_60 ?_
    refine jj_icmp_ge 167 dX8_alive_61 (by decide) (fun c2 => ?_) (fun c2 => ?_)
    · replace h := (if_pos c2).symm.trans h
      refine jj_iload dX8_alive_167 5 rfl ?_
      refine jj_if_eq 176 dX8_alive_169 (by decide) (fun c3 => ?_) (fun c3 => ?_)
      · replace h := (if_pos c3).symm.trans h
        refine jj_iconst (0) dX8_alive_176 rfl ?_
        exact jj_iret2 hF dX8_alive_177 (Option.some.inj h)
      · replace h := (if_neg c3).symm.trans h
        refine jj_iconst (1) dX8_alive_172 rfl ?_
        refine jj_goto 177 dX8_alive_173 (by decide) ?_
        exact jj_iret2 hF dX8_alive_177 (Option.some.inj h)
    · replace h := (if_neg c2).symm.trans h
      refine jj_iload dX8_alive_64 5 rfl ?_
      refine jj_if_eq 167 dX8_alive_66 (by decide) (fun c4 => ?_) (fun c4 => ?_)
      · replace h := (if_pos c4).symm.trans h
        refine jj_iload dX8_alive_167 5 rfl ?_
        refine jj_if_eq 176 dX8_alive_169 (by decide) (fun c5 => ?_) (fun c5 => ?_)
        · replace h := (if_pos c5).symm.trans h
          refine jj_iconst (0) dX8_alive_176 rfl ?_
          exact jj_iret2 hF dX8_alive_177 (Option.some.inj h)
        · replace h := (if_neg c5).symm.trans h
          refine jj_iconst (1) dX8_alive_172 rfl ?_
          refine jj_goto 177 dX8_alive_173 (by decide) ?_
          exact jj_iret2 hF dX8_alive_177 (Option.some.inj h)
      · replace h := (if_neg c4).symm.trans h
        refine jj_aload_n dX8_alive_69 0 rfl ?_
        refine jg_8_23 (k := 60) rfl lk_8_37 dX8_alive_70 ?_
        show jj_V g X _ _ _ _ _ _ (.ref (jj_ad g 70) :: _) _
        refine jj_bipush (40) dX8_alive_73 rfl ?_
        refine jj_iload_n dX8_alive_75 1 rfl ?_
        refine jj_imul dX8_alive_76 ?_
        refine jj_iload dX8_alive_77 6 rfl ?_
        refine jj_iadd dX8_alive_79 ?_
        obtain ⟨g6, h⟩ := jj_ge h
        refine jj_iaload (k := 70) (n := 160) rfl g6 dX8_alive_80 ?_
        refine jj_istore [(7, .int (μ 70 ((40 * x1) + x6).toNatClampNeg)), (0, .ref (jj_ad g 60)), (1, .int x1), (2, .int x2), (3, .int x3), (4, .int x4), (5, .int x5), (6, .int x6)] dX8_alive_81 (by decide) rfl ?_
        refine jj_aload_n dX8_alive_83 1 rfl ?_
        refine jj_aload_n dX8_alive_84 1 rfl ?_
        refine jg_8_23 (k := 60) rfl lk_8_37 dX8_alive_85 ?_
        show jj_V g X _ _ _ _ _ _ (.ref (jj_ad g 70) :: _) _
        refine jj_bipush (40) dX8_alive_88 rfl ?_
        refine jj_iload_n dX8_alive_90 2 rfl ?_
        refine jj_imul dX8_alive_91 ?_
        refine jj_iload dX8_alive_92 7 rfl ?_
        refine jj_iadd dX8_alive_94 ?_
        refine jj_iconst (1) dX8_alive_95 rfl ?_
        refine jj_isub dX8_alive_96 ?_
        obtain ⟨g7, h⟩ := jj_ge h
        refine jj_iaload (k := 70) (n := 160) rfl g7 dX8_alive_97 ?_
        refine jj_iload dX8_alive_98 0 rfl ?_
        obtain ⟨q8, e8, h⟩ := jj_be h
        refine jj_callVi [.int (μ 70 (((40 * x1) + x6) - 1).toNatClampNeg), .int (μ 70 ((40 * x1) + x6).toNatClampNeg)] [] (c_mdf_roadOf (d + 55)  e8) jm_mdf_roadOf lk_8_76 (b := 60) rfl (by decide) (jj_E8 rfl) rfl rfl rfl (by omega) rfl (Nat.le_of_ble_eq_true rfl) dX8_alive_100 ?_
        refine jj_istore [(8, .int q8), (7, .int (μ 70 ((40 * x1) + x6).toNatClampNeg)), (0, .ref (jj_ad g 60)), (1, .int x1), (2, .int x2), (3, .int x3), (4, .int x4), (5, .int x5), (6, .int x6)] dX8_alive_103 (by decide) rfl ?_
        refine jj_iload dX8_alive_105 6 rfl ?_
        refine jj_iload dX8_alive_107 0 rfl ?_
        refine jj_if_le 122 dX8_alive_109 (by decide) (fun c9 => ?_) (fun c9 => ?_)
        · replace h := (if_pos c9).symm.trans h
          refine jj_iconst (0) dX8_alive_122 rfl ?_
          refine jj_iadd dX8_alive_123 ?_
          refine jj_istore [(4, .int (x4 + 0)), (8, .int q8), (7, .int (μ 70 ((40 * x1) + x6).toNatClampNeg)), (0, .ref (jj_ad g 60)), (1, .int x1), (2, .int x2), (3, .int x3), (5, .int x5), (6, .int x6)] dX8_alive_124 (by decide) rfl ?_
          refine jj_iload dX8_alive_126 0 rfl ?_
          refine jj_aload_n dX8_alive_128 3 rfl ?_
          refine jj_iload_n dX8_alive_129 5 rfl ?_
          obtain ⟨q10, e10, h⟩ := jj_be h
          refine jj_callVi [.int x2] [.int (x4 + 0)] (c_mdf_limitOf (d + 53)  e10) jm_mdf_limitOf lk_8_108 (b := 60) rfl (by decide) (jj_E8 rfl) rfl rfl rfl (by omega) rfl (Nat.le_of_ble_eq_true rfl) dX8_alive_130 ?_
          refine jj_icmp_gt 140 dX8_alive_133 (by decide) (fun c11 => ?_) (fun c11 => ?_)
          · replace h := (if_pos c11).symm.trans h
            refine jj_iconst (0) dX8_alive_140 rfl ?_
            refine jj_sub [3, 4, 5, 6, 0, 8, 2] rfl ?_
            exact t_mdf_alive_B141 d   hF ih h
          · replace h := (if_neg c11).symm.trans h
            refine jj_iconst (1) dX8_alive_136 rfl ?_
            refine jj_goto 141 dX8_alive_137 (by decide) ?_
            refine jj_sub [3, 4, 5, 6, 0, 8, 2] rfl ?_
            exact t_mdf_alive_B141 d   hF ih h
        · replace h := (if_neg c9).symm.trans h
          refine jj_aload_n dX8_alive_112 2 rfl ?_
          refine jj_iload_n dX8_alive_113 4 rfl ?_
          refine jj_iload dX8_alive_114 0 rfl ?_
          obtain ⟨q12, e12, h⟩ := jj_be h
          refine jj_callVi [.int x2, .int q8] [.int x4] (c_mdf_thirstBy (d + 0)  e12) jm_mdf_thirstBy lk_8_204 (b := 60) rfl (by decide) (jj_E8 rfl) rfl rfl rfl (by omega) rfl (Nat.le_of_ble_eq_true rfl) dX8_alive_116 ?_
          refine jj_goto 123 dX8_alive_119 (by decide) ?_
          refine jj_iadd dX8_alive_123 ?_
          refine jj_istore [(4, .int (x4 + q12.1)), (8, .int q8), (7, .int (μ 70 ((40 * x1) + x6).toNatClampNeg)), (0, .ref (jj_ad g 60)), (1, .int x1), (2, .int x2), (3, .int x3), (5, .int x5), (6, .int x6)] dX8_alive_124 (by decide) rfl ?_
          refine jj_iload dX8_alive_126 0 rfl ?_
          refine jj_aload_n dX8_alive_128 3 rfl ?_
          refine jj_iload_n dX8_alive_129 5 rfl ?_
          obtain ⟨q13, e13, h⟩ := jj_be h
          refine jj_callVi [.int x2] [.int (x4 + q12.1)] (c_mdf_limitOf (d + 53)  e13) jm_mdf_limitOf lk_8_108 (b := 60) rfl (by decide) (jj_E8 rfl) rfl rfl rfl (by omega) rfl (Nat.le_of_ble_eq_true rfl) dX8_alive_130 ?_
          refine jj_icmp_gt 140 dX8_alive_133 (by decide) (fun c14 => ?_) (fun c14 => ?_)
          · replace h := (if_pos c14).symm.trans h
            refine jj_iconst (0) dX8_alive_140 rfl ?_
            refine jj_sub [3, 4, 5, 6, 0, 8, 2] rfl ?_
            exact t_mdf_alive_B141 d   hF ih h
          · replace h := (if_neg c14).symm.trans h
            refine jj_iconst (1) dX8_alive_136 rfl ?_
            refine jj_goto 141 dX8_alive_137 (by decide) ?_
            refine jj_sub [3, 4, 5, 6, 0, 8, 2] rfl ?_
            exact t_mdf_alive_B141 d   hF ih h
def mdf_alive (N : Nat) (x1 : Int32) (x2 : Int32) (x3 : Int32) (μ : jj_M) : Option (Int32 × jj_M) := if (mdf_isSheet x1) = 0 then (mdf_errs (-1000000001) μ).bind fun q2 => some ((q2.1, q2.2)) else if (mdf_isPerson x2 μ) = 0 then (mdf_errs (-1000000001) μ).bind fun q4 => some ((q4.1, q4.2)) else if (mdf_isSet x3) = 0 then (mdf_errs (-1000000001) μ).bind fun q9 => some ((q9.1, q9.2)) else (mdf_isWalk N x1 μ).bind fun q6 => if q6 = 0 then (mdf_errs (-1000000002) μ).bind fun q8 => some ((q8.1, q8.2)) else mdf_alive_L53 N x1 x2 x3 N 0 1 1 μ
set_option maxRecDepth 100000 in
theorem c_mdf_alive {g : jj_G} (d : Nat) {N : Nat} {x1 : Int32} {x2 : Int32} {x3 : Int32} {μ : jj_M} {r : Int32} {μ' : jj_M}   (h : mdf_alive N x1 x2 x3 μ = some (r, μ')) : jj_N g yX8_alive cX8_alive 9 (some .int) (d + 56) [.ref (jj_ad g 60), .int x1, .int x2, .int x3] μ (some (.int r)) μ' := by
  refine jj_N_of jn_8 (Nat.le_of_ble_eq_true rfl) (fun X hF => ?_)
  unfold mdf_alive at h
  refine jj_sub (own := RX8) (lv2 := [(0, .ref (jj_ad g 60)), (1, .int x1), (2, .int x2), (3, .int x3)]) [0, 1, 2, 3] rfl ?_
  refine jj_iload_n dX8_alive_0 1 rfl ?_
  refine jj_callSi [.int x1] [] (c_mdf_isSheet (d + 54)  rfl) jm_mdf_isSheet lk_8_257 rfl (by omega) rfl (Nat.le_of_ble_eq_true rfl) dX8_alive_1 ?_
  refine jj_if_eq 22 dX8_alive_4 (by decide) (fun c1 => ?_) (fun c1 => ?_)
  · replace h := (if_pos c1).symm.trans h
    refine jj_aload_n dX8_alive_22 0 rfl ?_
    refine jj_ldc (-1000000001) lk_8_67 dX8_alive_23 ?_
    obtain ⟨q2, e2, h⟩ := jj_be h
    refine jj_callVi [.int (-1000000001)] [] (c_mdf_errs (d + 55)  e2) jm_mdf_errs lk_8_68 (b := 60) rfl (by decide) (jj_E8 rfl) rfl rfl rfl (by omega) rfl (Nat.le_of_ble_eq_true rfl) dX8_alive_25 ?_
    exact jj_iret2 hF dX8_alive_28 (Option.some.inj h)
  · replace h := (if_neg c1).symm.trans h
    refine jj_aload_n dX8_alive_7 0 rfl ?_
    refine jj_iload_n dX8_alive_8 2 rfl ?_
    refine jj_callVi [.int x2] [] (c_mdf_isPerson (d + 54)  rfl) jm_mdf_isPerson lk_8_103 (b := 60) rfl (by decide) (jj_E8 rfl) rfl rfl rfl (by omega) rfl (Nat.le_of_ble_eq_true rfl) dX8_alive_9 ?_
    refine jj_if_eq 22 dX8_alive_12 (by decide) (fun c3 => ?_) (fun c3 => ?_)
    · replace h := (if_pos c3).symm.trans h
      refine jj_aload_n dX8_alive_22 0 rfl ?_
      refine jj_ldc (-1000000001) lk_8_67 dX8_alive_23 ?_
      obtain ⟨q4, e4, h⟩ := jj_be h
      refine jj_callVi [.int (-1000000001)] [] (c_mdf_errs (d + 55)  e4) jm_mdf_errs lk_8_68 (b := 60) rfl (by decide) (jj_E8 rfl) rfl rfl rfl (by omega) rfl (Nat.le_of_ble_eq_true rfl) dX8_alive_25 ?_
      exact jj_iret2 hF dX8_alive_28 (Option.some.inj h)
    · replace h := (if_neg c3).symm.trans h
      refine jj_iload_n dX8_alive_15 3 rfl ?_
      refine jj_callSi [.int x3] [] (c_mdf_isSet (d + 54)  rfl) jm_mdf_isSet lk_8_235 rfl (by omega) rfl (Nat.le_of_ble_eq_true rfl) dX8_alive_16 ?_
      refine jj_if_ne 29 dX8_alive_19 (by decide) (fun c5 => ?_) (fun c5 => ?_)
      · replace h := (if_neg c5).symm.trans h
        refine jj_aload_n dX8_alive_29 0 rfl ?_
        refine jj_iload_n dX8_alive_30 1 rfl ?_
        obtain ⟨q6, e6, h⟩ := jj_be h
        refine jj_callVi [.int x1] [] (c_mdf_isWalk (d + 53)  e6) jm_mdf_isWalk lk_8_260 (b := 60) rfl (by decide) (jj_E8 rfl) rfl rfl rfl (by omega) rfl (Nat.le_of_ble_eq_true rfl) dX8_alive_31 ?_
        refine jj_if_ne 44 dX8_alive_34 (by decide) (fun c7 => ?_) (fun c7 => ?_)
        · replace h := (if_neg c7).symm.trans h
          refine jj_iconst (0) dX8_alive_44 rfl ?_
          refine jj_istore [(4, .int 0), (0, .ref (jj_ad g 60)), (1, .int x1), (2, .int x2), (3, .int x3)] dX8_alive_45 (by decide) rfl ?_
          refine jj_iconst (1) dX8_alive_47 rfl ?_
          refine jj_istore [(5, .int 1), (4, .int 0), (0, .ref (jj_ad g 60)), (1, .int x1), (2, .int x2), (3, .int x3)] dX8_alive_48 (by decide) rfl ?_
          refine jj_iconst (1) dX8_alive_50 rfl ?_
          refine jj_istore [(6, .int 1), (5, .int 1), (4, .int 0), (0, .ref (jj_ad g 60)), (1, .int x1), (2, .int x2), (3, .int x3)] dX8_alive_51 (by decide) rfl ?_
          refine jj_sub [3, 4, 5, 6, 2, 1, 0] rfl ?_
          exact t_mdf_alive_L53 d   hF  _ _ _ _ _ h
        · replace h := (if_pos c7).symm.trans h
          refine jj_aload_n dX8_alive_37 0 rfl ?_
          refine jj_ldc (-1000000002) lk_8_249 dX8_alive_38 ?_
          obtain ⟨q8, e8, h⟩ := jj_be h
          refine jj_callVi [.int (-1000000002)] [] (c_mdf_errs (d + 55)  e8) jm_mdf_errs lk_8_68 (b := 60) rfl (by decide) (jj_E8 rfl) rfl rfl rfl (by omega) rfl (Nat.le_of_ble_eq_true rfl) dX8_alive_40 ?_
          exact jj_iret2 hF dX8_alive_43 (Option.some.inj h)
      · replace h := (if_pos c5).symm.trans h
        refine jj_aload_n dX8_alive_22 0 rfl ?_
        refine jj_ldc (-1000000001) lk_8_67 dX8_alive_23 ?_
        obtain ⟨q9, e9, h⟩ := jj_be h
        refine jj_callVi [.int (-1000000001)] [] (c_mdf_errs (d + 55)  e9) jm_mdf_errs lk_8_68 (b := 60) rfl (by decide) (jj_E8 rfl) rfl rfl rfl (by omega) rfl (Nat.le_of_ble_eq_true rfl) dX8_alive_25 ?_
        exact jj_iret2 hF dX8_alive_28 (Option.some.inj h)
def mdf_grown_L71 (N : Nat) (k44 : Int32 → Int32 → Option (Int32 × jj_M)) (x1 : Int32) (x2 : Int32) (x3 : Int32) (x4 : Int32) (x5 : Int32) (μ : jj_M) : Nat → Int32 → Int32 → Option (Int32 × jj_M)
  | 0, _, _ => none
  | n + 1, x6, x7 => if x2 ≤ x7 then k44 (x4 + x6) (x5 + 1) else mdf_grown_L71 N k44 x1 x2 x3 x4 x5 μ n (mdf_held (x6 + ((x6 * x3) / 100)) 0 9999) (x7 + 1)
set_option maxRecDepth 100000 in
theorem t_mdf_grown_L71 {g : jj_G} (d : Nat) {N : Nat} {k44 : Int32 → Int32 → Option (Int32 × jj_M)} {x1 : Int32} {x2 : Int32} {x3 : Int32} {x4 : Int32} {x5 : Int32} {μ : jj_M}  {r : Int32} {μ' : jj_M} {X : jj_X}   (hF : jj_F g (some .int) (some (.int r)) μ' X) (hk44 : ∀ (x4 : Int32) (x5 : Int32), k44 x4 x5 = some (r, μ') → jj_V g X RX8 cX8_grown 8 (d + 2) 44 [(0, .ref (jj_ad g 60)), (1, .int x1), (2, .int x2), (3, .int x3), (4, .int x4), (5, .int x5)] [] μ) : ∀ (n : Nat) (x6 : Int32) (x7 : Int32), mdf_grown_L71 N k44 x1 x2 x3 x4 x5 μ n x6 x7 = some (r, μ') → jj_V g X RX8 cX8_grown 8 (d + 2) 71 [(0, .ref (jj_ad g 60)), (1, .int x1), (2, .int x2), (3, .int x3), (4, .int x4), (5, .int x5), (6, .int x6), (7, .int x7)] [] μ := by
  intro n
  induction n with
  | zero =>
    intro x6 x7 h
    exact (jj_no h).elim
  | succ n ih =>
    intro x6 x7 h
    rw [mdf_grown_L71] at h
    refine jj_iload dX8_grown_71 7 rfl ?_
    refine jj_iload_n dX8_grown_73 2 rfl ?_
    refine jj_icmp_ge 102 dX8_grown_74 (by decide) (fun c1 => ?_) (fun c1 => ?_)
    · replace h := (if_pos c1).symm.trans h
      refine jj_iload dX8_grown_102 4 rfl ?_
      refine jj_iload dX8_grown_104 6 rfl ?_
      refine jj_iadd dX8_grown_106 ?_
      refine jj_istore [(4, .int (x4 + x6)), (0, .ref (jj_ad g 60)), (1, .int x1), (2, .int x2), (3, .int x3), (5, .int x5), (6, .int x6), (7, .int x7)] dX8_grown_107 (by decide) rfl ?_
      refine jj_iinc (x5 + 1) [(5, .int (x5 + 1)), (4, .int (x4 + x6)), (0, .ref (jj_ad g 60)), (1, .int x1), (2, .int x2), (3, .int x3), (6, .int x6), (7, .int x7)] dX8_grown_109 5 rfl rfl (by decide) rfl ?_
      refine jj_goto 44 dX8_grown_112 (by decide) ?_
      refine jj_sub [2, 3, 4, 5, 1, 0] rfl ?_
      exact hk44 _ _ h
    · replace h := (if_neg c1).symm.trans h
      refine jj_iload dX8_grown_77 6 rfl ?_
      refine jj_iload dX8_grown_79 6 rfl ?_
      refine jj_iload_n dX8_grown_81 3 rfl ?_
      refine jj_imul dX8_grown_82 ?_
      refine jj_bipush (100) dX8_grown_83 rfl ?_
      refine jj_idiv dX8_grown_85 (by decide) ?_
      refine jj_iadd dX8_grown_86 ?_
      refine jj_iconst (0) dX8_grown_87 rfl ?_
      refine jj_sipush (9999) dX8_grown_88 rfl ?_
      refine jj_callSi [.int (x6 + ((x6 * x3) / 100)), .int 0, .int 9999] [] (c_mdf_held (d + 1)  rfl) jm_mdf_held lk_8_193 rfl (by omega) rfl (Nat.le_of_ble_eq_true rfl) dX8_grown_91 ?_
      refine jj_istore [(6, .int (mdf_held (x6 + ((x6 * x3) / 100)) 0 9999)), (0, .ref (jj_ad g 60)), (1, .int x1), (2, .int x2), (3, .int x3), (4, .int x4), (5, .int x5), (7, .int x7)] dX8_grown_94 (by decide) rfl ?_
      refine jj_iinc (x7 + 1) [(7, .int (x7 + 1)), (6, .int (mdf_held (x6 + ((x6 * x3) / 100)) 0 9999)), (0, .ref (jj_ad g 60)), (1, .int x1), (2, .int x2), (3, .int x3), (4, .int x4), (5, .int x5)] dX8_grown_96 7 rfl rfl (by decide) rfl ?_
      refine jj_goto 71 dX8_grown_99 (by decide) ?_
      refine jj_sub [2, 3, 4, 5, 6, 7, 1, 0] rfl ?_
      exact ih _ _ h
def mdf_grown_L44 (N : Nat)  (x1 : Int32) (x2 : Int32) (x3 : Int32) (μ : jj_M) : Nat → Int32 → Int32 → Option (Int32 × jj_M)
  | 0, _, _ => none
  | n + 1, x4, x5 => if 8 ≤ x5 then some ((x4, μ)) else if jj_i ((72 + (8 * x1)) + x5) 351 then mdf_grown_L71 N (mdf_grown_L44 N x1 x2 x3 μ n) x1 x2 x3 x4 x5 μ N (μ 61 ((72 + (8 * x1)) + x5).toNatClampNeg) 0 else none
set_option maxRecDepth 100000 in
theorem t_mdf_grown_L44 {g : jj_G} (d : Nat) {N : Nat}  {x1 : Int32} {x2 : Int32} {x3 : Int32} {μ : jj_M}  {r : Int32} {μ' : jj_M} {X : jj_X}   (hF : jj_F g (some .int) (some (.int r)) μ' X)  : ∀ (n : Nat) (x4 : Int32) (x5 : Int32), mdf_grown_L44 N x1 x2 x3 μ n x4 x5 = some (r, μ') → jj_V g X RX8 cX8_grown 8 (d + 2) 44 [(0, .ref (jj_ad g 60)), (1, .int x1), (2, .int x2), (3, .int x3), (4, .int x4), (5, .int x5)] [] μ := by
  intro n
  induction n with
  | zero =>
    intro x4 x5 h
    exact (jj_no h).elim
  | succ n ih =>
    intro x4 x5 h
    rw [mdf_grown_L44] at h
    refine jj_iload dX8_grown_44 5 rfl ?_
    refine jj_bipush (8) dX8_grown_46 rfl ?_
    refine jj_icmp_ge 115 dX8_grown_48 (by decide) (fun c1 => ?_) (fun c1 => ?_)
    · replace h := (if_pos c1).symm.trans h
      refine jj_iload dX8_grown_115 4 rfl ?_
      exact jj_iret2 hF dX8_grown_117 (Option.some.inj h)
    · replace h := (if_neg c1).symm.trans h
      refine jj_aload_n dX8_grown_51 0 rfl ?_
      refine jg_8_0 (k := 60) rfl lk_8_7 dX8_grown_52 ?_
      show jj_V g X _ _ _ _ _ _ (.ref (jj_ad g 61) :: _) _
      refine jj_bipush (72) dX8_grown_55 rfl ?_
      refine jj_bipush (8) dX8_grown_57 rfl ?_
      refine jj_iload_n dX8_grown_59 1 rfl ?_
      refine jj_imul dX8_grown_60 ?_
      refine jj_iadd dX8_grown_61 ?_
      refine jj_iload dX8_grown_62 5 rfl ?_
      refine jj_iadd dX8_grown_64 ?_
      obtain ⟨g2, h⟩ := jj_ge h
      refine jj_iaload (k := 61) (n := 351) rfl g2 dX8_grown_65 ?_
      refine jj_istore [(6, .int (μ 61 ((72 + (8 * x1)) + x5).toNatClampNeg)), (0, .ref (jj_ad g 60)), (1, .int x1), (2, .int x2), (3, .int x3), (4, .int x4), (5, .int x5)] dX8_grown_66 (by decide) rfl ?_
      refine jj_iconst (0) dX8_grown_68 rfl ?_
      refine jj_istore [(7, .int 0), (6, .int (μ 61 ((72 + (8 * x1)) + x5).toNatClampNeg)), (0, .ref (jj_ad g 60)), (1, .int x1), (2, .int x2), (3, .int x3), (4, .int x4), (5, .int x5)] dX8_grown_69 (by decide) rfl ?_
      refine jj_sub [2, 3, 4, 5, 6, 7, 1, 0] rfl ?_
      exact t_mdf_grown_L71 d   hF ih _ _ _ h
def mdf_grown (N : Nat) (x1 : Int32) (x2 : Int32) (x3 : Int32) (μ : jj_M) : Option (Int32 × jj_M) := if (mdf_isWell x1) = 0 then (mdf_errs (-1000000001) μ).bind fun q2 => some ((q2.1, q2.2)) else if (mdf_in (Int32.toInt64 x2) 0 100) = 0 then (mdf_errs (-1000000001) μ).bind fun q4 => some ((q4.1, q4.2)) else if (mdf_in (Int32.toInt64 x3) 0 20) = 0 then (mdf_errs (-1000000001) μ).bind fun q6 => some ((q6.1, q6.2)) else mdf_grown_L44 N x1 x2 x3 μ N 0 0
set_option maxRecDepth 100000 in
theorem c_mdf_grown {g : jj_G} (d : Nat) {N : Nat} {x1 : Int32} {x2 : Int32} {x3 : Int32} {μ : jj_M} {r : Int32} {μ' : jj_M}   (h : mdf_grown N x1 x2 x3 μ = some (r, μ')) : jj_N g yX8_grown cX8_grown 8 (some .int) (d + 2) [.ref (jj_ad g 60), .int x1, .int x2, .int x3] μ (some (.int r)) μ' := by
  refine jj_N_of jn_8 (Nat.le_of_ble_eq_true rfl) (fun X hF => ?_)
  unfold mdf_grown at h
  refine jj_sub (own := RX8) (lv2 := [(0, .ref (jj_ad g 60)), (1, .int x1), (2, .int x2), (3, .int x3)]) [0, 1, 2, 3] rfl ?_
  refine jj_iload_n dX8_grown_0 1 rfl ?_
  refine jj_callSi [.int x1] [] (c_mdf_isWell (d + 0)  rfl) jm_mdf_isWell lk_8_58 rfl (by omega) rfl (Nat.le_of_ble_eq_true rfl) dX8_grown_1 ?_
  refine jj_if_eq 31 dX8_grown_4 (by decide) (fun c1 => ?_) (fun c1 => ?_)
  · replace h := (if_pos c1).symm.trans h
    refine jj_aload_n dX8_grown_31 0 rfl ?_
    refine jj_ldc (-1000000001) lk_8_67 dX8_grown_32 ?_
    obtain ⟨q2, e2, h⟩ := jj_be h
    refine jj_callVi [.int (-1000000001)] [] (c_mdf_errs (d + 1)  e2) jm_mdf_errs lk_8_68 (b := 60) rfl (by decide) (jj_E8 rfl) rfl rfl rfl (by omega) rfl (Nat.le_of_ble_eq_true rfl) dX8_grown_34 ?_
    exact jj_iret2 hF dX8_grown_37 (Option.some.inj h)
  · replace h := (if_neg c1).symm.trans h
    refine jj_iload_n dX8_grown_7 2 rfl ?_
    refine jj_i2l dX8_grown_8 ?_
    refine jj_lconst (0) dX8_grown_9 rfl ?_
    refine jj_ldc2_w (100) lk_8_263 dX8_grown_10 ?_
    refine jj_callSi [.long (Int32.toInt64 x2), .long 0, .long 100] [] (c_mdf_in (d + 1)  rfl) jm_mdf_in lk_8_46 rfl (by omega) rfl (Nat.le_of_ble_eq_true rfl) dX8_grown_13 ?_
    refine jj_if_eq 31 dX8_grown_16 (by decide) (fun c3 => ?_) (fun c3 => ?_)
    · replace h := (if_pos c3).symm.trans h
      refine jj_aload_n dX8_grown_31 0 rfl ?_
      refine jj_ldc (-1000000001) lk_8_67 dX8_grown_32 ?_
      obtain ⟨q4, e4, h⟩ := jj_be h
      refine jj_callVi [.int (-1000000001)] [] (c_mdf_errs (d + 1)  e4) jm_mdf_errs lk_8_68 (b := 60) rfl (by decide) (jj_E8 rfl) rfl rfl rfl (by omega) rfl (Nat.le_of_ble_eq_true rfl) dX8_grown_34 ?_
      exact jj_iret2 hF dX8_grown_37 (Option.some.inj h)
    · replace h := (if_neg c3).symm.trans h
      refine jj_iload_n dX8_grown_19 3 rfl ?_
      refine jj_i2l dX8_grown_20 ?_
      refine jj_lconst (0) dX8_grown_21 rfl ?_
      refine jj_ldc2_w (20) lk_8_72 dX8_grown_22 ?_
      refine jj_callSi [.long (Int32.toInt64 x3), .long 0, .long 20] [] (c_mdf_in (d + 1)  rfl) jm_mdf_in lk_8_46 rfl (by omega) rfl (Nat.le_of_ble_eq_true rfl) dX8_grown_25 ?_
      refine jj_if_ne 38 dX8_grown_28 (by decide) (fun c5 => ?_) (fun c5 => ?_)
      · replace h := (if_neg c5).symm.trans h
        refine jj_iconst (0) dX8_grown_38 rfl ?_
        refine jj_istore [(4, .int 0), (0, .ref (jj_ad g 60)), (1, .int x1), (2, .int x2), (3, .int x3)] dX8_grown_39 (by decide) rfl ?_
        refine jj_iconst (0) dX8_grown_41 rfl ?_
        refine jj_istore [(5, .int 0), (4, .int 0), (0, .ref (jj_ad g 60)), (1, .int x1), (2, .int x2), (3, .int x3)] dX8_grown_42 (by decide) rfl ?_
        refine jj_sub [2, 3, 4, 5, 1, 0] rfl ?_
        exact t_mdf_grown_L44 d   hF  _ _ _ h
      · replace h := (if_pos c5).symm.trans h
        refine jj_aload_n dX8_grown_31 0 rfl ?_
        refine jj_ldc (-1000000001) lk_8_67 dX8_grown_32 ?_
        obtain ⟨q6, e6, h⟩ := jj_be h
        refine jj_callVi [.int (-1000000001)] [] (c_mdf_errs (d + 1)  e6) jm_mdf_errs lk_8_68 (b := 60) rfl (by decide) (jj_E8 rfl) rfl rfl rfl (by omega) rfl (Nat.le_of_ble_eq_true rfl) dX8_grown_34 ?_
        exact jj_iret2 hF dX8_grown_37 (Option.some.inj h)
def mdf_seed  (x1 : Int32) (μ : jj_M) : Option (Int32 × jj_M) := (mdf_becomes 176 x1 μ).bind fun q1 => some ((q1.1, q1.2))
set_option maxRecDepth 100000 in
theorem c_mdf_seed {g : jj_G} (d : Nat)  {x1 : Int32} {μ : jj_M} {r : Int32} {μ' : jj_M}   (h : mdf_seed x1 μ = some (r, μ')) : jj_N g yX8_seed cX8_seed 2 (some .int) (d + 1) [.ref (jj_ad g 60), .int x1] μ (some (.int r)) μ' := by
  refine jj_N_of jn_8 (Nat.le_of_ble_eq_true rfl) (fun X hF => ?_)
  unfold mdf_seed at h
  refine jj_sub (own := RX8) (lv2 := [(0, .ref (jj_ad g 60)), (1, .int x1)]) [0, 1] rfl ?_
  refine jj_aload_n dX8_seed_0 0 rfl ?_
  refine jj_sipush (176) dX8_seed_1 rfl ?_
  refine jj_iload_n dX8_seed_4 1 rfl ?_
  obtain ⟨q1, e1, h⟩ := jj_be h
  refine jj_callVi [.int 176, .int x1] [] (c_mdf_becomes (d + 0)  e1) jm_mdf_becomes lk_8_64 (b := 60) rfl (by decide) (jj_E8 rfl) rfl rfl rfl (by omega) rfl (Nat.le_of_ble_eq_true rfl) dX8_seed_5 ?_
  exact jj_iret2 hF dX8_seed_8 (Option.some.inj h)
def mdf_ran  (x1 : Int32) (μ : jj_M) : Option (jj_M) := if 40 ≤ (μ 60 17) then some μ else if jj_i (μ 60 17) 40 then (some (jj_u (jj_u μ 67 (μ 60 17).toNatClampNeg x1) 60 17 (((jj_u μ 67 (μ 60 17).toNatClampNeg x1) 60 17) + 1))).bind fun m3 => some m3 else none
set_option maxRecDepth 100000 in
theorem c_mdf_ran {g : jj_G} (d : Nat)  {x1 : Int32} {μ : jj_M} {μ' : jj_M}   (h : mdf_ran x1 μ = some μ') : jj_N g yX8_ran cX8_ran 2 none (d + 0) [.ref (jj_ad g 60), .int x1] μ none μ' := by
  refine jj_N_of jn_8 (Nat.le_of_ble_eq_true rfl) (fun X hF => ?_)
  unfold mdf_ran at h
  refine jj_sub (own := RX8) (lv2 := [(0, .ref (jj_ad g 60)), (1, .int x1)]) [0, 1] rfl ?_
  refine jj_aload_n dX8_ran_0 0 rfl ?_
  refine jg_8_17 (k := 60) rfl lk_8_265 dX8_ran_1 ?_
  refine jj_bipush (40) dX8_ran_4 rfl ?_
  refine jj_icmp_ge 29 dX8_ran_6 (by decide) (fun c1 => ?_) (fun c1 => ?_)
  · replace h := (if_pos c1).symm.trans h
    exact jj_vret1 hF dX8_ran_29 (Option.some.inj h)
  · replace h := (if_neg c1).symm.trans h
    refine jj_aload_n dX8_ran_9 0 rfl ?_
    refine jg_8_16 (k := 60) rfl lk_8_28 dX8_ran_10 ?_
    show jj_V g X _ _ _ _ _ _ (.ref (jj_ad g 67) :: _) _
    refine jj_aload_n dX8_ran_13 0 rfl ?_
    refine jg_8_17 (k := 60) rfl lk_8_265 dX8_ran_14 ?_
    refine jj_iload_n dX8_ran_17 1 rfl ?_
    obtain ⟨g2, h⟩ := jj_ge h
    refine jj_iastore (k := 67) (n := 40) rfl g2 dX8_ran_18 ?_
    refine jj_aload_n dX8_ran_19 0 rfl ?_
    refine jj_dup dX8_ran_20 rfl ?_
    refine jg_8_17 (k := 60) rfl lk_8_265 dX8_ran_21 ?_
    refine jj_iconst (1) dX8_ran_24 rfl ?_
    refine jj_iadd dX8_ran_25 ?_
    refine jp_8_17 (k := 60) rfl lk_8_265 dX8_ran_26 ?_
    obtain ⟨m3, em3, h⟩ := jj_be h
    refine jj_mu em3 ?_
    exact jj_vret1 hF dX8_ran_29 (Option.some.inj h)
def mdf_plainReads  (x1 : Int32) (μ : jj_M) : Option (Int32 × jj_M) := (mdf_ran 10 μ).bind fun q1 => some ((x1 + (q1 60 19), q1))
set_option maxRecDepth 100000 in
theorem c_mdf_plainReads {g : jj_G} (d : Nat)  {x1 : Int32} {μ : jj_M} {r : Int32} {μ' : jj_M}   (h : mdf_plainReads x1 μ = some (r, μ')) : jj_N g yX8_plainReads cX8_plainReads 2 (some .int) (d + 1) [.ref (jj_ad g 60), .int x1] μ (some (.int r)) μ' := by
  refine jj_N_of jn_8 (Nat.le_of_ble_eq_true rfl) (fun X hF => ?_)
  unfold mdf_plainReads at h
  refine jj_sub (own := RX8) (lv2 := [(0, .ref (jj_ad g 60)), (1, .int x1)]) [0, 1] rfl ?_
  refine jj_aload_n dX8_plainReads_0 0 rfl ?_
  refine jj_bipush (10) dX8_plainReads_1 rfl ?_
  obtain ⟨q1, e1, h⟩ := jj_be h
  refine jj_callVv [.int 10] [] (c_mdf_ran (d + 0)  e1) jm_mdf_ran lk_8_268 (b := 60) rfl (by decide) (jj_E8 rfl) rfl rfl rfl (by omega) rfl (Nat.le_of_ble_eq_true rfl) dX8_plainReads_3 ?_
  refine jj_iload_n dX8_plainReads_6 1 rfl ?_
  refine jj_aload_n dX8_plainReads_7 0 rfl ?_
  refine jg_8_19 (k := 60) rfl lk_8_271 dX8_plainReads_8 ?_
  refine jj_iadd dX8_plainReads_11 ?_
  exact jj_iret2 hF dX8_plainReads_12 (Option.some.inj h)
def mdf_readsBy  (x1 : Int32) (μ : jj_M) : Option (Int32 × jj_M) := if (mdf_isUnder (μ 60 18) 1) = 0 then (mdf_plainReads x1 μ).bind fun q4 => some ((q4.1, q4.2)) else (mdf_ran 20 μ).bind fun q2 => (mdf_plainReads x1 q2).bind fun q3 => some ((q3.1 * 3, q3.2))
set_option maxRecDepth 100000 in
theorem c_mdf_readsBy {g : jj_G} (d : Nat)  {x1 : Int32} {μ : jj_M} {r : Int32} {μ' : jj_M}   (h : mdf_readsBy x1 μ = some (r, μ')) : jj_N g yX8_readsBy cX8_readsBy 2 (some .int) (d + 2) [.ref (jj_ad g 60), .int x1] μ (some (.int r)) μ' := by
  refine jj_N_of jn_8 (Nat.le_of_ble_eq_true rfl) (fun X hF => ?_)
  unfold mdf_readsBy at h
  refine jj_sub (own := RX8) (lv2 := [(0, .ref (jj_ad g 60)), (1, .int x1)]) [0, 1] rfl ?_
  refine jj_aload_n dX8_readsBy_0 0 rfl ?_
  refine jg_8_18 (k := 60) rfl lk_8_274 dX8_readsBy_1 ?_
  refine jj_iconst (1) dX8_readsBy_4 rfl ?_
  refine jj_callSi [.int (μ 60 18), .int 1] [] (c_mdf_isUnder (d + 1)  rfl) jm_mdf_isUnder lk_8_116 rfl (by omega) rfl (Nat.le_of_ble_eq_true rfl) dX8_readsBy_5 ?_
  refine jj_if_ne 17 dX8_readsBy_8 (by decide) (fun c1 => ?_) (fun c1 => ?_)
  · replace h := (if_neg c1).symm.trans h
    refine jj_aload_n dX8_readsBy_17 0 rfl ?_
    refine jj_bipush (20) dX8_readsBy_18 rfl ?_
    obtain ⟨q2, e2, h⟩ := jj_be h
    refine jj_callVv [.int 20] [] (c_mdf_ran (d + 1)  e2) jm_mdf_ran lk_8_268 (b := 60) rfl (by decide) (jj_E8 rfl) rfl rfl rfl (by omega) rfl (Nat.le_of_ble_eq_true rfl) dX8_readsBy_20 ?_
    refine jj_aload_n dX8_readsBy_23 0 rfl ?_
    refine jj_iload_n dX8_readsBy_24 1 rfl ?_
    obtain ⟨q3, e3, h⟩ := jj_be h
    refine jj_callVi [.int x1] [] (c_mdf_plainReads (d + 0)  e3) jm_mdf_plainReads lk_8_277 (b := 60) rfl (by decide) (jj_E8 rfl) rfl rfl rfl (by omega) rfl (Nat.le_of_ble_eq_true rfl) dX8_readsBy_25 ?_
    refine jj_iconst (3) dX8_readsBy_28 rfl ?_
    refine jj_imul dX8_readsBy_29 ?_
    exact jj_iret2 hF dX8_readsBy_30 (Option.some.inj h)
  · replace h := (if_pos c1).symm.trans h
    refine jj_aload_n dX8_readsBy_11 0 rfl ?_
    refine jj_iload_n dX8_readsBy_12 1 rfl ?_
    obtain ⟨q4, e4, h⟩ := jj_be h
    refine jj_callVi [.int x1] [] (c_mdf_plainReads (d + 0)  e4) jm_mdf_plainReads lk_8_277 (b := 60) rfl (by decide) (jj_E8 rfl) rfl rfl rfl (by omega) rfl (Nat.le_of_ble_eq_true rfl) dX8_readsBy_13 ?_
    exact jj_iret2 hF dX8_readsBy_16 (Option.some.inj h)
def mdf_plainTakes  (x1 : Int32) (μ : jj_M) : Option (Int32 × jj_M) := (mdf_ran 12 μ).bind fun q1 => some ((x1 - (q1 60 20), q1))
set_option maxRecDepth 100000 in
theorem c_mdf_plainTakes {g : jj_G} (d : Nat)  {x1 : Int32} {μ : jj_M} {r : Int32} {μ' : jj_M}   (h : mdf_plainTakes x1 μ = some (r, μ')) : jj_N g yX8_plainTakes cX8_plainTakes 2 (some .int) (d + 1) [.ref (jj_ad g 60), .int x1] μ (some (.int r)) μ' := by
  refine jj_N_of jn_8 (Nat.le_of_ble_eq_true rfl) (fun X hF => ?_)
  unfold mdf_plainTakes at h
  refine jj_sub (own := RX8) (lv2 := [(0, .ref (jj_ad g 60)), (1, .int x1)]) [0, 1] rfl ?_
  refine jj_aload_n dX8_plainTakes_0 0 rfl ?_
  refine jj_bipush (12) dX8_plainTakes_1 rfl ?_
  obtain ⟨q1, e1, h⟩ := jj_be h
  refine jj_callVv [.int 12] [] (c_mdf_ran (d + 0)  e1) jm_mdf_ran lk_8_268 (b := 60) rfl (by decide) (jj_E8 rfl) rfl rfl rfl (by omega) rfl (Nat.le_of_ble_eq_true rfl) dX8_plainTakes_3 ?_
  refine jj_iload_n dX8_plainTakes_6 1 rfl ?_
  refine jj_aload_n dX8_plainTakes_7 0 rfl ?_
  refine jg_8_20 (k := 60) rfl lk_8_280 dX8_plainTakes_8 ?_
  refine jj_isub dX8_plainTakes_11 ?_
  exact jj_iret2 hF dX8_plainTakes_12 (Option.some.inj h)
def mdf_lawTakes  (x1 : Int32) (μ : jj_M) : Option (Int32 × jj_M) := (mdf_ran 40 μ).bind fun q1 => (mdf_plainTakes x1 q1).bind fun q2 => some ((-q2.1, q2.2))
set_option maxRecDepth 100000 in
theorem c_mdf_lawTakes {g : jj_G} (d : Nat)  {x1 : Int32} {μ : jj_M} {r : Int32} {μ' : jj_M}   (h : mdf_lawTakes x1 μ = some (r, μ')) : jj_N g yX8_lawTakes cX8_lawTakes 2 (some .int) (d + 2) [.ref (jj_ad g 60), .int x1] μ (some (.int r)) μ' := by
  refine jj_N_of jn_8 (Nat.le_of_ble_eq_true rfl) (fun X hF => ?_)
  unfold mdf_lawTakes at h
  refine jj_sub (own := RX8) (lv2 := [(0, .ref (jj_ad g 60)), (1, .int x1)]) [0, 1] rfl ?_
  refine jj_aload_n dX8_lawTakes_0 0 rfl ?_
  refine jj_bipush (40) dX8_lawTakes_1 rfl ?_
  obtain ⟨q1, e1, h⟩ := jj_be h
  refine jj_callVv [.int 40] [] (c_mdf_ran (d + 1)  e1) jm_mdf_ran lk_8_268 (b := 60) rfl (by decide) (jj_E8 rfl) rfl rfl rfl (by omega) rfl (Nat.le_of_ble_eq_true rfl) dX8_lawTakes_3 ?_
  refine jj_aload_n dX8_lawTakes_6 0 rfl ?_
  refine jj_iload_n dX8_lawTakes_7 1 rfl ?_
  obtain ⟨q2, e2, h⟩ := jj_be h
  refine jj_callVi [.int x1] [] (c_mdf_plainTakes (d + 0)  e2) jm_mdf_plainTakes lk_8_283 (b := 60) rfl (by decide) (jj_E8 rfl) rfl rfl rfl (by omega) rfl (Nat.le_of_ble_eq_true rfl) dX8_lawTakes_8 ?_
  refine jj_ineg dX8_lawTakes_11 ?_
  exact jj_iret2 hF dX8_lawTakes_12 (Option.some.inj h)
def mdf_takesBy  (x1 : Int32) (μ : jj_M) : Option (Int32 × jj_M) := if (μ 60 18) = 6 then (mdf_ran 70 μ).bind fun q5 => (mdf_lawTakes x1 q5).bind fun q6 => some ((q6.1 ^^^ (q6.2 60 19), q6.2)) else if (μ 60 18) = 3 then (mdf_lawTakes x1 μ).bind fun q4 => some ((q4.1, q4.2)) else (mdf_plainTakes x1 μ).bind fun q3 => some ((q3.1, q3.2))
set_option maxRecDepth 100000 in
theorem c_mdf_takesBy {g : jj_G} (d : Nat)  {x1 : Int32} {μ : jj_M} {r : Int32} {μ' : jj_M}   (h : mdf_takesBy x1 μ = some (r, μ')) : jj_N g yX8_takesBy cX8_takesBy 2 (some .int) (d + 3) [.ref (jj_ad g 60), .int x1] μ (some (.int r)) μ' := by
  refine jj_N_of jn_8 (Nat.le_of_ble_eq_true rfl) (fun X hF => ?_)
  unfold mdf_takesBy at h
  refine jj_sub (own := RX8) (lv2 := [(0, .ref (jj_ad g 60)), (1, .int x1)]) [0, 1] rfl ?_
  refine jj_aload_n dX8_takesBy_0 0 rfl ?_
  refine jg_8_18 (k := 60) rfl lk_8_274 dX8_takesBy_1 ?_
  refine jj_bipush (6) dX8_takesBy_4 rfl ?_
  refine jj_icmp_ne 26 dX8_takesBy_6 (by decide) (fun c1 => ?_) (fun c1 => ?_)
  · replace h := (if_neg c1).symm.trans h
    refine jj_aload_n dX8_takesBy_26 0 rfl ?_
    refine jg_8_18 (k := 60) rfl lk_8_274 dX8_takesBy_27 ?_
    refine jj_iconst (3) dX8_takesBy_30 rfl ?_
    refine jj_icmp_ne 42 dX8_takesBy_31 (by decide) (fun c2 => ?_) (fun c2 => ?_)
    · replace h := (if_neg c2).symm.trans h
      refine jj_aload_n dX8_takesBy_42 0 rfl ?_
      refine jj_iload_n dX8_takesBy_43 1 rfl ?_
      obtain ⟨q3, e3, h⟩ := jj_be h
      refine jj_callVi [.int x1] [] (c_mdf_plainTakes (d + 1)  e3) jm_mdf_plainTakes lk_8_283 (b := 60) rfl (by decide) (jj_E8 rfl) rfl rfl rfl (by omega) rfl (Nat.le_of_ble_eq_true rfl) dX8_takesBy_44 ?_
      exact jj_iret2 hF dX8_takesBy_47 (Option.some.inj h)
    · replace h := (if_pos c2).symm.trans h
      refine jj_aload_n dX8_takesBy_34 0 rfl ?_
      refine jj_iload_n dX8_takesBy_35 1 rfl ?_
      obtain ⟨q4, e4, h⟩ := jj_be h
      refine jj_callVi [.int x1] [] (c_mdf_lawTakes (d + 0)  e4) jm_mdf_lawTakes lk_8_286 (b := 60) rfl (by decide) (jj_E8 rfl) rfl rfl rfl (by omega) rfl (Nat.le_of_ble_eq_true rfl) dX8_takesBy_36 ?_
      refine jj_goto 47 dX8_takesBy_39 (by decide) ?_
      exact jj_iret2 hF dX8_takesBy_47 (Option.some.inj h)
  · replace h := (if_pos c1).symm.trans h
    refine jj_aload_n dX8_takesBy_9 0 rfl ?_
    refine jj_bipush (70) dX8_takesBy_10 rfl ?_
    obtain ⟨q5, e5, h⟩ := jj_be h
    refine jj_callVv [.int 70] [] (c_mdf_ran (d + 2)  e5) jm_mdf_ran lk_8_268 (b := 60) rfl (by decide) (jj_E8 rfl) rfl rfl rfl (by omega) rfl (Nat.le_of_ble_eq_true rfl) dX8_takesBy_12 ?_
    refine jj_aload_n dX8_takesBy_15 0 rfl ?_
    refine jj_iload_n dX8_takesBy_16 1 rfl ?_
    obtain ⟨q6, e6, h⟩ := jj_be h
    refine jj_callVi [.int x1] [] (c_mdf_lawTakes (d + 0)  e6) jm_mdf_lawTakes lk_8_286 (b := 60) rfl (by decide) (jj_E8 rfl) rfl rfl rfl (by omega) rfl (Nat.le_of_ble_eq_true rfl) dX8_takesBy_17 ?_
    refine jj_aload_n dX8_takesBy_20 0 rfl ?_
    refine jg_8_19 (k := 60) rfl lk_8_271 dX8_takesBy_21 ?_
    refine jj_ixor dX8_takesBy_24 ?_
    exact jj_iret2 hF dX8_takesBy_25 (Option.some.inj h)
def mdf_plainGives  (x1 : Int32) (μ : jj_M) : Option (Int32 × jj_M) := (mdf_ran 11 μ).bind fun q1 => (mdf_readsBy x1 q1).bind fun q2 => some ((q2.1 * 2, q2.2))
set_option maxRecDepth 100000 in
theorem c_mdf_plainGives {g : jj_G} (d : Nat)  {x1 : Int32} {μ : jj_M} {r : Int32} {μ' : jj_M}   (h : mdf_plainGives x1 μ = some (r, μ')) : jj_N g yX8_plainGives cX8_plainGives 2 (some .int) (d + 3) [.ref (jj_ad g 60), .int x1] μ (some (.int r)) μ' := by
  refine jj_N_of jn_8 (Nat.le_of_ble_eq_true rfl) (fun X hF => ?_)
  unfold mdf_plainGives at h
  refine jj_sub (own := RX8) (lv2 := [(0, .ref (jj_ad g 60)), (1, .int x1)]) [0, 1] rfl ?_
  refine jj_aload_n dX8_plainGives_0 0 rfl ?_
  refine jj_bipush (11) dX8_plainGives_1 rfl ?_
  obtain ⟨q1, e1, h⟩ := jj_be h
  refine jj_callVv [.int 11] [] (c_mdf_ran (d + 2)  e1) jm_mdf_ran lk_8_268 (b := 60) rfl (by decide) (jj_E8 rfl) rfl rfl rfl (by omega) rfl (Nat.le_of_ble_eq_true rfl) dX8_plainGives_3 ?_
  refine jj_aload_n dX8_plainGives_6 0 rfl ?_
  refine jj_iload_n dX8_plainGives_7 1 rfl ?_
  obtain ⟨q2, e2, h⟩ := jj_be h
  refine jj_callVi [.int x1] [] (c_mdf_readsBy (d + 0)  e2) jm_mdf_readsBy lk_8_289 (b := 60) rfl (by decide) (jj_E8 rfl) rfl rfl rfl (by omega) rfl (Nat.le_of_ble_eq_true rfl) dX8_plainGives_8 ?_
  refine jj_iconst (2) dX8_plainGives_11 rfl ?_
  refine jj_imul dX8_plainGives_12 ?_
  exact jj_iret2 hF dX8_plainGives_13 (Option.some.inj h)
def mdf_poemGives  (x1 : Int32) (μ : jj_M) : Option (Int32 × jj_M) := (mdf_ran 30 μ).bind fun q1 => (mdf_plainGives x1 q1).bind fun q2 => (mdf_takesBy 1 q2.2).bind fun q3 => some ((q2.1 - q3.1, q3.2))
set_option maxRecDepth 100000 in
theorem c_mdf_poemGives {g : jj_G} (d : Nat)  {x1 : Int32} {μ : jj_M} {r : Int32} {μ' : jj_M}   (h : mdf_poemGives x1 μ = some (r, μ')) : jj_N g yX8_poemGives cX8_poemGives 3 (some .int) (d + 4) [.ref (jj_ad g 60), .int x1] μ (some (.int r)) μ' := by
  refine jj_N_of jn_8 (Nat.le_of_ble_eq_true rfl) (fun X hF => ?_)
  unfold mdf_poemGives at h
  refine jj_sub (own := RX8) (lv2 := [(0, .ref (jj_ad g 60)), (1, .int x1)]) [0, 1] rfl ?_
  refine jj_aload_n dX8_poemGives_0 0 rfl ?_
  refine jj_bipush (30) dX8_poemGives_1 rfl ?_
  obtain ⟨q1, e1, h⟩ := jj_be h
  refine jj_callVv [.int 30] [] (c_mdf_ran (d + 3)  e1) jm_mdf_ran lk_8_268 (b := 60) rfl (by decide) (jj_E8 rfl) rfl rfl rfl (by omega) rfl (Nat.le_of_ble_eq_true rfl) dX8_poemGives_3 ?_
  refine jj_aload_n dX8_poemGives_6 0 rfl ?_
  refine jj_iload_n dX8_poemGives_7 1 rfl ?_
  obtain ⟨q2, e2, h⟩ := jj_be h
  refine jj_callVi [.int x1] [] (c_mdf_plainGives (d + 0)  e2) jm_mdf_plainGives lk_8_292 (b := 60) rfl (by decide) (jj_E8 rfl) rfl rfl rfl (by omega) rfl (Nat.le_of_ble_eq_true rfl) dX8_poemGives_8 ?_
  refine jj_istore_n [(2, .int q2.1), (0, .ref (jj_ad g 60)), (1, .int x1)] dX8_poemGives_11 (by decide) rfl ?_
  refine jj_iload_n dX8_poemGives_12 0 rfl ?_
  refine jj_aload_n dX8_poemGives_13 1 rfl ?_
  refine jj_iconst (1) dX8_poemGives_14 rfl ?_
  obtain ⟨q3, e3, h⟩ := jj_be h
  refine jj_callVi [.int 1] [.int q2.1] (c_mdf_takesBy (d + 0)  e3) jm_mdf_takesBy lk_8_295 (b := 60) rfl (by decide) (jj_E8 rfl) rfl rfl rfl (by omega) rfl (Nat.le_of_ble_eq_true rfl) dX8_poemGives_15 ?_
  refine jj_isub dX8_poemGives_18 ?_
  exact jj_iret2 hF dX8_poemGives_19 (Option.some.inj h)
def mdf_givesBy  (x1 : Int32) (μ : jj_M) : Option (Int32 × jj_M) := if (μ 60 18) = 5 then (mdf_ran 60 μ).bind fun q5 => (mdf_poemGives (x1 + 1) q5).bind fun q6 => some ((q6.1, q6.2)) else if (μ 60 18) = 2 then (mdf_poemGives x1 μ).bind fun q4 => some ((q4.1, q4.2)) else (mdf_plainGives x1 μ).bind fun q3 => some ((q3.1, q3.2))
set_option maxRecDepth 100000 in
theorem c_mdf_givesBy {g : jj_G} (d : Nat)  {x1 : Int32} {μ : jj_M} {r : Int32} {μ' : jj_M}   (h : mdf_givesBy x1 μ = some (r, μ')) : jj_N g yX8_givesBy cX8_givesBy 2 (some .int) (d + 5) [.ref (jj_ad g 60), .int x1] μ (some (.int r)) μ' := by
  refine jj_N_of jn_8 (Nat.le_of_ble_eq_true rfl) (fun X hF => ?_)
  unfold mdf_givesBy at h
  refine jj_sub (own := RX8) (lv2 := [(0, .ref (jj_ad g 60)), (1, .int x1)]) [0, 1] rfl ?_
  refine jj_aload_n dX8_givesBy_0 0 rfl ?_
  refine jg_8_18 (k := 60) rfl lk_8_274 dX8_givesBy_1 ?_
  refine jj_iconst (5) dX8_givesBy_4 rfl ?_
  refine jj_icmp_ne 22 dX8_givesBy_5 (by decide) (fun c1 => ?_) (fun c1 => ?_)
  · replace h := (if_neg c1).symm.trans h
    refine jj_aload_n dX8_givesBy_22 0 rfl ?_
    refine jg_8_18 (k := 60) rfl lk_8_274 dX8_givesBy_23 ?_
    refine jj_iconst (2) dX8_givesBy_26 rfl ?_
    refine jj_icmp_ne 38 dX8_givesBy_27 (by decide) (fun c2 => ?_) (fun c2 => ?_)
    · replace h := (if_neg c2).symm.trans h
      refine jj_aload_n dX8_givesBy_38 0 rfl ?_
      refine jj_iload_n dX8_givesBy_39 1 rfl ?_
      obtain ⟨q3, e3, h⟩ := jj_be h
      refine jj_callVi [.int x1] [] (c_mdf_plainGives (d + 1)  e3) jm_mdf_plainGives lk_8_292 (b := 60) rfl (by decide) (jj_E8 rfl) rfl rfl rfl (by omega) rfl (Nat.le_of_ble_eq_true rfl) dX8_givesBy_40 ?_
      exact jj_iret2 hF dX8_givesBy_43 (Option.some.inj h)
    · replace h := (if_pos c2).symm.trans h
      refine jj_aload_n dX8_givesBy_30 0 rfl ?_
      refine jj_iload_n dX8_givesBy_31 1 rfl ?_
      obtain ⟨q4, e4, h⟩ := jj_be h
      refine jj_callVi [.int x1] [] (c_mdf_poemGives (d + 0)  e4) jm_mdf_poemGives lk_8_298 (b := 60) rfl (by decide) (jj_E8 rfl) rfl rfl rfl (by omega) rfl (Nat.le_of_ble_eq_true rfl) dX8_givesBy_32 ?_
      refine jj_goto 43 dX8_givesBy_35 (by decide) ?_
      exact jj_iret2 hF dX8_givesBy_43 (Option.some.inj h)
  · replace h := (if_pos c1).symm.trans h
    refine jj_aload_n dX8_givesBy_8 0 rfl ?_
    refine jj_bipush (60) dX8_givesBy_9 rfl ?_
    obtain ⟨q5, e5, h⟩ := jj_be h
    refine jj_callVv [.int 60] [] (c_mdf_ran (d + 4)  e5) jm_mdf_ran lk_8_268 (b := 60) rfl (by decide) (jj_E8 rfl) rfl rfl rfl (by omega) rfl (Nat.le_of_ble_eq_true rfl) dX8_givesBy_11 ?_
    refine jj_aload_n dX8_givesBy_14 0 rfl ?_
    refine jj_iload_n dX8_givesBy_15 1 rfl ?_
    refine jj_iconst (1) dX8_givesBy_16 rfl ?_
    refine jj_iadd dX8_givesBy_17 ?_
    obtain ⟨q6, e6, h⟩ := jj_be h
    refine jj_callVi [.int (x1 + 1)] [] (c_mdf_poemGives (d + 0)  e6) jm_mdf_poemGives lk_8_298 (b := 60) rfl (by decide) (jj_E8 rfl) rfl rfl rfl (by omega) rfl (Nat.le_of_ble_eq_true rfl) dX8_givesBy_18 ?_
    exact jj_iret2 hF dX8_givesBy_21 (Option.some.inj h)
def mdf_plainTells  (x1 : Int32) (μ : jj_M) : Option (Int32 × jj_M) := (mdf_ran 13 μ).bind fun q1 => (mdf_givesBy x1 q1).bind fun q2 => (mdf_takesBy x1 q2.2).bind fun q3 => some ((q2.1 ^^^ q3.1, q3.2))
set_option maxRecDepth 100000 in
theorem c_mdf_plainTells {g : jj_G} (d : Nat)  {x1 : Int32} {μ : jj_M} {r : Int32} {μ' : jj_M}   (h : mdf_plainTells x1 μ = some (r, μ')) : jj_N g yX8_plainTells cX8_plainTells 3 (some .int) (d + 6) [.ref (jj_ad g 60), .int x1] μ (some (.int r)) μ' := by
  refine jj_N_of jn_8 (Nat.le_of_ble_eq_true rfl) (fun X hF => ?_)
  unfold mdf_plainTells at h
  refine jj_sub (own := RX8) (lv2 := [(0, .ref (jj_ad g 60)), (1, .int x1)]) [0, 1] rfl ?_
  refine jj_aload_n dX8_plainTells_0 0 rfl ?_
  refine jj_bipush (13) dX8_plainTells_1 rfl ?_
  obtain ⟨q1, e1, h⟩ := jj_be h
  refine jj_callVv [.int 13] [] (c_mdf_ran (d + 5)  e1) jm_mdf_ran lk_8_268 (b := 60) rfl (by decide) (jj_E8 rfl) rfl rfl rfl (by omega) rfl (Nat.le_of_ble_eq_true rfl) dX8_plainTells_3 ?_
  refine jj_aload_n dX8_plainTells_6 0 rfl ?_
  refine jj_iload_n dX8_plainTells_7 1 rfl ?_
  obtain ⟨q2, e2, h⟩ := jj_be h
  refine jj_callVi [.int x1] [] (c_mdf_givesBy (d + 0)  e2) jm_mdf_givesBy lk_8_301 (b := 60) rfl (by decide) (jj_E8 rfl) rfl rfl rfl (by omega) rfl (Nat.le_of_ble_eq_true rfl) dX8_plainTells_8 ?_
  refine jj_istore_n [(2, .int q2.1), (0, .ref (jj_ad g 60)), (1, .int x1)] dX8_plainTells_11 (by decide) rfl ?_
  refine jj_iload_n dX8_plainTells_12 0 rfl ?_
  refine jj_aload_n dX8_plainTells_13 1 rfl ?_
  refine jj_iload_n dX8_plainTells_14 2 rfl ?_
  obtain ⟨q3, e3, h⟩ := jj_be h
  refine jj_callVi [.int x1] [.int q2.1] (c_mdf_takesBy (d + 2)  e3) jm_mdf_takesBy lk_8_295 (b := 60) rfl (by decide) (jj_E8 rfl) rfl rfl rfl (by omega) rfl (Nat.le_of_ble_eq_true rfl) dX8_plainTells_15 ?_
  refine jj_ixor dX8_plainTells_18 ?_
  exact jj_iret2 hF dX8_plainTells_19 (Option.some.inj h)
def mdf_tellsBy  (x1 : Int32) (μ : jj_M) : Option (Int32 × jj_M) := if (μ 60 18) = 4 then (mdf_ran 50 μ).bind fun q7 => (mdf_plainTells x1 q7).bind fun q8 => (mdf_readsBy 2 q8.2).bind fun q9 => some ((q8.1 - q9.1, q9.2)) else if (μ 60 18) = 6 then (mdf_ran 71 μ).bind fun q4 => (mdf_givesBy x1 q4).bind fun q5 => (mdf_plainTells x1 q5.2).bind fun q6 => some ((q5.1 - q6.1, q6.2)) else (mdf_plainTells x1 μ).bind fun q3 => some ((q3.1, q3.2))
set_option maxRecDepth 100000 in
theorem c_mdf_tellsBy {g : jj_G} (d : Nat)  {x1 : Int32} {μ : jj_M} {r : Int32} {μ' : jj_M}   (h : mdf_tellsBy x1 μ = some (r, μ')) : jj_N g yX8_tellsBy cX8_tellsBy 3 (some .int) (d + 7) [.ref (jj_ad g 60), .int x1] μ (some (.int r)) μ' := by
  refine jj_N_of jn_8 (Nat.le_of_ble_eq_true rfl) (fun X hF => ?_)
  unfold mdf_tellsBy at h
  refine jj_sub (own := RX8) (lv2 := [(0, .ref (jj_ad g 60)), (1, .int x1)]) [0, 1] rfl ?_
  refine jj_aload_n dX8_tellsBy_0 0 rfl ?_
  refine jg_8_18 (k := 60) rfl lk_8_274 dX8_tellsBy_1 ?_
  refine jj_iconst (4) dX8_tellsBy_4 rfl ?_
  refine jj_icmp_ne 28 dX8_tellsBy_5 (by decide) (fun c1 => ?_) (fun c1 => ?_)
  · replace h := (if_neg c1).symm.trans h
    refine jj_aload_n dX8_tellsBy_28 0 rfl ?_
    refine jg_8_18 (k := 60) rfl lk_8_274 dX8_tellsBy_29 ?_
    refine jj_bipush (6) dX8_tellsBy_32 rfl ?_
    refine jj_icmp_ne 57 dX8_tellsBy_34 (by decide) (fun c2 => ?_) (fun c2 => ?_)
    · replace h := (if_neg c2).symm.trans h
      refine jj_aload_n dX8_tellsBy_57 0 rfl ?_
      refine jj_iload_n dX8_tellsBy_58 1 rfl ?_
      obtain ⟨q3, e3, h⟩ := jj_be h
      refine jj_callVi [.int x1] [] (c_mdf_plainTells (d + 0)  e3) jm_mdf_plainTells lk_8_304 (b := 60) rfl (by decide) (jj_E8 rfl) rfl rfl rfl (by omega) rfl (Nat.le_of_ble_eq_true rfl) dX8_tellsBy_59 ?_
      exact jj_iret2 hF dX8_tellsBy_62 (Option.some.inj h)
    · replace h := (if_pos c2).symm.trans h
      refine jj_aload_n dX8_tellsBy_37 0 rfl ?_
      refine jj_bipush (71) dX8_tellsBy_38 rfl ?_
      obtain ⟨q4, e4, h⟩ := jj_be h
      refine jj_callVv [.int 71] [] (c_mdf_ran (d + 6)  e4) jm_mdf_ran lk_8_268 (b := 60) rfl (by decide) (jj_E8 rfl) rfl rfl rfl (by omega) rfl (Nat.le_of_ble_eq_true rfl) dX8_tellsBy_40 ?_
      refine jj_aload_n dX8_tellsBy_43 0 rfl ?_
      refine jj_iload_n dX8_tellsBy_44 1 rfl ?_
      obtain ⟨q5, e5, h⟩ := jj_be h
      refine jj_callVi [.int x1] [] (c_mdf_givesBy (d + 1)  e5) jm_mdf_givesBy lk_8_301 (b := 60) rfl (by decide) (jj_E8 rfl) rfl rfl rfl (by omega) rfl (Nat.le_of_ble_eq_true rfl) dX8_tellsBy_45 ?_
      refine jj_istore_n [(2, .int q5.1), (0, .ref (jj_ad g 60)), (1, .int x1)] dX8_tellsBy_48 (by decide) rfl ?_
      refine jj_iload_n dX8_tellsBy_49 0 rfl ?_
      refine jj_aload_n dX8_tellsBy_50 1 rfl ?_
      refine jj_iload_n dX8_tellsBy_51 2 rfl ?_
      obtain ⟨q6, e6, h⟩ := jj_be h
      refine jj_callVi [.int x1] [.int q5.1] (c_mdf_plainTells (d + 0)  e6) jm_mdf_plainTells lk_8_304 (b := 60) rfl (by decide) (jj_E8 rfl) rfl rfl rfl (by omega) rfl (Nat.le_of_ble_eq_true rfl) dX8_tellsBy_52 ?_
      refine jj_isub dX8_tellsBy_55 ?_
      exact jj_iret2 hF dX8_tellsBy_56 (Option.some.inj h)
  · replace h := (if_pos c1).symm.trans h
    refine jj_aload_n dX8_tellsBy_8 0 rfl ?_
    refine jj_bipush (50) dX8_tellsBy_9 rfl ?_
    obtain ⟨q7, e7, h⟩ := jj_be h
    refine jj_callVv [.int 50] [] (c_mdf_ran (d + 6)  e7) jm_mdf_ran lk_8_268 (b := 60) rfl (by decide) (jj_E8 rfl) rfl rfl rfl (by omega) rfl (Nat.le_of_ble_eq_true rfl) dX8_tellsBy_11 ?_
    refine jj_aload_n dX8_tellsBy_14 0 rfl ?_
    refine jj_iload_n dX8_tellsBy_15 1 rfl ?_
    obtain ⟨q8, e8, h⟩ := jj_be h
    refine jj_callVi [.int x1] [] (c_mdf_plainTells (d + 0)  e8) jm_mdf_plainTells lk_8_304 (b := 60) rfl (by decide) (jj_E8 rfl) rfl rfl rfl (by omega) rfl (Nat.le_of_ble_eq_true rfl) dX8_tellsBy_16 ?_
    refine jj_istore_n [(2, .int q8.1), (0, .ref (jj_ad g 60)), (1, .int x1)] dX8_tellsBy_19 (by decide) rfl ?_
    refine jj_iload_n dX8_tellsBy_20 0 rfl ?_
    refine jj_aload_n dX8_tellsBy_21 1 rfl ?_
    refine jj_iconst (2) dX8_tellsBy_22 rfl ?_
    obtain ⟨q9, e9, h⟩ := jj_be h
    refine jj_callVi [.int 2] [.int q8.1] (c_mdf_readsBy (d + 4)  e9) jm_mdf_readsBy lk_8_289 (b := 60) rfl (by decide) (jj_E8 rfl) rfl rfl rfl (by omega) rfl (Nat.le_of_ble_eq_true rfl) dX8_tellsBy_23 ?_
    refine jj_isub dX8_tellsBy_26 ?_
    exact jj_iret2 hF dX8_tellsBy_27 (Option.some.inj h)
def mdf_voice  (x1 : Int32) (x2 : Int32) (x3 : Int32) (μ : jj_M) : Option (Int32 × jj_M) := if (mdf_isPerson x1 μ) = 0 then (mdf_errs (-1000000001) μ).bind fun q2 => some ((q2.1, q2.2)) else if (mdf_in (Int32.toInt64 x2) 0 3) = 0 then (mdf_errs (-1000000001) μ).bind fun q14 => some ((q14.1, q14.2)) else (mdf_its x1 0 (jj_u μ 60 17 0)).bind fun q4 => (mdf_its x1 1 (jj_u (jj_u (jj_u μ 60 17 0) 60 18 q4) 60 19 x1)).bind fun q5 => (some (jj_u (jj_u (jj_u (jj_u μ 60 17 0) 60 18 q4) 60 19 x1) 60 20 q5)).bind fun m6 => if x2 = 0 then (mdf_readsBy x3 m6).bind fun q13 => some ((q13.1, q13.2)) else if x2 = 1 then (mdf_givesBy x3 m6).bind fun q12 => some ((q12.1, q12.2)) else if x2 = 2 then (mdf_takesBy x3 m6).bind fun q11 => some ((q11.1, q11.2)) else (mdf_tellsBy x3 m6).bind fun q10 => some ((q10.1, q10.2))
set_option maxRecDepth 100000 in
theorem c_mdf_voice {g : jj_G} (d : Nat)  {x1 : Int32} {x2 : Int32} {x3 : Int32} {μ : jj_M} {r : Int32} {μ' : jj_M}   (h : mdf_voice x1 x2 x3 μ = some (r, μ')) : jj_N g yX8_voice cX8_voice 4 (some .int) (d + 8) [.ref (jj_ad g 60), .int x1, .int x2, .int x3] μ (some (.int r)) μ' := by
  refine jj_N_of jn_8 (Nat.le_of_ble_eq_true rfl) (fun X hF => ?_)
  unfold mdf_voice at h
  refine jj_sub (own := RX8) (lv2 := [(0, .ref (jj_ad g 60)), (1, .int x1), (2, .int x2), (3, .int x3)]) [0, 1, 2, 3] rfl ?_
  refine jj_aload_n dX8_voice_0 0 rfl ?_
  refine jj_iload_n dX8_voice_1 1 rfl ?_
  refine jj_callVi [.int x1] [] (c_mdf_isPerson (d + 6)  rfl) jm_mdf_isPerson lk_8_103 (b := 60) rfl (by decide) (jj_E8 rfl) rfl rfl rfl (by omega) rfl (Nat.le_of_ble_eq_true rfl) dX8_voice_2 ?_
  refine jj_if_eq 20 dX8_voice_5 (by decide) (fun c1 => ?_) (fun c1 => ?_)
  · replace h := (if_pos c1).symm.trans h
    refine jj_aload_n dX8_voice_20 0 rfl ?_
    refine jj_ldc (-1000000001) lk_8_67 dX8_voice_21 ?_
    obtain ⟨q2, e2, h⟩ := jj_be h
    refine jj_callVi [.int (-1000000001)] [] (c_mdf_errs (d + 7)  e2) jm_mdf_errs lk_8_68 (b := 60) rfl (by decide) (jj_E8 rfl) rfl rfl rfl (by omega) rfl (Nat.le_of_ble_eq_true rfl) dX8_voice_23 ?_
    exact jj_iret2 hF dX8_voice_26 (Option.some.inj h)
  · replace h := (if_neg c1).symm.trans h
    refine jj_iload_n dX8_voice_8 2 rfl ?_
    refine jj_i2l dX8_voice_9 ?_
    refine jj_lconst (0) dX8_voice_10 rfl ?_
    refine jj_ldc2_w (3) lk_8_307 dX8_voice_11 ?_
    refine jj_callSi [.long (Int32.toInt64 x2), .long 0, .long 3] [] (c_mdf_in (d + 7)  rfl) jm_mdf_in lk_8_46 rfl (by omega) rfl (Nat.le_of_ble_eq_true rfl) dX8_voice_14 ?_
    refine jj_if_ne 27 dX8_voice_17 (by decide) (fun c3 => ?_) (fun c3 => ?_)
    · replace h := (if_neg c3).symm.trans h
      refine jj_aload_n dX8_voice_27 0 rfl ?_
      refine jj_iconst (0) dX8_voice_28 rfl ?_
      refine jp_8_17 (k := 60) rfl lk_8_265 dX8_voice_29 ?_
      refine jj_aload_n dX8_voice_32 0 rfl ?_
      refine jj_aload_n dX8_voice_33 0 rfl ?_
      refine jj_iload_n dX8_voice_34 1 rfl ?_
      refine jj_iconst (0) dX8_voice_35 rfl ?_
      obtain ⟨q4, e4, h⟩ := jj_be h
      refine jj_callVi [.int x1, .int 0] [.ref (jj_ad g 60)] (c_mdf_its (d + 6)  e4) jm_mdf_its lk_8_79 (b := 60) rfl (by decide) (jj_E8 rfl) rfl rfl rfl (by omega) rfl (Nat.le_of_ble_eq_true rfl) dX8_voice_36 ?_
      refine jp_8_18 (k := 60) rfl lk_8_274 dX8_voice_39 ?_
      refine jj_aload_n dX8_voice_42 0 rfl ?_
      refine jj_iload_n dX8_voice_43 1 rfl ?_
      refine jp_8_19 (k := 60) rfl lk_8_271 dX8_voice_44 ?_
      refine jj_aload_n dX8_voice_47 0 rfl ?_
      refine jj_aload_n dX8_voice_48 0 rfl ?_
      refine jj_iload_n dX8_voice_49 1 rfl ?_
      refine jj_iconst (1) dX8_voice_50 rfl ?_
      obtain ⟨q5, e5, h⟩ := jj_be h
      refine jj_callVi [.int x1, .int 1] [.ref (jj_ad g 60)] (c_mdf_its (d + 6)  e5) jm_mdf_its lk_8_79 (b := 60) rfl (by decide) (jj_E8 rfl) rfl rfl rfl (by omega) rfl (Nat.le_of_ble_eq_true rfl) dX8_voice_51 ?_
      refine jp_8_20 (k := 60) rfl lk_8_280 dX8_voice_54 ?_
      obtain ⟨m6, em6, h⟩ := jj_be h
      refine jj_mu em6 ?_
      refine jj_iload_n dX8_voice_57 2 rfl ?_
      refine jj_if_ne 69 dX8_voice_58 (by decide) (fun c7 => ?_) (fun c7 => ?_)
      · replace h := (if_neg c7).symm.trans h
        refine jj_iload_n dX8_voice_69 2 rfl ?_
        refine jj_iconst (1) dX8_voice_70 rfl ?_
        refine jj_icmp_ne 82 dX8_voice_71 (by decide) (fun c8 => ?_) (fun c8 => ?_)
        · replace h := (if_neg c8).symm.trans h
          refine jj_iload_n dX8_voice_82 2 rfl ?_
          refine jj_iconst (2) dX8_voice_83 rfl ?_
          refine jj_icmp_ne 95 dX8_voice_84 (by decide) (fun c9 => ?_) (fun c9 => ?_)
          · replace h := (if_neg c9).symm.trans h
            refine jj_aload_n dX8_voice_95 0 rfl ?_
            refine jj_iload_n dX8_voice_96 3 rfl ?_
            obtain ⟨q10, e10, h⟩ := jj_be h
            refine jj_callVi [.int x3] [] (c_mdf_tellsBy (d + 0)  e10) jm_mdf_tellsBy lk_8_309 (b := 60) rfl (by decide) (jj_E8 rfl) rfl rfl rfl (by omega) rfl (Nat.le_of_ble_eq_true rfl) dX8_voice_97 ?_
            exact jj_iret2 hF dX8_voice_100 (Option.some.inj h)
          · replace h := (if_pos c9).symm.trans h
            refine jj_aload_n dX8_voice_87 0 rfl ?_
            refine jj_iload_n dX8_voice_88 3 rfl ?_
            obtain ⟨q11, e11, h⟩ := jj_be h
            refine jj_callVi [.int x3] [] (c_mdf_takesBy (d + 4)  e11) jm_mdf_takesBy lk_8_295 (b := 60) rfl (by decide) (jj_E8 rfl) rfl rfl rfl (by omega) rfl (Nat.le_of_ble_eq_true rfl) dX8_voice_89 ?_
            refine jj_goto 100 dX8_voice_92 (by decide) ?_
            exact jj_iret2 hF dX8_voice_100 (Option.some.inj h)
        · replace h := (if_pos c8).symm.trans h
          refine jj_aload_n dX8_voice_74 0 rfl ?_
          refine jj_iload_n dX8_voice_75 3 rfl ?_
          obtain ⟨q12, e12, h⟩ := jj_be h
          refine jj_callVi [.int x3] [] (c_mdf_givesBy (d + 2)  e12) jm_mdf_givesBy lk_8_301 (b := 60) rfl (by decide) (jj_E8 rfl) rfl rfl rfl (by omega) rfl (Nat.le_of_ble_eq_true rfl) dX8_voice_76 ?_
          refine jj_goto 100 dX8_voice_79 (by decide) ?_
          exact jj_iret2 hF dX8_voice_100 (Option.some.inj h)
      · replace h := (if_pos c7).symm.trans h
        refine jj_aload_n dX8_voice_61 0 rfl ?_
        refine jj_iload_n dX8_voice_62 3 rfl ?_
        obtain ⟨q13, e13, h⟩ := jj_be h
        refine jj_callVi [.int x3] [] (c_mdf_readsBy (d + 5)  e13) jm_mdf_readsBy lk_8_289 (b := 60) rfl (by decide) (jj_E8 rfl) rfl rfl rfl (by omega) rfl (Nat.le_of_ble_eq_true rfl) dX8_voice_63 ?_
        refine jj_goto 100 dX8_voice_66 (by decide) ?_
        exact jj_iret2 hF dX8_voice_100 (Option.some.inj h)
    · replace h := (if_pos c3).symm.trans h
      refine jj_aload_n dX8_voice_20 0 rfl ?_
      refine jj_ldc (-1000000001) lk_8_67 dX8_voice_21 ?_
      obtain ⟨q14, e14, h⟩ := jj_be h
      refine jj_callVi [.int (-1000000001)] [] (c_mdf_errs (d + 7)  e14) jm_mdf_errs lk_8_68 (b := 60) rfl (by decide) (jj_E8 rfl) rfl rfl rfl (by omega) rfl (Nat.le_of_ble_eq_true rfl) dX8_voice_23 ?_
      exact jj_iret2 hF dX8_voice_26 (Option.some.inj h)
def mdf_trace  (x1 : Int32) (μ : jj_M) : Option (Int32 × jj_M) := if (mdf_in (Int32.toInt64 x1) 0 (Int32.toInt64 ((μ 60 17) - 1))) = 0 then (mdf_errs (-1000000002) μ).bind fun q2 => some ((q2.1, q2.2)) else if jj_i x1 40 then some ((μ 67 x1.toNatClampNeg, μ)) else none
set_option maxRecDepth 100000 in
theorem c_mdf_trace {g : jj_G} (d : Nat)  {x1 : Int32} {μ : jj_M} {r : Int32} {μ' : jj_M}   (h : mdf_trace x1 μ = some (r, μ')) : jj_N g yX8_trace cX8_trace 2 (some .int) (d + 1) [.ref (jj_ad g 60), .int x1] μ (some (.int r)) μ' := by
  refine jj_N_of jn_8 (Nat.le_of_ble_eq_true rfl) (fun X hF => ?_)
  unfold mdf_trace at h
  refine jj_sub (own := RX8) (lv2 := [(0, .ref (jj_ad g 60)), (1, .int x1)]) [0, 1] rfl ?_
  refine jj_iload_n dX8_trace_0 1 rfl ?_
  refine jj_i2l dX8_trace_1 ?_
  refine jj_lconst (0) dX8_trace_2 rfl ?_
  refine jj_aload_n dX8_trace_3 0 rfl ?_
  refine jg_8_17 (k := 60) rfl lk_8_265 dX8_trace_4 ?_
  refine jj_iconst (1) dX8_trace_7 rfl ?_
  refine jj_isub dX8_trace_8 ?_
  refine jj_i2l dX8_trace_9 ?_
  refine jj_callSi [.long (Int32.toInt64 x1), .long 0, .long (Int32.toInt64 ((μ 60 17) - 1))] [] (c_mdf_in (d + 0)  rfl) jm_mdf_in lk_8_46 rfl (by omega) rfl (Nat.le_of_ble_eq_true rfl) dX8_trace_10 ?_
  refine jj_if_eq 25 dX8_trace_13 (by decide) (fun c1 => ?_) (fun c1 => ?_)
  · replace h := (if_pos c1).symm.trans h
    refine jj_aload_n dX8_trace_25 0 rfl ?_
    refine jj_ldc (-1000000002) lk_8_249 dX8_trace_26 ?_
    obtain ⟨q2, e2, h⟩ := jj_be h
    refine jj_callVi [.int (-1000000002)] [] (c_mdf_errs (d + 0)  e2) jm_mdf_errs lk_8_68 (b := 60) rfl (by decide) (jj_E8 rfl) rfl rfl rfl (by omega) rfl (Nat.le_of_ble_eq_true rfl) dX8_trace_28 ?_
    exact jj_iret2 hF dX8_trace_31 (Option.some.inj h)
  · replace h := (if_neg c1).symm.trans h
    refine jj_aload_n dX8_trace_16 0 rfl ?_
    refine jg_8_16 (k := 60) rfl lk_8_28 dX8_trace_17 ?_
    show jj_V g X _ _ _ _ _ _ (.ref (jj_ad g 67) :: _) _
    refine jj_iload_n dX8_trace_20 1 rfl ?_
    obtain ⟨g3, h⟩ := jj_ge h
    refine jj_iaload (k := 67) (n := 40) rfl g3 dX8_trace_21 ?_
    refine jj_goto 31 dX8_trace_22 (by decide) ?_
    exact jj_iret2 hF dX8_trace_31 (Option.some.inj h)
def mdf_sheet_L93 (N : Nat)  (x1 : Int32) : Nat → Int32 → jj_M → Option (Int32 × jj_M)
  | 0, _, _ => none
  | n + 1, x4, μ => if 40 ≤ x4 then some ((1, μ)) else if jj_i ((40 * x1) + x4) 160 then mdf_sheet_L93 N x1 n (x4 + 1) (jj_u μ 70 ((40 * x1) + x4).toNatClampNeg 0) else none
set_option maxRecDepth 100000 in
theorem t_mdf_sheet_L93 {g : jj_G} (d : Nat) {N : Nat}  {x1 : Int32}  {r : Int32} {μ' : jj_M} {X : jj_X}   (hF : jj_F g (some .int) (some (.int r)) μ' X)  : ∀ (n : Nat) (x4 : Int32) (μ : jj_M), mdf_sheet_L93 N x1 n x4 μ = some (r, μ') → jj_V g X RX8 cX8_sheet 5 (d + 2) 93 [(0, .ref (jj_ad g 60)), (1, .int x1), (4, .int x4)] [] μ := by
  intro n
  induction n with
  | zero =>
    intro x4 μ h
    exact (jj_no h).elim
  | succ n ih =>
    intro x4 μ h
    rw [mdf_sheet_L93] at h
    refine jj_iload dX8_sheet_93 2 rfl ?_
    refine jj_bipush (40) dX8_sheet_95 rfl ?_
    refine jj_icmp_ge 119 dX8_sheet_97 (by decide) (fun c1 => ?_) (fun c1 => ?_)
    · replace h := (if_pos c1).symm.trans h
      refine jj_iconst (1) dX8_sheet_119 rfl ?_
      exact jj_iret2 hF dX8_sheet_120 (Option.some.inj h)
    · replace h := (if_neg c1).symm.trans h
      refine jj_aload_n dX8_sheet_100 0 rfl ?_
      refine jg_8_23 (k := 60) rfl lk_8_37 dX8_sheet_101 ?_
      show jj_V g X _ _ _ _ _ _ (.ref (jj_ad g 70) :: _) _
      refine jj_bipush (40) dX8_sheet_104 rfl ?_
      refine jj_iload_n dX8_sheet_106 1 rfl ?_
      refine jj_imul dX8_sheet_107 ?_
      refine jj_iload dX8_sheet_108 2 rfl ?_
      refine jj_iadd dX8_sheet_110 ?_
      refine jj_iconst (0) dX8_sheet_111 rfl ?_
      obtain ⟨g2, h⟩ := jj_ge h
      refine jj_iastore (k := 70) (n := 160) rfl g2 dX8_sheet_112 ?_
      refine jj_iinc (x4 + 1) [(4, .int (x4 + 1)), (0, .ref (jj_ad g 60)), (1, .int x1)] dX8_sheet_113 2 rfl rfl (by decide) rfl ?_
      refine jj_goto 93 dX8_sheet_116 (by decide) ?_
      refine jj_sub [1, 2, 0] rfl ?_
      exact ih _ _ h
def mdf_sheet_B68 (N : Nat)  (x1 : Int32) (x2 : Int32) (x3 : Int32) (μ : jj_M) : Option (Int32 × jj_M) := if jj_i x1 4 then if x2 = 0 then if jj_i x1 4 then mdf_sheet_L93 N x1 N 0 (jj_u (jj_u μ 68 x1.toNatClampNeg x2) 69 x1.toNatClampNeg 0) else none else if jj_i x1 4 then mdf_sheet_L93 N x1 N 0 (jj_u (jj_u μ 68 x1.toNatClampNeg x2) 69 x1.toNatClampNeg x3) else none else none
set_option maxRecDepth 100000 in
theorem t_mdf_sheet_B68 {g : jj_G} (d : Nat) {N : Nat}  {x1 : Int32} {x2 : Int32} {x3 : Int32} {μ : jj_M}  {r : Int32} {μ' : jj_M} {X : jj_X}   (hF : jj_F g (some .int) (some (.int r)) μ' X)  (h : mdf_sheet_B68 N x1 x2 x3 μ = some (r, μ')) : jj_V g X RX8 cX8_sheet 5 (d + 2) 68 [(0, .ref (jj_ad g 60)), (1, .int x1), (2, .int x2), (3, .int x3)] [] μ := by
  unfold mdf_sheet_B68 at h
  refine jj_aload_n dX8_sheet_68 0 rfl ?_
  refine jg_8_21 (k := 60) rfl lk_8_31 dX8_sheet_69 ?_
  show jj_V g X _ _ _ _ _ _ (.ref (jj_ad g 68) :: _) _
  refine jj_iload_n dX8_sheet_72 1 rfl ?_
  refine jj_iload_n dX8_sheet_73 2 rfl ?_
  obtain ⟨g1, h⟩ := jj_ge h
  refine jj_iastore (k := 68) (n := 4) rfl g1 dX8_sheet_74 ?_
  refine jj_aload_n dX8_sheet_75 0 rfl ?_
  refine jg_8_22 (k := 60) rfl lk_8_34 dX8_sheet_76 ?_
  show jj_V g X _ _ _ _ _ _ (.ref (jj_ad g 69) :: _) _
  refine jj_iload_n dX8_sheet_79 1 rfl ?_
  refine jj_iload_n dX8_sheet_80 2 rfl ?_
  refine jj_if_ne 88 dX8_sheet_81 (by decide) (fun c2 => ?_) (fun c2 => ?_)
  · replace h := (if_neg c2).symm.trans h
    refine jj_iload_n dX8_sheet_88 3 rfl ?_
    obtain ⟨g3, h⟩ := jj_ge h
    refine jj_iastore (k := 69) (n := 4) rfl g3 dX8_sheet_89 ?_
    refine jj_iconst (0) dX8_sheet_90 rfl ?_
    refine jj_istore [(4, .int 0), (0, .ref (jj_ad g 60)), (1, .int x1), (2, .int x2), (3, .int x3)] dX8_sheet_91 (by decide) rfl ?_
    refine jj_sub [1, 2, 0] rfl ?_
    exact t_mdf_sheet_L93 d   hF  _ _ _ h
  · replace h := (if_pos c2).symm.trans h
    refine jj_iconst (0) dX8_sheet_84 rfl ?_
    refine jj_goto 89 dX8_sheet_85 (by decide) ?_
    obtain ⟨g4, h⟩ := jj_ge h
    refine jj_iastore (k := 69) (n := 4) rfl g4 dX8_sheet_89 ?_
    refine jj_iconst (0) dX8_sheet_90 rfl ?_
    refine jj_istore [(4, .int 0), (0, .ref (jj_ad g 60)), (1, .int x1), (2, .int x2), (3, .int x3)] dX8_sheet_91 (by decide) rfl ?_
    refine jj_sub [1, 2, 0] rfl ?_
    exact t_mdf_sheet_L93 d   hF  _ _ _ h
def mdf_sheet_B36 (N : Nat)  (x1 : Int32) (x2 : Int32) (x3 : Int32) (μ : jj_M) : Option (Int32 × jj_M) := if x2 = 0 then if x2 = 0 then mdf_sheet_B68 N x1 x2 x3 μ else if x3 ≤ 40 then mdf_sheet_B68 N x1 x2 x3 μ else (mdf_errs (-1000000001) μ).bind fun q4 => some ((q4.1, q4.2)) else if 0 ≤ x3 then if x2 = 0 then mdf_sheet_B68 N x1 x2 x3 μ else if x3 ≤ 40 then mdf_sheet_B68 N x1 x2 x3 μ else (mdf_errs (-1000000001) μ).bind fun q8 => some ((q8.1, q8.2)) else (mdf_errs (-1000000003) μ).bind fun q9 => some ((q9.1, q9.2))
set_option maxRecDepth 100000 in
theorem t_mdf_sheet_B36 {g : jj_G} (d : Nat) {N : Nat}  {x1 : Int32} {x2 : Int32} {x3 : Int32} {μ : jj_M}  {r : Int32} {μ' : jj_M} {X : jj_X}   (hF : jj_F g (some .int) (some (.int r)) μ' X)  (h : mdf_sheet_B36 N x1 x2 x3 μ = some (r, μ')) : jj_V g X RX8 cX8_sheet 5 (d + 2) 36 [(0, .ref (jj_ad g 60)), (1, .int x1), (2, .int x2), (3, .int x3)] [] μ := by
  unfold mdf_sheet_B36 at h
  refine jj_iload_n dX8_sheet_36 2 rfl ?_
  refine jj_if_eq 51 dX8_sheet_37 (by decide) (fun c1 => ?_) (fun c1 => ?_)
  · replace h := (if_pos c1).symm.trans h
    refine jj_iload_n dX8_sheet_51 2 rfl ?_
    refine jj_if_eq 68 dX8_sheet_52 (by decide) (fun c2 => ?_) (fun c2 => ?_)
    · replace h := (if_pos c2).symm.trans h
      refine jj_sub [0, 1, 2, 3] rfl ?_
      exact t_mdf_sheet_B68 d   hF  h
    · replace h := (if_neg c2).symm.trans h
      refine jj_iload_n dX8_sheet_55 3 rfl ?_
      refine jj_bipush (40) dX8_sheet_56 rfl ?_
      refine jj_icmp_le 68 dX8_sheet_58 (by decide) (fun c3 => ?_) (fun c3 => ?_)
      · replace h := (if_pos c3).symm.trans h
        refine jj_sub [0, 1, 2, 3] rfl ?_
        exact t_mdf_sheet_B68 d   hF  h
      · replace h := (if_neg c3).symm.trans h
        refine jj_aload_n dX8_sheet_61 0 rfl ?_
        refine jj_ldc (-1000000001) lk_8_67 dX8_sheet_62 ?_
        obtain ⟨q4, e4, h⟩ := jj_be h
        refine jj_callVi [.int (-1000000001)] [] (c_mdf_errs (d + 1)  e4) jm_mdf_errs lk_8_68 (b := 60) rfl (by decide) (jj_E8 rfl) rfl rfl rfl (by omega) rfl (Nat.le_of_ble_eq_true rfl) dX8_sheet_64 ?_
        exact jj_iret2 hF dX8_sheet_67 (Option.some.inj h)
  · replace h := (if_neg c1).symm.trans h
    refine jj_iload_n dX8_sheet_40 3 rfl ?_
    refine jj_if_ge 51 dX8_sheet_41 (by decide) (fun c5 => ?_) (fun c5 => ?_)
    · replace h := (if_pos c5).symm.trans h
      refine jj_iload_n dX8_sheet_51 2 rfl ?_
      refine jj_if_eq 68 dX8_sheet_52 (by decide) (fun c6 => ?_) (fun c6 => ?_)
      · replace h := (if_pos c6).symm.trans h
        refine jj_sub [0, 1, 2, 3] rfl ?_
        exact t_mdf_sheet_B68 d   hF  h
      · replace h := (if_neg c6).symm.trans h
        refine jj_iload_n dX8_sheet_55 3 rfl ?_
        refine jj_bipush (40) dX8_sheet_56 rfl ?_
        refine jj_icmp_le 68 dX8_sheet_58 (by decide) (fun c7 => ?_) (fun c7 => ?_)
        · replace h := (if_pos c7).symm.trans h
          refine jj_sub [0, 1, 2, 3] rfl ?_
          exact t_mdf_sheet_B68 d   hF  h
        · replace h := (if_neg c7).symm.trans h
          refine jj_aload_n dX8_sheet_61 0 rfl ?_
          refine jj_ldc (-1000000001) lk_8_67 dX8_sheet_62 ?_
          obtain ⟨q8, e8, h⟩ := jj_be h
          refine jj_callVi [.int (-1000000001)] [] (c_mdf_errs (d + 1)  e8) jm_mdf_errs lk_8_68 (b := 60) rfl (by decide) (jj_E8 rfl) rfl rfl rfl (by omega) rfl (Nat.le_of_ble_eq_true rfl) dX8_sheet_64 ?_
          exact jj_iret2 hF dX8_sheet_67 (Option.some.inj h)
    · replace h := (if_neg c5).symm.trans h
      refine jj_aload_n dX8_sheet_44 0 rfl ?_
      refine jj_ldc (-1000000003) lk_8_199 dX8_sheet_45 ?_
      obtain ⟨q9, e9, h⟩ := jj_be h
      refine jj_callVi [.int (-1000000003)] [] (c_mdf_errs (d + 1)  e9) jm_mdf_errs lk_8_68 (b := 60) rfl (by decide) (jj_E8 rfl) rfl rfl rfl (by omega) rfl (Nat.le_of_ble_eq_true rfl) dX8_sheet_47 ?_
      exact jj_iret2 hF dX8_sheet_50 (Option.some.inj h)
def mdf_sheet (N : Nat) (x1 : Int32) (x2 : Int32) (x3 : Int32) (μ : jj_M) : Option (Int32 × jj_M) := if (mdf_isSheet x1) = 0 then (mdf_errs (-1000000001) μ).bind fun q2 => some ((q2.1, q2.2)) else if x2 = 0 then mdf_sheet_B36 N x1 x2 x3 μ else if x2 = 8 then mdf_sheet_B36 N x1 x2 x3 μ else if x2 = 16 then mdf_sheet_B36 N x1 x2 x3 μ else if x2 = 32 then mdf_sheet_B36 N x1 x2 x3 μ else (mdf_errs (-1000000001) μ).bind fun q7 => some ((q7.1, q7.2))
set_option maxRecDepth 100000 in
theorem c_mdf_sheet {g : jj_G} (d : Nat) {N : Nat} {x1 : Int32} {x2 : Int32} {x3 : Int32} {μ : jj_M} {r : Int32} {μ' : jj_M}   (h : mdf_sheet N x1 x2 x3 μ = some (r, μ')) : jj_N g yX8_sheet cX8_sheet 5 (some .int) (d + 2) [.ref (jj_ad g 60), .int x1, .int x2, .int x3] μ (some (.int r)) μ' := by
  refine jj_N_of jn_8 (Nat.le_of_ble_eq_true rfl) (fun X hF => ?_)
  unfold mdf_sheet at h
  refine jj_sub (own := RX8) (lv2 := [(0, .ref (jj_ad g 60)), (1, .int x1), (2, .int x2), (3, .int x3)]) [0, 1, 2, 3] rfl ?_
  refine jj_iload_n dX8_sheet_0 1 rfl ?_
  refine jj_callSi [.int x1] [] (c_mdf_isSheet (d + 0)  rfl) jm_mdf_isSheet lk_8_257 rfl (by omega) rfl (Nat.le_of_ble_eq_true rfl) dX8_sheet_1 ?_
  refine jj_if_eq 29 dX8_sheet_4 (by decide) (fun c1 => ?_) (fun c1 => ?_)
  · replace h := (if_pos c1).symm.trans h
    refine jj_aload_n dX8_sheet_29 0 rfl ?_
    refine jj_ldc (-1000000001) lk_8_67 dX8_sheet_30 ?_
    obtain ⟨q2, e2, h⟩ := jj_be h
    refine jj_callVi [.int (-1000000001)] [] (c_mdf_errs (d + 1)  e2) jm_mdf_errs lk_8_68 (b := 60) rfl (by decide) (jj_E8 rfl) rfl rfl rfl (by omega) rfl (Nat.le_of_ble_eq_true rfl) dX8_sheet_32 ?_
    exact jj_iret2 hF dX8_sheet_35 (Option.some.inj h)
  · replace h := (if_neg c1).symm.trans h
    refine jj_iload_n dX8_sheet_7 2 rfl ?_
    refine jj_if_eq 36 dX8_sheet_8 (by decide) (fun c3 => ?_) (fun c3 => ?_)
    · replace h := (if_pos c3).symm.trans h
      refine jj_sub [0, 1, 2, 3] rfl ?_
      exact t_mdf_sheet_B36 d   hF  h
    · replace h := (if_neg c3).symm.trans h
      refine jj_iload_n dX8_sheet_11 2 rfl ?_
      refine jj_bipush (8) dX8_sheet_12 rfl ?_
      refine jj_icmp_eq 36 dX8_sheet_14 (by decide) (fun c4 => ?_) (fun c4 => ?_)
      · replace h := (if_pos c4).symm.trans h
        refine jj_sub [0, 1, 2, 3] rfl ?_
        exact t_mdf_sheet_B36 d   hF  h
      · replace h := (if_neg c4).symm.trans h
        refine jj_iload_n dX8_sheet_17 2 rfl ?_
        refine jj_bipush (16) dX8_sheet_18 rfl ?_
        refine jj_icmp_eq 36 dX8_sheet_20 (by decide) (fun c5 => ?_) (fun c5 => ?_)
        · replace h := (if_pos c5).symm.trans h
          refine jj_sub [0, 1, 2, 3] rfl ?_
          exact t_mdf_sheet_B36 d   hF  h
        · replace h := (if_neg c5).symm.trans h
          refine jj_iload_n dX8_sheet_23 2 rfl ?_
          refine jj_bipush (32) dX8_sheet_24 rfl ?_
          refine jj_icmp_eq 36 dX8_sheet_26 (by decide) (fun c6 => ?_) (fun c6 => ?_)
          · replace h := (if_pos c6).symm.trans h
            refine jj_sub [0, 1, 2, 3] rfl ?_
            exact t_mdf_sheet_B36 d   hF  h
          · replace h := (if_neg c6).symm.trans h
            refine jj_aload_n dX8_sheet_29 0 rfl ?_
            refine jj_ldc (-1000000001) lk_8_67 dX8_sheet_30 ?_
            obtain ⟨q7, e7, h⟩ := jj_be h
            refine jj_callVi [.int (-1000000001)] [] (c_mdf_errs (d + 1)  e7) jm_mdf_errs lk_8_68 (b := 60) rfl (by decide) (jj_E8 rfl) rfl rfl rfl (by omega) rfl (Nat.le_of_ble_eq_true rfl) dX8_sheet_32 ?_
            exact jj_iret2 hF dX8_sheet_35 (Option.some.inj h)
def mdf_wrong  (x1 : Int32) (μ : jj_M) : Option (Int32) := if (mdf_isSheet x1) = 0 then some (-1000000001) else if jj_i x1 4 then if (μ 68 x1.toNatClampNeg) = 0 then some (-1000000002) else some 0 else none
set_option maxRecDepth 100000 in
theorem c_mdf_wrong {g : jj_G} (d : Nat)  {x1 : Int32} {μ : jj_M} {r : Int32}   (h : mdf_wrong x1 μ = some r) : jj_N g yX8_wrong cX8_wrong 2 (some .int) (d + 2) [.ref (jj_ad g 60), .int x1] μ (some (.int r)) μ := by
  refine jj_N_of jn_8 (Nat.le_of_ble_eq_true rfl) (fun X hF => ?_)
  unfold mdf_wrong at h
  refine jj_sub (own := RX8) (lv2 := [(0, .ref (jj_ad g 60)), (1, .int x1)]) [0, 1] rfl ?_
  refine jj_iload_n dX8_wrong_0 1 rfl ?_
  refine jj_callSi [.int x1] [] (c_mdf_isSheet (d + 0)  rfl) jm_mdf_isSheet lk_8_257 rfl (by omega) rfl (Nat.le_of_ble_eq_true rfl) dX8_wrong_1 ?_
  refine jj_if_ne 12 dX8_wrong_4 (by decide) (fun c1 => ?_) (fun c1 => ?_)
  · replace h := (if_neg c1).symm.trans h
    refine jj_aload_n dX8_wrong_12 0 rfl ?_
    refine jg_8_21 (k := 60) rfl lk_8_31 dX8_wrong_13 ?_
    show jj_V g X _ _ _ _ _ _ (.ref (jj_ad g 68) :: _) _
    refine jj_iload_n dX8_wrong_16 1 rfl ?_
    obtain ⟨g2, h⟩ := jj_ge h
    refine jj_iaload (k := 68) (n := 4) rfl g2 dX8_wrong_17 ?_
    refine jj_if_ne 26 dX8_wrong_18 (by decide) (fun c3 => ?_) (fun c3 => ?_)
    · replace h := (if_neg c3).symm.trans h
      refine jj_iconst (0) dX8_wrong_26 rfl ?_
      exact jj_iret1 hF dX8_wrong_27 (Option.some.inj h)
    · replace h := (if_pos c3).symm.trans h
      refine jj_ldc (-1000000002) lk_8_249 dX8_wrong_21 ?_
      refine jj_goto 27 dX8_wrong_23 (by decide) ?_
      exact jj_iret1 hF dX8_wrong_27 (Option.some.inj h)
  · replace h := (if_pos c1).symm.trans h
    refine jj_ldc (-1000000001) lk_8_67 dX8_wrong_7 ?_
    refine jj_goto 27 dX8_wrong_9 (by decide) ?_
    exact jj_iret1 hF dX8_wrong_27 (Option.some.inj h)
def mdf_put_B37   (x1 : Int32) (x2 : Int32) (x3 : Int32) (sx0 : Int32) (μ : jj_M) : Option (Int32 × jj_M) := if sx0 = 0 then if jj_i x1 4 then if (μ 68 x1.toNatClampNeg) = 8 then if jj_i ((40 * x1) + x2) 160 then (some (jj_u μ 70 ((40 * x1) + x2).toNatClampNeg (Int8.toInt32 (Int32.toInt8 x3)))).bind fun m10 => some ((1, m10)) else none else if jj_i x1 4 then if (μ 68 x1.toNatClampNeg) = 16 then if jj_i ((40 * x1) + x2) 160 then (some (jj_u μ 70 ((40 * x1) + x2).toNatClampNeg (Int16.toInt32 (Int32.toInt16 x3)))).bind fun m8 => some ((1, m8)) else none else if jj_i ((40 * x1) + x2) 160 then some ((1, jj_u μ 70 ((40 * x1) + x2).toNatClampNeg x3)) else none else none else none else (mdf_errs sx0 μ).bind fun q11 => some ((q11.1, q11.2))
set_option maxRecDepth 100000 in
theorem t_mdf_put_B37 {g : jj_G} (d : Nat)   {x1 : Int32} {x2 : Int32} {x3 : Int32} {sx0 : Int32} {μ : jj_M}  {r : Int32} {μ' : jj_M} {X : jj_X}   (hF : jj_F g (some .int) (some (.int r)) μ' X)  (h : mdf_put_B37 x1 x2 x3 sx0 μ = some (r, μ')) : jj_V g X RX8 cX8_put 5 (d + 3) 37 [(0, .ref (jj_ad g 60)), (1, .int x1), (2, .int x2), (3, .int x3)] [.int sx0] μ := by
  unfold mdf_put_B37 at h
  refine jj_istore [(4, .int sx0), (0, .ref (jj_ad g 60)), (1, .int x1), (2, .int x2), (3, .int x3)] dX8_put_37 (by decide) rfl ?_
  refine jj_iload dX8_put_39 0 rfl ?_
  refine jj_if_eq 51 dX8_put_41 (by decide) (fun c1 => ?_) (fun c1 => ?_)
  · replace h := (if_pos c1).symm.trans h
    refine jj_aload_n dX8_put_51 1 rfl ?_
    refine jg_8_23 (k := 60) rfl lk_8_37 dX8_put_52 ?_
    show jj_V g X _ _ _ _ _ _ (.ref (jj_ad g 70) :: _) _
    refine jj_bipush (40) dX8_put_55 rfl ?_
    refine jj_iload_n dX8_put_57 2 rfl ?_
    refine jj_imul dX8_put_58 ?_
    refine jj_iload_n dX8_put_59 3 rfl ?_
    refine jj_iadd dX8_put_60 ?_
    refine jj_aload_n dX8_put_61 1 rfl ?_
    refine jg_8_21 (k := 60) rfl lk_8_31 dX8_put_62 ?_
    show jj_V g X _ _ _ _ _ _ (.ref (jj_ad g 68) :: _) _
    refine jj_iload_n dX8_put_65 2 rfl ?_
    obtain ⟨g2, h⟩ := jj_ge h
    refine jj_iaload (k := 68) (n := 4) rfl g2 dX8_put_66 ?_
    refine jj_bipush (8) dX8_put_67 rfl ?_
    refine jj_icmp_ne 77 dX8_put_69 (by decide) (fun c3 => ?_) (fun c3 => ?_)
    · replace h := (if_neg c3).symm.trans h
      refine jj_aload_n dX8_put_77 1 rfl ?_
      refine jg_8_21 (k := 60) rfl lk_8_31 dX8_put_78 ?_
      show jj_V g X _ _ _ _ _ _ (.ref (jj_ad g 68) :: _) _
      refine jj_iload_n dX8_put_81 2 rfl ?_
      obtain ⟨g4, h⟩ := jj_ge h
      refine jj_iaload (k := 68) (n := 4) rfl g4 dX8_put_82 ?_
      refine jj_bipush (16) dX8_put_83 rfl ?_
      refine jj_icmp_ne 93 dX8_put_85 (by decide) (fun c5 => ?_) (fun c5 => ?_)
      · replace h := (if_neg c5).symm.trans h
        refine jj_iload_n dX8_put_93 4 rfl ?_
        obtain ⟨g6, h⟩ := jj_ge h
        refine jj_iastore (k := 70) (n := 160) rfl g6 dX8_put_94 ?_
        refine jj_iconst (1) dX8_put_95 rfl ?_
        exact jj_iret2 hF dX8_put_96 (Option.some.inj h)
      · replace h := (if_pos c5).symm.trans h
        refine jj_iload_n dX8_put_88 4 rfl ?_
        refine jj_i2s dX8_put_89 ?_
        refine jj_goto 94 dX8_put_90 (by decide) ?_
        obtain ⟨g7, h⟩ := jj_ge h
        refine jj_iastore (k := 70) (n := 160) rfl g7 dX8_put_94 ?_
        obtain ⟨m8, em8, h⟩ := jj_be h
        refine jj_mu em8 ?_
        refine jj_iconst (1) dX8_put_95 rfl ?_
        exact jj_iret2 hF dX8_put_96 (Option.some.inj h)
    · replace h := (if_pos c3).symm.trans h
      refine jj_iload_n dX8_put_72 4 rfl ?_
      refine jj_i2b dX8_put_73 ?_
      refine jj_goto 94 dX8_put_74 (by decide) ?_
      obtain ⟨g9, h⟩ := jj_ge h
      refine jj_iastore (k := 70) (n := 160) rfl g9 dX8_put_94 ?_
      obtain ⟨m10, em10, h⟩ := jj_be h
      refine jj_mu em10 ?_
      refine jj_iconst (1) dX8_put_95 rfl ?_
      exact jj_iret2 hF dX8_put_96 (Option.some.inj h)
  · replace h := (if_neg c1).symm.trans h
    refine jj_aload_n dX8_put_44 1 rfl ?_
    refine jj_iload dX8_put_45 0 rfl ?_
    obtain ⟨q11, e11, h⟩ := jj_be h
    refine jj_callVi [.int sx0] [] (c_mdf_errs (d + 2)  e11) jm_mdf_errs lk_8_68 (b := 60) rfl (by decide) (jj_E8 rfl) rfl rfl rfl (by omega) rfl (Nat.le_of_ble_eq_true rfl) dX8_put_47 ?_
    exact jj_iret2 hF dX8_put_50 (Option.some.inj h)
def mdf_put  (x1 : Int32) (x2 : Int32) (x3 : Int32) (μ : jj_M) : Option (Int32 × jj_M) := (mdf_wrong x1 μ).bind fun q1 => if q1 = 0 then if jj_i x1 4 then if (mdf_in (Int32.toInt64 x2) 0 (Int32.toInt64 ((μ 69 x1.toNatClampNeg) - 1))) = 0 then mdf_put_B37 x1 x2 x3 (-1000000001) μ else mdf_put_B37 x1 x2 x3 q1 μ else none else mdf_put_B37 x1 x2 x3 q1 μ
set_option maxRecDepth 100000 in
theorem c_mdf_put {g : jj_G} (d : Nat)  {x1 : Int32} {x2 : Int32} {x3 : Int32} {μ : jj_M} {r : Int32} {μ' : jj_M}   (h : mdf_put x1 x2 x3 μ = some (r, μ')) : jj_N g yX8_put cX8_put 5 (some .int) (d + 3) [.ref (jj_ad g 60), .int x1, .int x2, .int x3] μ (some (.int r)) μ' := by
  refine jj_N_of jn_8 (Nat.le_of_ble_eq_true rfl) (fun X hF => ?_)
  unfold mdf_put at h
  refine jj_sub (own := RX8) (lv2 := [(0, .ref (jj_ad g 60)), (1, .int x1), (2, .int x2), (3, .int x3)]) [0, 1, 2, 3] rfl ?_
  refine jj_aload_n dX8_put_0 0 rfl ?_
  refine jj_iload_n dX8_put_1 1 rfl ?_
  obtain ⟨q1, e1, h⟩ := jj_be h
  refine jj_callVi [.int x1] [] (c_mdf_wrong (d + 0)  e1) jm_mdf_wrong lk_8_312 (b := 60) rfl (by decide) (jj_E8 rfl) rfl rfl rfl (by omega) rfl (Nat.le_of_ble_eq_true rfl) dX8_put_2 ?_
  refine jj_istore [(4, .int q1), (0, .ref (jj_ad g 60)), (1, .int x1), (2, .int x2), (3, .int x3)] dX8_put_5 (by decide) rfl ?_
  refine jj_iload dX8_put_7 0 rfl ?_
  refine jj_if_ne 35 dX8_put_9 (by decide) (fun c2 => ?_) (fun c2 => ?_)
  · replace h := (if_neg c2).symm.trans h
    refine jj_iload dX8_put_35 0 rfl ?_
    refine jj_sub [1, 2, 3, 4] rfl ?_
    exact t_mdf_put_B37 d   hF  h
  · replace h := (if_pos c2).symm.trans h
    refine jj_iload_n dX8_put_12 3 rfl ?_
    refine jj_i2l dX8_put_13 ?_
    refine jj_lconst (0) dX8_put_14 rfl ?_
    refine jj_aload_n dX8_put_15 1 rfl ?_
    refine jg_8_22 (k := 60) rfl lk_8_34 dX8_put_16 ?_
    show jj_V g X _ _ _ _ _ _ (.ref (jj_ad g 69) :: _) _
    refine jj_iload_n dX8_put_19 2 rfl ?_
    obtain ⟨g3, h⟩ := jj_ge h
    refine jj_iaload (k := 69) (n := 4) rfl g3 dX8_put_20 ?_
    refine jj_iconst (1) dX8_put_21 rfl ?_
    refine jj_isub dX8_put_22 ?_
    refine jj_i2l dX8_put_23 ?_
    refine jj_callSi [.long (Int32.toInt64 x2), .long 0, .long (Int32.toInt64 ((μ 69 x1.toNatClampNeg) - 1))] [] (c_mdf_in (d + 2)  rfl) jm_mdf_in lk_8_46 rfl (by omega) rfl (Nat.le_of_ble_eq_true rfl) dX8_put_24 ?_
    refine jj_if_ne 35 dX8_put_27 (by decide) (fun c4 => ?_) (fun c4 => ?_)
    · replace h := (if_neg c4).symm.trans h
      refine jj_iload dX8_put_35 0 rfl ?_
      refine jj_sub [1, 2, 3, 4] rfl ?_
      exact t_mdf_put_B37 d   hF  h
    · replace h := (if_pos c4).symm.trans h
      refine jj_ldc (-1000000001) lk_8_67 dX8_put_30 ?_
      refine jj_goto 37 dX8_put_32 (by decide) ?_
      refine jj_sub [1, 2, 3, 4] rfl ?_
      exact t_mdf_put_B37 d   hF  h
def mdf_move_L156 (N : Nat)  (x3 : Int32) (x4 : Int32) (x5 : Int32) : Nat → Int32 → jj_M → Option (Int32 × jj_M)
  | 0, _, _ => none
  | n + 1, x6, μ => if x5 ≤ x6 then some ((x5, μ)) else if jj_i x6 40 then if jj_i (((40 * x3) + x4) + x6) 160 then (some (jj_u μ 70 (((40 * x3) + x4) + x6).toNatClampNeg (μ 71 x6.toNatClampNeg))).bind fun m4 => mdf_move_L156 N x3 x4 x5 n (x6 + 1) m4 else none else none
set_option maxRecDepth 100000 in
theorem t_mdf_move_L156 {g : jj_G} (d : Nat) {N : Nat}  {x3 : Int32} {x4 : Int32} {x5 : Int32}  {r : Int32} {μ' : jj_M} {X : jj_X}   (hF : jj_F g (some .int) (some (.int r)) μ' X)  : ∀ (n : Nat) (x6 : Int32) (μ : jj_M), mdf_move_L156 N x3 x4 x5 n x6 μ = some (r, μ') → jj_V g X RX8 cX8_move 7 (d + 2) 156 [(0, .ref (jj_ad g 60)), (3, .int x3), (4, .int x4), (5, .int x5), (6, .int x6)] [] μ := by
  intro n
  induction n with
  | zero =>
    intro x6 μ h
    exact (jj_no h).elim
  | succ n ih =>
    intro x6 μ h
    rw [mdf_move_L156] at h
    refine jj_iload dX8_move_156 4 rfl ?_
    refine jj_iload dX8_move_158 3 rfl ?_
    refine jj_icmp_ge 191 dX8_move_160 (by decide) (fun c1 => ?_) (fun c1 => ?_)
    · replace h := (if_pos c1).symm.trans h
      refine jj_iload dX8_move_191 3 rfl ?_
      exact jj_iret2 hF dX8_move_193 (Option.some.inj h)
    · replace h := (if_neg c1).symm.trans h
      refine jj_aload_n dX8_move_163 0 rfl ?_
      refine jg_8_23 (k := 60) rfl lk_8_37 dX8_move_164 ?_
      show jj_V g X _ _ _ _ _ _ (.ref (jj_ad g 70) :: _) _
      refine jj_bipush (40) dX8_move_167 rfl ?_
      refine jj_iload_n dX8_move_169 1 rfl ?_
      refine jj_imul dX8_move_170 ?_
      refine jj_iload dX8_move_171 2 rfl ?_
      refine jj_iadd dX8_move_173 ?_
      refine jj_iload dX8_move_174 4 rfl ?_
      refine jj_iadd dX8_move_176 ?_
      refine jj_aload_n dX8_move_177 0 rfl ?_
      refine jg_8_24 (k := 60) rfl lk_8_40 dX8_move_178 ?_
      show jj_V g X _ _ _ _ _ _ (.ref (jj_ad g 71) :: _) _
      refine jj_iload dX8_move_181 4 rfl ?_
      obtain ⟨g2, h⟩ := jj_ge h
      refine jj_iaload (k := 71) (n := 40) rfl g2 dX8_move_183 ?_
      obtain ⟨g3, h⟩ := jj_ge h
      refine jj_iastore (k := 70) (n := 160) rfl g3 dX8_move_184 ?_
      obtain ⟨m4, em4, h⟩ := jj_be h
      refine jj_mu em4 ?_
      refine jj_iinc (x6 + 1) [(6, .int (x6 + 1)), (0, .ref (jj_ad g 60)), (3, .int x3), (4, .int x4), (5, .int x5)] dX8_move_185 4 rfl rfl (by decide) rfl ?_
      refine jj_goto 156 dX8_move_188 (by decide) ?_
      refine jj_sub [1, 2, 3, 4, 0] rfl ?_
      exact ih _ _ h
def mdf_move_L119 (N : Nat)  (x1 : Int32) (x2 : Int32) (x3 : Int32) (x4 : Int32) (x5 : Int32) : Nat → Int32 → jj_M → Option (Int32 × jj_M)
  | 0, _, _ => none
  | n + 1, x6, μ => if x5 ≤ x6 then mdf_move_L156 N x3 x4 x5 N 0 μ else if jj_i (((40 * x1) + x2) + x6) 160 then if jj_i x6 40 then (some (jj_u μ 71 x6.toNatClampNeg (μ 70 (((40 * x1) + x2) + x6).toNatClampNeg))).bind fun m4 => mdf_move_L119 N x1 x2 x3 x4 x5 n (x6 + 1) m4 else none else none
set_option maxRecDepth 100000 in
theorem t_mdf_move_L119 {g : jj_G} (d : Nat) {N : Nat}  {x1 : Int32} {x2 : Int32} {x3 : Int32} {x4 : Int32} {x5 : Int32}  {r : Int32} {μ' : jj_M} {X : jj_X}   (hF : jj_F g (some .int) (some (.int r)) μ' X)  : ∀ (n : Nat) (x6 : Int32) (μ : jj_M), mdf_move_L119 N x1 x2 x3 x4 x5 n x6 μ = some (r, μ') → jj_V g X RX8 cX8_move 7 (d + 2) 119 [(0, .ref (jj_ad g 60)), (1, .int x1), (2, .int x2), (3, .int x3), (4, .int x4), (5, .int x5), (6, .int x6)] [] μ := by
  intro n
  induction n with
  | zero =>
    intro x6 μ h
    exact (jj_no h).elim
  | succ n ih =>
    intro x6 μ h
    rw [mdf_move_L119] at h
    refine jj_iload dX8_move_119 6 rfl ?_
    refine jj_iload dX8_move_121 5 rfl ?_
    refine jj_icmp_ge 153 dX8_move_123 (by decide) (fun c1 => ?_) (fun c1 => ?_)
    · replace h := (if_pos c1).symm.trans h
      refine jj_iconst (0) dX8_move_153 rfl ?_
      refine jj_istore [(6, .int 0), (0, .ref (jj_ad g 60)), (1, .int x1), (2, .int x2), (3, .int x3), (4, .int x4), (5, .int x5)] dX8_move_154 (by decide) rfl ?_
      refine jj_sub [1, 4, 5, 6, 0] rfl ?_
      exact t_mdf_move_L156 d   hF  _ _ _ h
    · replace h := (if_neg c1).symm.trans h
      refine jj_aload_n dX8_move_126 0 rfl ?_
      refine jg_8_24 (k := 60) rfl lk_8_40 dX8_move_127 ?_
      show jj_V g X _ _ _ _ _ _ (.ref (jj_ad g 71) :: _) _
      refine jj_iload dX8_move_130 6 rfl ?_
      refine jj_aload_n dX8_move_132 0 rfl ?_
      refine jg_8_23 (k := 60) rfl lk_8_37 dX8_move_133 ?_
      show jj_V g X _ _ _ _ _ _ (.ref (jj_ad g 70) :: _) _
      refine jj_bipush (40) dX8_move_136 rfl ?_
      refine jj_iload_n dX8_move_138 1 rfl ?_
      refine jj_imul dX8_move_139 ?_
      refine jj_iload_n dX8_move_140 2 rfl ?_
      refine jj_iadd dX8_move_141 ?_
      refine jj_iload dX8_move_142 6 rfl ?_
      refine jj_iadd dX8_move_144 ?_
      obtain ⟨g2, h⟩ := jj_ge h
      refine jj_iaload (k := 70) (n := 160) rfl g2 dX8_move_145 ?_
      obtain ⟨g3, h⟩ := jj_ge h
      refine jj_iastore (k := 71) (n := 40) rfl g3 dX8_move_146 ?_
      obtain ⟨m4, em4, h⟩ := jj_be h
      refine jj_mu em4 ?_
      refine jj_iinc (x6 + 1) [(6, .int (x6 + 1)), (0, .ref (jj_ad g 60)), (1, .int x1), (2, .int x2), (3, .int x3), (4, .int x4), (5, .int x5)] dX8_move_147 6 rfl rfl (by decide) rfl ?_
      refine jj_goto 119 dX8_move_150 (by decide) ?_
      refine jj_sub [1, 2, 3, 4, 5, 6, 0] rfl ?_
      exact ih _ _ h
def mdf_move (N : Nat) (x1 : Int32) (x2 : Int32) (x3 : Int32) (x4 : Int32) (x5 : Int32) (μ : jj_M) : Option (Int32 × jj_M) := if (mdf_isSheet x1) = 0 then (mdf_errs (-1000000001) μ).bind fun q2 => some ((q2.1, q2.2)) else if (mdf_isSheet x3) = 0 then (mdf_errs (-1000000001) μ).bind fun q26 => some ((q26.1, q26.2)) else if jj_i x1 4 then if (μ 68 x1.toNatClampNeg) = 0 then (mdf_errs (-1000000002) μ).bind fun q6 => some ((q6.1, q6.2)) else if jj_i x3 4 then if (μ 68 x3.toNatClampNeg) = 0 then (mdf_errs (-1000000002) μ).bind fun q25 => some ((q25.1, q25.2)) else if jj_i x1 4 then if jj_i x3 4 then if (μ 68 x1.toNatClampNeg) = (μ 68 x3.toNatClampNeg) then if x2 < 0 then (mdf_errs (-1000000001) μ).bind fun q13 => some ((q13.1, q13.2)) else if x4 < 0 then (mdf_errs (-1000000001) μ).bind fun q15 => some ((q15.1, q15.2)) else if x5 < 0 then (mdf_errs (-1000000001) μ).bind fun q17 => some ((q17.1, q17.2)) else if jj_i x1 4 then if ((μ 69 x1.toNatClampNeg) - x2) < x5 then (mdf_errs (-1000000001) μ).bind fun q20 => some ((q20.1, q20.2)) else if jj_i x3 4 then if x5 ≤ ((μ 69 x3.toNatClampNeg) - x4) then mdf_move_L119 N x1 x2 x3 x4 x5 N 0 μ else (mdf_errs (-1000000001) μ).bind fun q23 => some ((q23.1, q23.2)) else none else none else (mdf_errs (-1000000005) μ).bind fun q24 => some ((q24.1, q24.2)) else none else none else none else none
set_option maxRecDepth 100000 in
theorem c_mdf_move {g : jj_G} (d : Nat) {N : Nat} {x1 : Int32} {x2 : Int32} {x3 : Int32} {x4 : Int32} {x5 : Int32} {μ : jj_M} {r : Int32} {μ' : jj_M}   (h : mdf_move N x1 x2 x3 x4 x5 μ = some (r, μ')) : jj_N g yX8_move cX8_move 7 (some .int) (d + 2) [.ref (jj_ad g 60), .int x1, .int x2, .int x3, .int x4, .int x5] μ (some (.int r)) μ' := by
  refine jj_N_of jn_8 (Nat.le_of_ble_eq_true rfl) (fun X hF => ?_)
  unfold mdf_move at h
  refine jj_sub (own := RX8) (lv2 := [(0, .ref (jj_ad g 60)), (1, .int x1), (2, .int x2), (3, .int x3), (4, .int x4), (5, .int x5)]) [0, 1, 2, 3, 4, 5] rfl ?_
  refine jj_iload_n dX8_move_0 1 rfl ?_
  refine jj_callSi [.int x1] [] (c_mdf_isSheet (d + 0)  rfl) jm_mdf_isSheet lk_8_257 rfl (by omega) rfl (Nat.le_of_ble_eq_true rfl) dX8_move_1 ?_
  refine jj_if_eq 14 dX8_move_4 (by decide) (fun c1 => ?_) (fun c1 => ?_)
  · replace h := (if_pos c1).symm.trans h
    refine jj_aload_n dX8_move_14 0 rfl ?_
    refine jj_ldc (-1000000001) lk_8_67 dX8_move_15 ?_
    obtain ⟨q2, e2, h⟩ := jj_be h
    refine jj_callVi [.int (-1000000001)] [] (c_mdf_errs (d + 1)  e2) jm_mdf_errs lk_8_68 (b := 60) rfl (by decide) (jj_E8 rfl) rfl rfl rfl (by omega) rfl (Nat.le_of_ble_eq_true rfl) dX8_move_17 ?_
    exact jj_iret2 hF dX8_move_20 (Option.some.inj h)
  · replace h := (if_neg c1).symm.trans h
    refine jj_iload_n dX8_move_7 3 rfl ?_
    refine jj_callSi [.int x3] [] (c_mdf_isSheet (d + 0)  rfl) jm_mdf_isSheet lk_8_257 rfl (by omega) rfl (Nat.le_of_ble_eq_true rfl) dX8_move_8 ?_
    refine jj_if_ne 21 dX8_move_11 (by decide) (fun c3 => ?_) (fun c3 => ?_)
    · replace h := (if_neg c3).symm.trans h
      refine jj_aload_n dX8_move_21 0 rfl ?_
      refine jg_8_21 (k := 60) rfl lk_8_31 dX8_move_22 ?_
      show jj_V g X _ _ _ _ _ _ (.ref (jj_ad g 68) :: _) _
      refine jj_iload_n dX8_move_25 1 rfl ?_
      obtain ⟨g4, h⟩ := jj_ge h
      refine jj_iaload (k := 68) (n := 4) rfl g4 dX8_move_26 ?_
      refine jj_if_eq 39 dX8_move_27 (by decide) (fun c5 => ?_) (fun c5 => ?_)
      · replace h := (if_pos c5).symm.trans h
        refine jj_aload_n dX8_move_39 0 rfl ?_
        refine jj_ldc (-1000000002) lk_8_249 dX8_move_40 ?_
        obtain ⟨q6, e6, h⟩ := jj_be h
        refine jj_callVi [.int (-1000000002)] [] (c_mdf_errs (d + 1)  e6) jm_mdf_errs lk_8_68 (b := 60) rfl (by decide) (jj_E8 rfl) rfl rfl rfl (by omega) rfl (Nat.le_of_ble_eq_true rfl) dX8_move_42 ?_
        exact jj_iret2 hF dX8_move_45 (Option.some.inj h)
      · replace h := (if_neg c5).symm.trans h
        refine jj_aload_n dX8_move_30 0 rfl ?_
        refine jg_8_21 (k := 60) rfl lk_8_31 dX8_move_31 ?_
        show jj_V g X _ _ _ _ _ _ (.ref (jj_ad g 68) :: _) _
        refine jj_iload_n dX8_move_34 3 rfl ?_
        obtain ⟨g7, h⟩ := jj_ge h
        refine jj_iaload (k := 68) (n := 4) rfl g7 dX8_move_35 ?_
        refine jj_if_ne 46 dX8_move_36 (by decide) (fun c8 => ?_) (fun c8 => ?_)
        · replace h := (if_neg c8).symm.trans h
          refine jj_aload_n dX8_move_46 0 rfl ?_
          refine jg_8_21 (k := 60) rfl lk_8_31 dX8_move_47 ?_
          show jj_V g X _ _ _ _ _ _ (.ref (jj_ad g 68) :: _) _
          refine jj_iload_n dX8_move_50 1 rfl ?_
          obtain ⟨g9, h⟩ := jj_ge h
          refine jj_iaload (k := 68) (n := 4) rfl g9 dX8_move_51 ?_
          refine jj_aload_n dX8_move_52 0 rfl ?_
          refine jg_8_21 (k := 60) rfl lk_8_31 dX8_move_53 ?_
          show jj_V g X _ _ _ _ _ _ (.ref (jj_ad g 68) :: _) _
          refine jj_iload_n dX8_move_56 3 rfl ?_
          obtain ⟨g10, h⟩ := jj_ge h
          refine jj_iaload (k := 68) (n := 4) rfl g10 dX8_move_57 ?_
          refine jj_icmp_eq 68 dX8_move_58 (by decide) (fun c11 => ?_) (fun c11 => ?_)
          · replace h := (if_pos c11).symm.trans h
            refine jj_iload_n dX8_move_68 2 rfl ?_
            refine jj_if_lt 109 dX8_move_69 (by decide) (fun c12 => ?_) (fun c12 => ?_)
            · replace h := (if_pos c12).symm.trans h
              refine jj_aload_n dX8_move_109 0 rfl ?_
              refine jj_ldc (-1000000001) lk_8_67 dX8_move_110 ?_
              obtain ⟨q13, e13, h⟩ := jj_be h
              refine jj_callVi [.int (-1000000001)] [] (c_mdf_errs (d + 1)  e13) jm_mdf_errs lk_8_68 (b := 60) rfl (by decide) (jj_E8 rfl) rfl rfl rfl (by omega) rfl (Nat.le_of_ble_eq_true rfl) dX8_move_112 ?_
              exact jj_iret2 hF dX8_move_115 (Option.some.inj h)
            · replace h := (if_neg c12).symm.trans h
              refine jj_iload dX8_move_72 4 rfl ?_
              refine jj_if_lt 109 dX8_move_74 (by decide) (fun c14 => ?_) (fun c14 => ?_)
              · replace h := (if_pos c14).symm.trans h
                refine jj_aload_n dX8_move_109 0 rfl ?_
                refine jj_ldc (-1000000001) lk_8_67 dX8_move_110 ?_
                obtain ⟨q15, e15, h⟩ := jj_be h
                refine jj_callVi [.int (-1000000001)] [] (c_mdf_errs (d + 1)  e15) jm_mdf_errs lk_8_68 (b := 60) rfl (by decide) (jj_E8 rfl) rfl rfl rfl (by omega) rfl (Nat.le_of_ble_eq_true rfl) dX8_move_112 ?_
                exact jj_iret2 hF dX8_move_115 (Option.some.inj h)
              · replace h := (if_neg c14).symm.trans h
                refine jj_iload dX8_move_77 5 rfl ?_
                refine jj_if_lt 109 dX8_move_79 (by decide) (fun c16 => ?_) (fun c16 => ?_)
                · replace h := (if_pos c16).symm.trans h
                  refine jj_aload_n dX8_move_109 0 rfl ?_
                  refine jj_ldc (-1000000001) lk_8_67 dX8_move_110 ?_
                  obtain ⟨q17, e17, h⟩ := jj_be h
                  refine jj_callVi [.int (-1000000001)] [] (c_mdf_errs (d + 1)  e17) jm_mdf_errs lk_8_68 (b := 60) rfl (by decide) (jj_E8 rfl) rfl rfl rfl (by omega) rfl (Nat.le_of_ble_eq_true rfl) dX8_move_112 ?_
                  exact jj_iret2 hF dX8_move_115 (Option.some.inj h)
                · replace h := (if_neg c16).symm.trans h
                  refine jj_iload dX8_move_82 5 rfl ?_
                  refine jj_aload_n dX8_move_84 0 rfl ?_
                  refine jg_8_22 (k := 60) rfl lk_8_34 dX8_move_85 ?_
                  show jj_V g X _ _ _ _ _ _ (.ref (jj_ad g 69) :: _) _
                  refine jj_iload_n dX8_move_88 1 rfl ?_
                  obtain ⟨g18, h⟩ := jj_ge h
                  refine jj_iaload (k := 69) (n := 4) rfl g18 dX8_move_89 ?_
                  refine jj_iload_n dX8_move_90 2 rfl ?_
                  refine jj_isub dX8_move_91 ?_
                  refine jj_icmp_gt 109 dX8_move_92 (by decide) (fun c19 => ?_) (fun c19 => ?_)
                  · replace h := (if_pos c19).symm.trans h
                    refine jj_aload_n dX8_move_109 0 rfl ?_
                    refine jj_ldc (-1000000001) lk_8_67 dX8_move_110 ?_
                    obtain ⟨q20, e20, h⟩ := jj_be h
                    refine jj_callVi [.int (-1000000001)] [] (c_mdf_errs (d + 1)  e20) jm_mdf_errs lk_8_68 (b := 60) rfl (by decide) (jj_E8 rfl) rfl rfl rfl (by omega) rfl (Nat.le_of_ble_eq_true rfl) dX8_move_112 ?_
                    exact jj_iret2 hF dX8_move_115 (Option.some.inj h)
                  · replace h := (if_neg c19).symm.trans h
                    refine jj_iload dX8_move_95 5 rfl ?_
                    refine jj_aload_n dX8_move_97 0 rfl ?_
                    refine jg_8_22 (k := 60) rfl lk_8_34 dX8_move_98 ?_
                    show jj_V g X _ _ _ _ _ _ (.ref (jj_ad g 69) :: _) _
                    refine jj_iload_n dX8_move_101 3 rfl ?_
                    obtain ⟨g21, h⟩ := jj_ge h
                    refine jj_iaload (k := 69) (n := 4) rfl g21 dX8_move_102 ?_
                    refine jj_iload dX8_move_103 4 rfl ?_
                    refine jj_isub dX8_move_105 ?_
                    refine jj_icmp_le 116 dX8_move_106 (by decide) (fun c22 => ?_) (fun c22 => ?_)
                    · replace h := (if_pos c22).symm.trans h
                      refine jj_iconst (0) dX8_move_116 rfl ?_
                      refine jj_istore [(6, .int 0), (0, .ref (jj_ad g 60)), (1, .int x1), (2, .int x2), (3, .int x3), (4, .int x4), (5, .int x5)] dX8_move_117 (by decide) rfl ?_
                      refine jj_sub [1, 2, 3, 4, 5, 6, 0] rfl ?_
                      exact t_mdf_move_L119 d   hF  _ _ _ h
                    · replace h := (if_neg c22).symm.trans h
                      refine jj_aload_n dX8_move_109 0 rfl ?_
                      refine jj_ldc (-1000000001) lk_8_67 dX8_move_110 ?_
                      obtain ⟨q23, e23, h⟩ := jj_be h
                      refine jj_callVi [.int (-1000000001)] [] (c_mdf_errs (d + 1)  e23) jm_mdf_errs lk_8_68 (b := 60) rfl (by decide) (jj_E8 rfl) rfl rfl rfl (by omega) rfl (Nat.le_of_ble_eq_true rfl) dX8_move_112 ?_
                      exact jj_iret2 hF dX8_move_115 (Option.some.inj h)
          · replace h := (if_neg c11).symm.trans h
            refine jj_aload_n dX8_move_61 0 rfl ?_
            refine jj_ldc (-1000000005) lk_8_120 dX8_move_62 ?_
            obtain ⟨q24, e24, h⟩ := jj_be h
            refine jj_callVi [.int (-1000000005)] [] (c_mdf_errs (d + 1)  e24) jm_mdf_errs lk_8_68 (b := 60) rfl (by decide) (jj_E8 rfl) rfl rfl rfl (by omega) rfl (Nat.le_of_ble_eq_true rfl) dX8_move_64 ?_
            exact jj_iret2 hF dX8_move_67 (Option.some.inj h)
        · replace h := (if_pos c8).symm.trans h
          refine jj_aload_n dX8_move_39 0 rfl ?_
          refine jj_ldc (-1000000002) lk_8_249 dX8_move_40 ?_
          obtain ⟨q25, e25, h⟩ := jj_be h
          refine jj_callVi [.int (-1000000002)] [] (c_mdf_errs (d + 1)  e25) jm_mdf_errs lk_8_68 (b := 60) rfl (by decide) (jj_E8 rfl) rfl rfl rfl (by omega) rfl (Nat.le_of_ble_eq_true rfl) dX8_move_42 ?_
          exact jj_iret2 hF dX8_move_45 (Option.some.inj h)
    · replace h := (if_pos c3).symm.trans h
      refine jj_aload_n dX8_move_14 0 rfl ?_
      refine jj_ldc (-1000000001) lk_8_67 dX8_move_15 ?_
      obtain ⟨q26, e26, h⟩ := jj_be h
      refine jj_callVi [.int (-1000000001)] [] (c_mdf_errs (d + 1)  e26) jm_mdf_errs lk_8_68 (b := 60) rfl (by decide) (jj_E8 rfl) rfl rfl rfl (by omega) rfl (Nat.le_of_ble_eq_true rfl) dX8_move_17 ?_
      exact jj_iret2 hF dX8_move_20 (Option.some.inj h)
def mdf_waters_L18 (N : Nat)  (x1 : Int32) : Nat → Int32 → jj_M → Option (Int32 × jj_M)
  | 0, _, _ => none
  | n + 1, x3, μ => if jj_i x1 4 then if (μ 69 x1.toNatClampNeg) ≤ x3 then some ((x3, μ)) else if 8 ≤ x3 then some ((x3, μ)) else if jj_i ((40 * x1) + x3) 160 then if (mdf_in (Int32.toInt64 (μ 70 ((40 * x1) + x3).toNatClampNeg)) 0 99) = 0 then some ((x3, μ)) else if jj_i ((40 * x1) + x3) 160 then if jj_i (0 + x3) 351 then (some (jj_u μ 61 (0 + x3).toNatClampNeg (μ 70 ((40 * x1) + x3).toNatClampNeg))).bind fun m8 => mdf_waters_L18 N x1 n (x3 + 1) m8 else none else none else none else none
set_option maxRecDepth 100000 in
theorem t_mdf_waters_L18 {g : jj_G} (d : Nat) {N : Nat}  {x1 : Int32}  {r : Int32} {μ' : jj_M} {X : jj_X}   (hF : jj_F g (some .int) (some (.int r)) μ' X)  : ∀ (n : Nat) (x3 : Int32) (μ : jj_M), mdf_waters_L18 N x1 n x3 μ = some (r, μ') → jj_V g X RX8 cX8_waters 4 (d + 3) 18 [(0, .ref (jj_ad g 60)), (1, .int x1), (3, .int x3)] [] μ := by
  intro n
  induction n with
  | zero =>
    intro x3 μ h
    exact (jj_no h).elim
  | succ n ih =>
    intro x3 μ h
    rw [mdf_waters_L18] at h
    refine jj_iload_n dX8_waters_18 2 rfl ?_
    refine jj_aload_n dX8_waters_19 0 rfl ?_
    refine jg_8_22 (k := 60) rfl lk_8_34 dX8_waters_20 ?_
    show jj_V g X _ _ _ _ _ _ (.ref (jj_ad g 69) :: _) _
    refine jj_iload_n dX8_waters_23 1 rfl ?_
    obtain ⟨g1, h⟩ := jj_ge h
    refine jj_iaload (k := 69) (n := 4) rfl g1 dX8_waters_24 ?_
    refine jj_icmp_ge 81 dX8_waters_25 (by decide) (fun c2 => ?_) (fun c2 => ?_)
    · replace h := (if_pos c2).symm.trans h
      refine jj_iload_n dX8_waters_81 2 rfl ?_
      exact jj_iret2 hF dX8_waters_82 (Option.some.inj h)
    · replace h := (if_neg c2).symm.trans h
      refine jj_iload_n dX8_waters_28 2 rfl ?_
      refine jj_bipush (8) dX8_waters_29 rfl ?_
      refine jj_icmp_ge 81 dX8_waters_31 (by decide) (fun c3 => ?_) (fun c3 => ?_)
      · replace h := (if_pos c3).symm.trans h
        refine jj_iload_n dX8_waters_81 2 rfl ?_
        exact jj_iret2 hF dX8_waters_82 (Option.some.inj h)
      · replace h := (if_neg c3).symm.trans h
        refine jj_aload_n dX8_waters_34 0 rfl ?_
        refine jg_8_23 (k := 60) rfl lk_8_37 dX8_waters_35 ?_
        show jj_V g X _ _ _ _ _ _ (.ref (jj_ad g 70) :: _) _
        refine jj_bipush (40) dX8_waters_38 rfl ?_
        refine jj_iload_n dX8_waters_40 1 rfl ?_
        refine jj_imul dX8_waters_41 ?_
        refine jj_iload_n dX8_waters_42 2 rfl ?_
        refine jj_iadd dX8_waters_43 ?_
        obtain ⟨g4, h⟩ := jj_ge h
        refine jj_iaload (k := 70) (n := 160) rfl g4 dX8_waters_44 ?_
        refine jj_i2l dX8_waters_45 ?_
        refine jj_lconst (0) dX8_waters_46 rfl ?_
        refine jj_ldc2_w (99) lk_8_62 dX8_waters_47 ?_
        refine jj_callSi [.long (Int32.toInt64 (μ 70 ((40 * x1) + x3).toNatClampNeg)), .long 0, .long 99] [] (c_mdf_in (d + 2)  rfl) jm_mdf_in lk_8_46 rfl (by omega) rfl (Nat.le_of_ble_eq_true rfl) dX8_waters_50 ?_
        refine jj_if_eq 81 dX8_waters_53 (by decide) (fun c5 => ?_) (fun c5 => ?_)
        · replace h := (if_pos c5).symm.trans h
          refine jj_iload_n dX8_waters_81 2 rfl ?_
          exact jj_iret2 hF dX8_waters_82 (Option.some.inj h)
        · replace h := (if_neg c5).symm.trans h
          refine jj_aload_n dX8_waters_56 0 rfl ?_
          refine jg_8_0 (k := 60) rfl lk_8_7 dX8_waters_57 ?_
          show jj_V g X _ _ _ _ _ _ (.ref (jj_ad g 61) :: _) _
          refine jj_iconst (0) dX8_waters_60 rfl ?_
          refine jj_iload_n dX8_waters_61 2 rfl ?_
          refine jj_iadd dX8_waters_62 ?_
          refine jj_aload_n dX8_waters_63 0 rfl ?_
          refine jg_8_23 (k := 60) rfl lk_8_37 dX8_waters_64 ?_
          show jj_V g X _ _ _ _ _ _ (.ref (jj_ad g 70) :: _) _
          refine jj_bipush (40) dX8_waters_67 rfl ?_
          refine jj_iload_n dX8_waters_69 1 rfl ?_
          refine jj_imul dX8_waters_70 ?_
          refine jj_iload_n dX8_waters_71 2 rfl ?_
          refine jj_iadd dX8_waters_72 ?_
          obtain ⟨g6, h⟩ := jj_ge h
          refine jj_iaload (k := 70) (n := 160) rfl g6 dX8_waters_73 ?_
          obtain ⟨g7, h⟩ := jj_ge h
          refine jj_iastore (k := 61) (n := 351) rfl g7 dX8_waters_74 ?_
          obtain ⟨m8, em8, h⟩ := jj_be h
          refine jj_mu em8 ?_
          refine jj_iinc (x3 + 1) [(3, .int (x3 + 1)), (0, .ref (jj_ad g 60)), (1, .int x1)] dX8_waters_75 2 rfl rfl (by decide) rfl ?_
          refine jj_goto 18 dX8_waters_78 (by decide) ?_
          refine jj_sub [1, 2, 0] rfl ?_
          exact ih _ _ h
def mdf_waters (N : Nat) (x1 : Int32) (μ : jj_M) : Option (Int32 × jj_M) := (mdf_wrong x1 μ).bind fun q1 => if q1 = 0 then mdf_waters_L18 N x1 N 0 μ else (mdf_errs q1 μ).bind fun q3 => some ((q3.1, q3.2))
set_option maxRecDepth 100000 in
theorem c_mdf_waters {g : jj_G} (d : Nat) {N : Nat} {x1 : Int32} {μ : jj_M} {r : Int32} {μ' : jj_M}   (h : mdf_waters N x1 μ = some (r, μ')) : jj_N g yX8_waters cX8_waters 4 (some .int) (d + 3) [.ref (jj_ad g 60), .int x1] μ (some (.int r)) μ' := by
  refine jj_N_of jn_8 (Nat.le_of_ble_eq_true rfl) (fun X hF => ?_)
  unfold mdf_waters at h
  refine jj_sub (own := RX8) (lv2 := [(0, .ref (jj_ad g 60)), (1, .int x1)]) [0, 1] rfl ?_
  refine jj_aload_n dX8_waters_0 0 rfl ?_
  refine jj_iload_n dX8_waters_1 1 rfl ?_
  obtain ⟨q1, e1, h⟩ := jj_be h
  refine jj_callVi [.int x1] [] (c_mdf_wrong (d + 0)  e1) jm_mdf_wrong lk_8_312 (b := 60) rfl (by decide) (jj_E8 rfl) rfl rfl rfl (by omega) rfl (Nat.le_of_ble_eq_true rfl) dX8_waters_2 ?_
  refine jj_istore_n [(2, .int q1), (0, .ref (jj_ad g 60)), (1, .int x1)] dX8_waters_5 (by decide) rfl ?_
  refine jj_iload_n dX8_waters_6 0 rfl ?_
  refine jj_if_eq 16 dX8_waters_7 (by decide) (fun c2 => ?_) (fun c2 => ?_)
  · replace h := (if_pos c2).symm.trans h
    refine jj_iconst (0) dX8_waters_16 rfl ?_
    refine jj_istore_n [(3, .int 0), (2, .int q1), (0, .ref (jj_ad g 60)), (1, .int x1)] dX8_waters_17 (by decide) rfl ?_
    refine jj_sub [2, 3, 0] rfl ?_
    exact t_mdf_waters_L18 d   hF  _ _ _ h
  · replace h := (if_neg c2).symm.trans h
    refine jj_aload_n dX8_waters_10 1 rfl ?_
    refine jj_iload_n dX8_waters_11 0 rfl ?_
    obtain ⟨q3, e3, h⟩ := jj_be h
    refine jj_callVi [.int q1] [] (c_mdf_errs (d + 2)  e3) jm_mdf_errs lk_8_68 (b := 60) rfl (by decide) (jj_E8 rfl) rfl rfl rfl (by omega) rfl (Nat.le_of_ble_eq_true rfl) dX8_waters_12 ?_
    exact jj_iret2 hF dX8_waters_15 (Option.some.inj h)
def mdf_judge_B66 (N : Nat)  (x1 : Int32) (x3 : Int32) (μ : jj_M) : Option (Int32 × jj_M) := if x3 = (μ 61 139) then if jj_i x1 4 then if (μ 69 x1.toNatClampNeg) = (μ 61 139) then some ((-1, μ)) else some ((x3, μ)) else none else some ((x3, μ))
set_option maxRecDepth 100000 in
theorem t_mdf_judge_B66 {g : jj_G} (d : Nat) {N : Nat}  {x1 : Int32} {x3 : Int32} {μ : jj_M}  {r : Int32} {μ' : jj_M} {X : jj_X}   (hF : jj_F g (some .int) (some (.int r)) μ' X)  (h : mdf_judge_B66 N x1 x3 μ = some (r, μ')) : jj_V g X RX8 cX8_judge 4 (d + 3) 66 [(0, .ref (jj_ad g 60)), (1, .int x1), (3, .int x3)] [] μ := by
  unfold mdf_judge_B66 at h
  refine jj_iload_n dX8_judge_66 2 rfl ?_
  refine jj_aload_n dX8_judge_67 0 rfl ?_
  refine jg_8_0 (k := 60) rfl lk_8_7 dX8_judge_68 ?_
  show jj_V g X _ _ _ _ _ _ (.ref (jj_ad g 61) :: _) _
  refine jj_sipush (139) dX8_judge_71 rfl ?_
  refine jj_iaload (k := 61) (n := 351) rfl (show jj_i 139 351 by decide) dX8_judge_74 ?_
  show jj_V g X _ _ _ _ _ _ (.int (μ 61 139) :: _) _
  refine jj_icmp_ne 99 dX8_judge_75 (by decide) (fun c1 => ?_) (fun c1 => ?_)
  · replace h := (if_neg c1).symm.trans h
    refine jj_iload_n dX8_judge_99 2 rfl ?_
    exact jj_iret2 hF dX8_judge_100 (Option.some.inj h)
  · replace h := (if_pos c1).symm.trans h
    refine jj_aload_n dX8_judge_78 0 rfl ?_
    refine jg_8_22 (k := 60) rfl lk_8_34 dX8_judge_79 ?_
    show jj_V g X _ _ _ _ _ _ (.ref (jj_ad g 69) :: _) _
    refine jj_iload_n dX8_judge_82 1 rfl ?_
    obtain ⟨g2, h⟩ := jj_ge h
    refine jj_iaload (k := 69) (n := 4) rfl g2 dX8_judge_83 ?_
    refine jj_aload_n dX8_judge_84 0 rfl ?_
    refine jg_8_0 (k := 60) rfl lk_8_7 dX8_judge_85 ?_
    show jj_V g X _ _ _ _ _ _ (.ref (jj_ad g 61) :: _) _
    refine jj_sipush (139) dX8_judge_88 rfl ?_
    refine jj_iaload (k := 61) (n := 351) rfl (show jj_i 139 351 by decide) dX8_judge_91 ?_
    show jj_V g X _ _ _ _ _ _ (.int (μ 61 139) :: _) _
    refine jj_icmp_ne 99 dX8_judge_92 (by decide) (fun c3 => ?_) (fun c3 => ?_)
    · replace h := (if_neg c3).symm.trans h
      refine jj_iload_n dX8_judge_99 2 rfl ?_
      exact jj_iret2 hF dX8_judge_100 (Option.some.inj h)
    · replace h := (if_pos c3).symm.trans h
      refine jj_iconst (-1) dX8_judge_95 rfl ?_
      refine jj_goto 100 dX8_judge_96 (by decide) ?_
      exact jj_iret2 hF dX8_judge_100 (Option.some.inj h)
def mdf_judge_L18 (N : Nat)  (x1 : Int32) (μ : jj_M) : Nat → Int32 → Option (Int32 × jj_M)
  | 0, _ => none
  | n + 1, x3 => if jj_i x1 4 then if (μ 69 x1.toNatClampNeg) ≤ x3 then mdf_judge_B66 N x1 x3 μ else if (μ 61 139) ≤ x3 then mdf_judge_B66 N x1 x3 μ else if jj_i ((40 * x1) + x3) 160 then (mdf_its x3 3 μ).bind fun q5 => if (μ 70 ((40 * x1) + x3).toNatClampNeg) = q5 then mdf_judge_L18 N x1 μ n (x3 + 1) else mdf_judge_B66 N x1 x3 μ else none else none
set_option maxRecDepth 100000 in
theorem t_mdf_judge_L18 {g : jj_G} (d : Nat) {N : Nat}  {x1 : Int32} {μ : jj_M}  {r : Int32} {μ' : jj_M} {X : jj_X}   (hF : jj_F g (some .int) (some (.int r)) μ' X)  : ∀ (n : Nat) (x3 : Int32), mdf_judge_L18 N x1 μ n x3 = some (r, μ') → jj_V g X RX8 cX8_judge 4 (d + 3) 18 [(0, .ref (jj_ad g 60)), (1, .int x1), (3, .int x3)] [] μ := by
  intro n
  induction n with
  | zero =>
    intro x3 h
    exact (jj_no h).elim
  | succ n ih =>
    intro x3 h
    rw [mdf_judge_L18] at h
    refine jj_iload_n dX8_judge_18 2 rfl ?_
    refine jj_aload_n dX8_judge_19 0 rfl ?_
    refine jg_8_22 (k := 60) rfl lk_8_34 dX8_judge_20 ?_
    show jj_V g X _ _ _ _ _ _ (.ref (jj_ad g 69) :: _) _
    refine jj_iload_n dX8_judge_23 1 rfl ?_
    obtain ⟨g1, h⟩ := jj_ge h
    refine jj_iaload (k := 69) (n := 4) rfl g1 dX8_judge_24 ?_
    refine jj_icmp_ge 66 dX8_judge_25 (by decide) (fun c2 => ?_) (fun c2 => ?_)
    · replace h := (if_pos c2).symm.trans h
      refine jj_sub [0, 1, 2] rfl ?_
      exact t_mdf_judge_B66 d   hF  h
    · replace h := (if_neg c2).symm.trans h
      refine jj_iload_n dX8_judge_28 2 rfl ?_
      refine jj_aload_n dX8_judge_29 0 rfl ?_
      refine jg_8_0 (k := 60) rfl lk_8_7 dX8_judge_30 ?_
      show jj_V g X _ _ _ _ _ _ (.ref (jj_ad g 61) :: _) _
      refine jj_sipush (139) dX8_judge_33 rfl ?_
      refine jj_iaload (k := 61) (n := 351) rfl (show jj_i 139 351 by decide) dX8_judge_36 ?_
      show jj_V g X _ _ _ _ _ _ (.int (μ 61 139) :: _) _
      refine jj_icmp_ge 66 dX8_judge_37 (by decide) (fun c3 => ?_) (fun c3 => ?_)
      · replace h := (if_pos c3).symm.trans h
        refine jj_sub [0, 1, 2] rfl ?_
        exact t_mdf_judge_B66 d   hF  h
      · replace h := (if_neg c3).symm.trans h
        refine jj_aload_n dX8_judge_40 0 rfl ?_
        refine jg_8_23 (k := 60) rfl lk_8_37 dX8_judge_41 ?_
        show jj_V g X _ _ _ _ _ _ (.ref (jj_ad g 70) :: _) _
        refine jj_bipush (40) dX8_judge_44 rfl ?_
        refine jj_iload_n dX8_judge_46 1 rfl ?_
        refine jj_imul dX8_judge_47 ?_
        refine jj_iload_n dX8_judge_48 2 rfl ?_
        refine jj_iadd dX8_judge_49 ?_
        obtain ⟨g4, h⟩ := jj_ge h
        refine jj_iaload (k := 70) (n := 160) rfl g4 dX8_judge_50 ?_
        refine jj_aload_n dX8_judge_51 0 rfl ?_
        refine jj_iload_n dX8_judge_52 2 rfl ?_
        refine jj_iconst (3) dX8_judge_53 rfl ?_
        obtain ⟨q5, e5, h⟩ := jj_be h
        refine jj_callVi [.int x3, .int 3] [.int (μ 70 ((40 * x1) + x3).toNatClampNeg)] (c_mdf_its (d + 1)  e5) jm_mdf_its lk_8_79 (b := 60) rfl (by decide) (jj_E8 rfl) rfl rfl rfl (by omega) rfl (Nat.le_of_ble_eq_true rfl) dX8_judge_54 ?_
        refine jj_icmp_ne 66 dX8_judge_57 (by decide) (fun c6 => ?_) (fun c6 => ?_)
        · replace h := (if_neg c6).symm.trans h
          refine jj_sub [0, 1, 2] rfl ?_
          exact t_mdf_judge_B66 d   hF  h
        · replace h := (if_pos c6).symm.trans h
          refine jj_iinc (x3 + 1) [(3, .int (x3 + 1)), (0, .ref (jj_ad g 60)), (1, .int x1)] dX8_judge_60 2 rfl rfl (by decide) rfl ?_
          refine jj_goto 18 dX8_judge_63 (by decide) ?_
          refine jj_sub [1, 2, 0] rfl ?_
          exact ih _ h
def mdf_judge (N : Nat) (x1 : Int32) (μ : jj_M) : Option (Int32 × jj_M) := (mdf_wrong x1 μ).bind fun q1 => if q1 = 0 then mdf_judge_L18 N x1 μ N 0 else (mdf_errs q1 μ).bind fun q3 => some ((q3.1, q3.2))
set_option maxRecDepth 100000 in
theorem c_mdf_judge {g : jj_G} (d : Nat) {N : Nat} {x1 : Int32} {μ : jj_M} {r : Int32} {μ' : jj_M}   (h : mdf_judge N x1 μ = some (r, μ')) : jj_N g yX8_judge cX8_judge 4 (some .int) (d + 3) [.ref (jj_ad g 60), .int x1] μ (some (.int r)) μ' := by
  refine jj_N_of jn_8 (Nat.le_of_ble_eq_true rfl) (fun X hF => ?_)
  unfold mdf_judge at h
  refine jj_sub (own := RX8) (lv2 := [(0, .ref (jj_ad g 60)), (1, .int x1)]) [0, 1] rfl ?_
  refine jj_aload_n dX8_judge_0 0 rfl ?_
  refine jj_iload_n dX8_judge_1 1 rfl ?_
  obtain ⟨q1, e1, h⟩ := jj_be h
  refine jj_callVi [.int x1] [] (c_mdf_wrong (d + 0)  e1) jm_mdf_wrong lk_8_312 (b := 60) rfl (by decide) (jj_E8 rfl) rfl rfl rfl (by omega) rfl (Nat.le_of_ble_eq_true rfl) dX8_judge_2 ?_
  refine jj_istore_n [(2, .int q1), (0, .ref (jj_ad g 60)), (1, .int x1)] dX8_judge_5 (by decide) rfl ?_
  refine jj_iload_n dX8_judge_6 0 rfl ?_
  refine jj_if_eq 16 dX8_judge_7 (by decide) (fun c2 => ?_) (fun c2 => ?_)
  · replace h := (if_pos c2).symm.trans h
    refine jj_iconst (0) dX8_judge_16 rfl ?_
    refine jj_istore_n [(3, .int 0), (2, .int q1), (0, .ref (jj_ad g 60)), (1, .int x1)] dX8_judge_17 (by decide) rfl ?_
    refine jj_sub [2, 3, 0] rfl ?_
    exact t_mdf_judge_L18 d   hF  _ _ h
  · replace h := (if_neg c2).symm.trans h
    refine jj_aload_n dX8_judge_10 1 rfl ?_
    refine jj_iload_n dX8_judge_11 0 rfl ?_
    obtain ⟨q3, e3, h⟩ := jj_be h
    refine jj_callVi [.int q1] [] (c_mdf_errs (d + 2)  e3) jm_mdf_errs lk_8_68 (b := 60) rfl (by decide) (jj_E8 rfl) rfl rfl rfl (by omega) rfl (Nat.le_of_ble_eq_true rfl) dX8_judge_12 ?_
    exact jj_iret2 hF dX8_judge_15 (Option.some.inj h)
def mdf_image_L2 (N : Nat)   : Nat → Int32 → jj_M → Option (Int32 × jj_M)
  | 0, _, _ => none
  | n + 1, x1, μ => if 351 ≤ x1 then some (((jj_u μ 60 4 ((μ 60 4) + 1)) 60 4, jj_u μ 60 4 ((μ 60 4) + 1))) else if jj_i x1 351 then if jj_i x1 351 then mdf_image_L2 N n (x1 + 1) (jj_u μ 62 x1.toNatClampNeg (μ 61 x1.toNatClampNeg)) else none else none
set_option maxRecDepth 100000 in
theorem t_mdf_image_L2 {g : jj_G} (d : Nat) {N : Nat}    {r : Int32} {μ' : jj_M} {X : jj_X}   (hF : jj_F g (some .int) (some (.int r)) μ' X)  : ∀ (n : Nat) (x1 : Int32) (μ : jj_M), mdf_image_L2 N n x1 μ = some (r, μ') → jj_V g X RX8 cX8_image 2 (d + 0) 2 [(0, .ref (jj_ad g 60)), (1, .int x1)] [] μ := by
  intro n
  induction n with
  | zero =>
    intro x1 μ h
    exact (jj_no h).elim
  | succ n ih =>
    intro x1 μ h
    rw [mdf_image_L2] at h
    refine jj_iload_n dX8_image_2 1 rfl ?_
    refine jj_sipush (351) dX8_image_3 rfl ?_
    refine jj_icmp_ge 27 dX8_image_6 (by decide) (fun c1 => ?_) (fun c1 => ?_)
    · replace h := (if_pos c1).symm.trans h
      refine jj_aload_n dX8_image_27 0 rfl ?_
      refine jj_dup dX8_image_28 rfl ?_
      refine jg_8_4 (k := 60) rfl lk_8_315 dX8_image_29 ?_
      refine jj_iconst (1) dX8_image_32 rfl ?_
      refine jj_iadd dX8_image_33 ?_
      refine jp_8_4 (k := 60) rfl lk_8_315 dX8_image_34 ?_
      refine jj_aload_n dX8_image_37 0 rfl ?_
      refine jg_8_4 (k := 60) rfl lk_8_315 dX8_image_38 ?_
      exact jj_iret2 hF dX8_image_41 (Option.some.inj h)
    · replace h := (if_neg c1).symm.trans h
      refine jj_aload_n dX8_image_9 0 rfl ?_
      refine jg_8_1 (k := 60) rfl lk_8_13 dX8_image_10 ?_
      show jj_V g X _ _ _ _ _ _ (.ref (jj_ad g 62) :: _) _
      refine jj_iload_n dX8_image_13 1 rfl ?_
      refine jj_aload_n dX8_image_14 0 rfl ?_
      refine jg_8_0 (k := 60) rfl lk_8_7 dX8_image_15 ?_
      show jj_V g X _ _ _ _ _ _ (.ref (jj_ad g 61) :: _) _
      refine jj_iload_n dX8_image_18 1 rfl ?_
      obtain ⟨g2, h⟩ := jj_ge h
      refine jj_iaload (k := 61) (n := 351) rfl g2 dX8_image_19 ?_
      obtain ⟨g3, h⟩ := jj_ge h
      refine jj_iastore (k := 62) (n := 351) rfl g3 dX8_image_20 ?_
      refine jj_iinc (x1 + 1) [(1, .int (x1 + 1)), (0, .ref (jj_ad g 60))] dX8_image_21 1 rfl rfl (by decide) rfl ?_
      refine jj_goto 2 dX8_image_24 (by decide) ?_
      refine jj_sub [1, 0] rfl ?_
      exact ih _ _ h
def mdf_image (N : Nat)  (μ : jj_M) : Option (Int32 × jj_M) := mdf_image_L2 N N 0 μ
set_option maxRecDepth 100000 in
theorem c_mdf_image {g : jj_G} (d : Nat) {N : Nat}  {μ : jj_M} {r : Int32} {μ' : jj_M}   (h : mdf_image N μ = some (r, μ')) : jj_N g yX8_image cX8_image 2 (some .int) (d + 0) [.ref (jj_ad g 60)] μ (some (.int r)) μ' := by
  refine jj_N_of jn_8 (Nat.le_of_ble_eq_true rfl) (fun X hF => ?_)
  unfold mdf_image at h
  refine jj_sub (own := RX8) (lv2 := [(0, .ref (jj_ad g 60))]) [0] rfl ?_
  refine jj_iconst (0) dX8_image_0 rfl ?_
  refine jj_istore_n [(1, .int 0), (0, .ref (jj_ad g 60))] dX8_image_1 (by decide) rfl ?_
  refine jj_sub [1, 0] rfl ?_
  exact t_mdf_image_L2 d   hF  _ _ _ h
def mdf_restore_L16 (N : Nat)   : Nat → Int32 → jj_M → Option (Int32 × jj_M)
  | 0, _, _ => none
  | n + 1, x1, μ => if 351 ≤ x1 then some ((μ 61 137, μ)) else if jj_i x1 351 then if jj_i x1 351 then mdf_restore_L16 N n (x1 + 1) (jj_u μ 61 x1.toNatClampNeg (μ 62 x1.toNatClampNeg)) else none else none
set_option maxRecDepth 100000 in
theorem t_mdf_restore_L16 {g : jj_G} (d : Nat) {N : Nat}    {r : Int32} {μ' : jj_M} {X : jj_X}   (hF : jj_F g (some .int) (some (.int r)) μ' X)  : ∀ (n : Nat) (x1 : Int32) (μ : jj_M), mdf_restore_L16 N n x1 μ = some (r, μ') → jj_V g X RX8 cX8_restore 2 (d + 1) 16 [(0, .ref (jj_ad g 60)), (1, .int x1)] [] μ := by
  intro n
  induction n with
  | zero =>
    intro x1 μ h
    exact (jj_no h).elim
  | succ n ih =>
    intro x1 μ h
    rw [mdf_restore_L16] at h
    refine jj_iload_n dX8_restore_16 1 rfl ?_
    refine jj_sipush (351) dX8_restore_17 rfl ?_
    refine jj_icmp_ge 41 dX8_restore_20 (by decide) (fun c1 => ?_) (fun c1 => ?_)
    · replace h := (if_pos c1).symm.trans h
      refine jj_aload_n dX8_restore_41 0 rfl ?_
      refine jg_8_0 (k := 60) rfl lk_8_7 dX8_restore_42 ?_
      show jj_V g X _ _ _ _ _ _ (.ref (jj_ad g 61) :: _) _
      refine jj_sipush (137) dX8_restore_45 rfl ?_
      refine jj_iaload (k := 61) (n := 351) rfl (show jj_i 137 351 by decide) dX8_restore_48 ?_
      show jj_V g X _ _ _ _ _ _ (.int (μ 61 137) :: _) _
      exact jj_iret2 hF dX8_restore_49 (Option.some.inj h)
    · replace h := (if_neg c1).symm.trans h
      refine jj_aload_n dX8_restore_23 0 rfl ?_
      refine jg_8_0 (k := 60) rfl lk_8_7 dX8_restore_24 ?_
      show jj_V g X _ _ _ _ _ _ (.ref (jj_ad g 61) :: _) _
      refine jj_iload_n dX8_restore_27 1 rfl ?_
      refine jj_aload_n dX8_restore_28 0 rfl ?_
      refine jg_8_1 (k := 60) rfl lk_8_13 dX8_restore_29 ?_
      show jj_V g X _ _ _ _ _ _ (.ref (jj_ad g 62) :: _) _
      refine jj_iload_n dX8_restore_32 1 rfl ?_
      obtain ⟨g2, h⟩ := jj_ge h
      refine jj_iaload (k := 62) (n := 351) rfl g2 dX8_restore_33 ?_
      obtain ⟨g3, h⟩ := jj_ge h
      refine jj_iastore (k := 61) (n := 351) rfl g3 dX8_restore_34 ?_
      refine jj_iinc (x1 + 1) [(1, .int (x1 + 1)), (0, .ref (jj_ad g 60))] dX8_restore_35 1 rfl rfl (by decide) rfl ?_
      refine jj_goto 16 dX8_restore_38 (by decide) ?_
      refine jj_sub [1, 0] rfl ?_
      exact ih _ _ h
def mdf_restore (N : Nat)  (μ : jj_M) : Option (Int32 × jj_M) := if (μ 60 4) = 0 then (mdf_errs (-1000000002) μ).bind fun q2 => some ((q2.1, q2.2)) else mdf_restore_L16 N N 0 μ
set_option maxRecDepth 100000 in
theorem c_mdf_restore {g : jj_G} (d : Nat) {N : Nat}  {μ : jj_M} {r : Int32} {μ' : jj_M}   (h : mdf_restore N μ = some (r, μ')) : jj_N g yX8_restore cX8_restore 2 (some .int) (d + 1) [.ref (jj_ad g 60)] μ (some (.int r)) μ' := by
  refine jj_N_of jn_8 (Nat.le_of_ble_eq_true rfl) (fun X hF => ?_)
  unfold mdf_restore at h
  refine jj_sub (own := RX8) (lv2 := [(0, .ref (jj_ad g 60))]) [0] rfl ?_
  refine jj_aload_n dX8_restore_0 0 rfl ?_
  refine jg_8_4 (k := 60) rfl lk_8_315 dX8_restore_1 ?_
  refine jj_if_ne 14 dX8_restore_4 (by decide) (fun c1 => ?_) (fun c1 => ?_)
  · replace h := (if_neg c1).symm.trans h
    refine jj_iconst (0) dX8_restore_14 rfl ?_
    refine jj_istore_n [(1, .int 0), (0, .ref (jj_ad g 60))] dX8_restore_15 (by decide) rfl ?_
    refine jj_sub [1, 0] rfl ?_
    exact t_mdf_restore_L16 d   hF  _ _ _ h
  · replace h := (if_pos c1).symm.trans h
    refine jj_aload_n dX8_restore_7 0 rfl ?_
    refine jj_ldc (-1000000002) lk_8_249 dX8_restore_8 ?_
    obtain ⟨q2, e2, h⟩ := jj_be h
    refine jj_callVi [.int (-1000000002)] [] (c_mdf_errs (d + 0)  e2) jm_mdf_errs lk_8_68 (b := 60) rfl (by decide) (jj_E8 rfl) rfl rfl rfl (by omega) rfl (Nat.le_of_ble_eq_true rfl) dX8_restore_10 ?_
    exact jj_iret2 hF dX8_restore_13 (Option.some.inj h)
def mdf_tell  (x1 : Int32) (μ : jj_M) : Option (Int32 × jj_M) := if (μ 61 178) = 20 then (mdf_errs (-1000000004) μ).bind fun q4 => some ((q4.1, q4.2)) else if jj_i (331 + (μ 61 178)) 351 then (some (jj_u (jj_u μ 61 (331 + (μ 61 178)).toNatClampNeg x1) 61 178 (((jj_u μ 61 (331 + (μ 61 178)).toNatClampNeg x1) 61 178) + 1))).bind fun m3 => some ((m3 61 178, m3)) else none
set_option maxRecDepth 100000 in
theorem c_mdf_tell {g : jj_G} (d : Nat)  {x1 : Int32} {μ : jj_M} {r : Int32} {μ' : jj_M}   (h : mdf_tell x1 μ = some (r, μ')) : jj_N g yX8_tell cX8_tell 2 (some .int) (d + 1) [.ref (jj_ad g 60), .int x1] μ (some (.int r)) μ' := by
  refine jj_N_of jn_8 (Nat.le_of_ble_eq_true rfl) (fun X hF => ?_)
  unfold mdf_tell at h
  refine jj_sub (own := RX8) (lv2 := [(0, .ref (jj_ad g 60)), (1, .int x1)]) [0, 1] rfl ?_
  refine jj_aload_n dX8_tell_0 0 rfl ?_
  refine jg_8_0 (k := 60) rfl lk_8_7 dX8_tell_1 ?_
  show jj_V g X _ _ _ _ _ _ (.ref (jj_ad g 61) :: _) _
  refine jj_sipush (178) dX8_tell_4 rfl ?_
  refine jj_iaload (k := 61) (n := 351) rfl (show jj_i 178 351 by decide) dX8_tell_7 ?_
  show jj_V g X _ _ _ _ _ _ (.int (μ 61 178) :: _) _
  refine jj_bipush (20) dX8_tell_8 rfl ?_
  refine jj_icmp_ne 20 dX8_tell_10 (by decide) (fun c1 => ?_) (fun c1 => ?_)
  · replace h := (if_neg c1).symm.trans h
    refine jj_aload_n dX8_tell_20 0 rfl ?_
    refine jg_8_0 (k := 60) rfl lk_8_7 dX8_tell_21 ?_
    show jj_V g X _ _ _ _ _ _ (.ref (jj_ad g 61) :: _) _
    refine jj_sipush (331) dX8_tell_24 rfl ?_
    refine jj_aload_n dX8_tell_27 0 rfl ?_
    refine jg_8_0 (k := 60) rfl lk_8_7 dX8_tell_28 ?_
    show jj_V g X _ _ _ _ _ _ (.ref (jj_ad g 61) :: _) _
    refine jj_sipush (178) dX8_tell_31 rfl ?_
    refine jj_iaload (k := 61) (n := 351) rfl (show jj_i 178 351 by decide) dX8_tell_34 ?_
    show jj_V g X _ _ _ _ _ _ (.int (μ 61 178) :: _) _
    refine jj_iadd dX8_tell_35 ?_
    refine jj_iload_n dX8_tell_36 1 rfl ?_
    obtain ⟨g2, h⟩ := jj_ge h
    refine jj_iastore (k := 61) (n := 351) rfl g2 dX8_tell_37 ?_
    refine jj_aload_n dX8_tell_38 0 rfl ?_
    refine jg_8_0 (k := 60) rfl lk_8_7 dX8_tell_39 ?_
    show jj_V g X _ _ _ _ _ _ (.ref (jj_ad g 61) :: _) _
    refine jj_sipush (178) dX8_tell_42 rfl ?_
    refine jj_dup2 dX8_tell_45 rfl rfl ?_
    refine jj_iaload (k := 61) (n := 351) rfl (show jj_i 178 351 by decide) dX8_tell_46 ?_
    show jj_V g X _ _ _ _ _ _ (.int ((jj_u μ 61 (331 + (μ 61 178)).toNatClampNeg x1) 61 178) :: _) _
    refine jj_iconst (1) dX8_tell_47 rfl ?_
    refine jj_iadd dX8_tell_48 ?_
    refine jj_iastore (k := 61) (n := 351) rfl (show jj_i 178 351 by decide) dX8_tell_49 ?_
    show jj_V g X _ _ _ _ _ _ _ (jj_u (jj_u μ 61 (331 + (μ 61 178)).toNatClampNeg x1) 61 178 (((jj_u μ 61 (331 + (μ 61 178)).toNatClampNeg x1) 61 178) + 1))
    obtain ⟨m3, em3, h⟩ := jj_be h
    refine jj_mu em3 ?_
    refine jj_aload_n dX8_tell_50 0 rfl ?_
    refine jg_8_0 (k := 60) rfl lk_8_7 dX8_tell_51 ?_
    show jj_V g X _ _ _ _ _ _ (.ref (jj_ad g 61) :: _) _
    refine jj_sipush (178) dX8_tell_54 rfl ?_
    refine jj_iaload (k := 61) (n := 351) rfl (show jj_i 178 351 by decide) dX8_tell_57 ?_
    show jj_V g X _ _ _ _ _ _ (.int (m3 61 178) :: _) _
    exact jj_iret2 hF dX8_tell_58 (Option.some.inj h)
  · replace h := (if_pos c1).symm.trans h
    refine jj_aload_n dX8_tell_13 0 rfl ?_
    refine jj_ldc (-1000000004) lk_8_98 dX8_tell_14 ?_
    obtain ⟨q4, e4, h⟩ := jj_be h
    refine jj_callVi [.int (-1000000004)] [] (c_mdf_errs (d + 0)  e4) jm_mdf_errs lk_8_68 (b := 60) rfl (by decide) (jj_E8 rfl) rfl rfl rfl (by omega) rfl (Nat.le_of_ble_eq_true rfl) dX8_tell_16 ?_
    exact jj_iret2 hF dX8_tell_19 (Option.some.inj h)
def mdf_check_L17 (N : Nat)  (x1 : Int32) : Nat → Int32 → Int32 → jj_M → Option (Int32 × jj_M)
  | 0, _, _, _ => none
  | n + 1, x2, x3, μ => if x1 ≤ x3 then (mdf_takesBack N x2 (jj_u μ 61 178 0)).bind fun q2 => some ((q2.1, q2.2)) else if x2 = 0 then (mdf_day N μ).bind fun q5 => (mdf_dead N q5).bind fun q6 => if jj_i (331 + x3) 351 then if q6 = (q5 61 (331 + x3).toNatClampNeg) then mdf_check_L17 N x1 n 0 (x3 + 1) q5 else mdf_check_L17 N x1 n (1 + x3) (x3 + 1) q5 else none else (mdf_takesBack N x2 (jj_u μ 61 178 0)).bind fun q4 => some ((q4.1, q4.2))
set_option maxRecDepth 100000 in
theorem t_mdf_check_L17 {g : jj_G} (d : Nat) {N : Nat}  {x1 : Int32}  {r : Int32} {μ' : jj_M} {X : jj_X}   (hF : jj_F g (some .int) (some (.int r)) μ' X)  : ∀ (n : Nat) (x2 : Int32) (x3 : Int32) (μ : jj_M), mdf_check_L17 N x1 n x2 x3 μ = some (r, μ') → jj_V g X RX8 cX8_check 4 (d + 5) 17 [(0, .ref (jj_ad g 60)), (1, .int x1), (2, .int x2), (3, .int x3)] [] μ := by
  intro n
  induction n with
  | zero =>
    intro x2 x3 μ h
    exact (jj_no h).elim
  | succ n ih =>
    intro x2 x3 μ h
    rw [mdf_check_L17] at h
    refine jj_iload_n dX8_check_17 3 rfl ?_
    refine jj_iload_n dX8_check_18 1 rfl ?_
    refine jj_icmp_ge 61 dX8_check_19 (by decide) (fun c1 => ?_) (fun c1 => ?_)
    · replace h := (if_pos c1).symm.trans h
      refine jj_aload_n dX8_check_61 0 rfl ?_
      refine jg_8_0 (k := 60) rfl lk_8_7 dX8_check_62 ?_
      show jj_V g X _ _ _ _ _ _ (.ref (jj_ad g 61) :: _) _
      refine jj_sipush (178) dX8_check_65 rfl ?_
      refine jj_iconst (0) dX8_check_68 rfl ?_
      refine jj_iastore (k := 61) (n := 351) rfl (show jj_i 178 351 by decide) dX8_check_69 ?_
      show jj_V g X _ _ _ _ _ _ _ (jj_u μ 61 178 0)
      refine jj_aload_n dX8_check_70 0 rfl ?_
      refine jj_iload_n dX8_check_71 2 rfl ?_
      obtain ⟨q2, e2, h⟩ := jj_be h
      refine jj_callVi [.int x2] [] (c_mdf_takesBack (d + 4)  e2) jm_mdf_takesBack lk_8_321 (b := 60) rfl (by decide) (jj_E8 rfl) rfl rfl rfl (by omega) rfl (Nat.le_of_ble_eq_true rfl) dX8_check_72 ?_
      exact jj_iret2 hF dX8_check_75 (Option.some.inj h)
    · replace h := (if_neg c1).symm.trans h
      refine jj_iload_n dX8_check_22 2 rfl ?_
      refine jj_if_ne 61 dX8_check_23 (by decide) (fun c3 => ?_) (fun c3 => ?_)
      · replace h := (if_neg c3).symm.trans h
        refine jj_aload_n dX8_check_61 0 rfl ?_
        refine jg_8_0 (k := 60) rfl lk_8_7 dX8_check_62 ?_
        show jj_V g X _ _ _ _ _ _ (.ref (jj_ad g 61) :: _) _
        refine jj_sipush (178) dX8_check_65 rfl ?_
        refine jj_iconst (0) dX8_check_68 rfl ?_
        refine jj_iastore (k := 61) (n := 351) rfl (show jj_i 178 351 by decide) dX8_check_69 ?_
        show jj_V g X _ _ _ _ _ _ _ (jj_u μ 61 178 0)
        refine jj_aload_n dX8_check_70 0 rfl ?_
        refine jj_iload_n dX8_check_71 2 rfl ?_
        obtain ⟨q4, e4, h⟩ := jj_be h
        refine jj_callVi [.int x2] [] (c_mdf_takesBack (d + 4)  e4) jm_mdf_takesBack lk_8_321 (b := 60) rfl (by decide) (jj_E8 rfl) rfl rfl rfl (by omega) rfl (Nat.le_of_ble_eq_true rfl) dX8_check_72 ?_
        exact jj_iret2 hF dX8_check_75 (Option.some.inj h)
      · replace h := (if_pos c3).symm.trans h
        refine jj_aload_n dX8_check_26 0 rfl ?_
        obtain ⟨q5, e5, h⟩ := jj_be h
        refine jj_callVv [] [] (c_mdf_day (d + 0)  e5) jm_mdf_day lk_8_214 (b := 60) rfl (by decide) (jj_E8 rfl) rfl rfl rfl (by omega) rfl (Nat.le_of_ble_eq_true rfl) dX8_check_27 ?_
        refine jj_aload_n dX8_check_30 0 rfl ?_
        obtain ⟨q6, e6, h⟩ := jj_be h
        refine jj_callVi [] [] (c_mdf_dead (d + 2)  e6) jm_mdf_dead lk_8_217 (b := 60) rfl (by decide) (jj_E8 rfl) rfl rfl rfl (by omega) rfl (Nat.le_of_ble_eq_true rfl) dX8_check_31 ?_
        refine jj_aload_n dX8_check_34 0 rfl ?_
        refine jg_8_0 (k := 60) rfl lk_8_7 dX8_check_35 ?_
        show jj_V g X _ _ _ _ _ _ (.ref (jj_ad g 61) :: _) _
        refine jj_sipush (331) dX8_check_38 rfl ?_
        refine jj_iload_n dX8_check_41 3 rfl ?_
        refine jj_iadd dX8_check_42 ?_
        obtain ⟨g7, h⟩ := jj_ge h
        refine jj_iaload (k := 61) (n := 351) rfl g7 dX8_check_43 ?_
        refine jj_icmp_ne 51 dX8_check_44 (by decide) (fun c8 => ?_) (fun c8 => ?_)
        · replace h := (if_neg c8).symm.trans h
          refine jj_iconst (1) dX8_check_51 rfl ?_
          refine jj_iload_n dX8_check_52 3 rfl ?_
          refine jj_iadd dX8_check_53 ?_
          refine jj_istore_n [(2, .int (1 + x3)), (0, .ref (jj_ad g 60)), (1, .int x1), (3, .int x3)] dX8_check_54 (by decide) rfl ?_
          refine jj_iinc (x3 + 1) [(3, .int (x3 + 1)), (2, .int (1 + x3)), (0, .ref (jj_ad g 60)), (1, .int x1)] dX8_check_55 3 rfl rfl (by decide) rfl ?_
          refine jj_goto 17 dX8_check_58 (by decide) ?_
          refine jj_sub [2, 3, 1, 0] rfl ?_
          exact ih _ _ _ h
        · replace h := (if_pos c8).symm.trans h
          refine jj_iconst (0) dX8_check_47 rfl ?_
          refine jj_goto 54 dX8_check_48 (by decide) ?_
          refine jj_istore_n [(2, .int 0), (0, .ref (jj_ad g 60)), (1, .int x1), (3, .int x3)] dX8_check_54 (by decide) rfl ?_
          refine jj_iinc (x3 + 1) [(3, .int (x3 + 1)), (2, .int 0), (0, .ref (jj_ad g 60)), (1, .int x1)] dX8_check_55 3 rfl rfl (by decide) rfl ?_
          refine jj_goto 17 dX8_check_58 (by decide) ?_
          refine jj_sub [2, 3, 1, 0] rfl ?_
          exact ih _ _ _ h
def mdf_check (N : Nat)  (μ : jj_M) : Option (Int32 × jj_M) := (mdf_laysAside N μ).bind fun q1 => mdf_check_L17 N (q1 61 178) N 0 0 q1
set_option maxRecDepth 100000 in
theorem c_mdf_check {g : jj_G} (d : Nat) {N : Nat}  {μ : jj_M} {r : Int32} {μ' : jj_M}   (h : mdf_check N μ = some (r, μ')) : jj_N g yX8_check cX8_check 4 (some .int) (d + 5) [.ref (jj_ad g 60)] μ (some (.int r)) μ' := by
  refine jj_N_of jn_8 (Nat.le_of_ble_eq_true rfl) (fun X hF => ?_)
  unfold mdf_check at h
  refine jj_sub (own := RX8) (lv2 := [(0, .ref (jj_ad g 60))]) [0] rfl ?_
  refine jj_aload_n dX8_check_0 0 rfl ?_
  obtain ⟨q1, e1, h⟩ := jj_be h
  refine jj_callVv [] [] (c_mdf_laysAside (d + 4)  e1) jm_mdf_laysAside lk_8_318 (b := 60) rfl (by decide) (jj_E8 rfl) rfl rfl rfl (by omega) rfl (Nat.le_of_ble_eq_true rfl) dX8_check_1 ?_
  refine jj_aload_n dX8_check_4 0 rfl ?_
  refine jg_8_0 (k := 60) rfl lk_8_7 dX8_check_5 ?_
  show jj_V g X _ _ _ _ _ _ (.ref (jj_ad g 61) :: _) _
  refine jj_sipush (178) dX8_check_8 rfl ?_
  refine jj_iaload (k := 61) (n := 351) rfl (show jj_i 178 351 by decide) dX8_check_11 ?_
  show jj_V g X _ _ _ _ _ _ (.int (q1 61 178) :: _) _
  refine jj_istore_n [(1, .int (q1 61 178)), (0, .ref (jj_ad g 60))] dX8_check_12 (by decide) rfl ?_
  refine jj_iconst (0) dX8_check_13 rfl ?_
  refine jj_istore_n [(2, .int 0), (1, .int (q1 61 178)), (0, .ref (jj_ad g 60))] dX8_check_14 (by decide) rfl ?_
  refine jj_iconst (0) dX8_check_15 rfl ?_
  refine jj_istore_n [(3, .int 0), (2, .int 0), (1, .int (q1 61 178)), (0, .ref (jj_ad g 60))] dX8_check_16 (by decide) rfl ?_
  refine jj_sub [3, 2, 1, 0] rfl ?_
  exact t_mdf_check_L17 d   hF  _ _ _ _ h
def mdf_sum__L5 (N : Nat)  (x1 : Int32) (x2 : Int32) (μ : jj_M) : Nat → Int32 → Int32 → Option (Int32)
  | 0, _, _ => none
  | n + 1, x3, x4 => if x2 ≤ x4 then some x3 else if jj_i (x1 + x4) 351 then mdf_sum__L5 N x1 x2 μ n (x3 + (μ 61 (x1 + x4).toNatClampNeg)) (x4 + 1) else none
set_option maxRecDepth 100000 in
theorem t_mdf_sum__L5 {g : jj_G} (d : Nat) {N : Nat}  {x1 : Int32} {x2 : Int32} {μ : jj_M}  {r : Int32} {X : jj_X}   (hF : jj_F g (some .int) (some (.int r)) μ X)  : ∀ (n : Nat) (x3 : Int32) (x4 : Int32), mdf_sum__L5 N x1 x2 μ n x3 x4 = some r → jj_V g X RX8 cX8_sum_ 5 (d + 0) 5 [(0, .ref (jj_ad g 60)), (1, .int x1), (2, .int x2), (3, .int x3), (4, .int x4)] [] μ := by
  intro n
  induction n with
  | zero =>
    intro x3 x4 h
    exact (jj_no h).elim
  | succ n ih =>
    intro x3 x4 h
    rw [mdf_sum__L5] at h
    refine jj_iload dX8_sum__5 4 rfl ?_
    refine jj_iload_n dX8_sum__7 2 rfl ?_
    refine jj_icmp_ge 29 dX8_sum__8 (by decide) (fun c1 => ?_) (fun c1 => ?_)
    · replace h := (if_pos c1).symm.trans h
      refine jj_iload_n dX8_sum__29 3 rfl ?_
      exact jj_iret1 hF dX8_sum__30 (Option.some.inj h)
    · replace h := (if_neg c1).symm.trans h
      refine jj_iload_n dX8_sum__11 3 rfl ?_
      refine jj_aload_n dX8_sum__12 0 rfl ?_
      refine jg_8_0 (k := 60) rfl lk_8_7 dX8_sum__13 ?_
      show jj_V g X _ _ _ _ _ _ (.ref (jj_ad g 61) :: _) _
      refine jj_iload_n dX8_sum__16 1 rfl ?_
      refine jj_iload dX8_sum__17 4 rfl ?_
      refine jj_iadd dX8_sum__19 ?_
      obtain ⟨g2, h⟩ := jj_ge h
      refine jj_iaload (k := 61) (n := 351) rfl g2 dX8_sum__20 ?_
      refine jj_iadd dX8_sum__21 ?_
      refine jj_istore_n [(3, .int (x3 + (μ 61 (x1 + x4).toNatClampNeg))), (0, .ref (jj_ad g 60)), (1, .int x1), (2, .int x2), (4, .int x4)] dX8_sum__22 (by decide) rfl ?_
      refine jj_iinc (x4 + 1) [(4, .int (x4 + 1)), (3, .int (x3 + (μ 61 (x1 + x4).toNatClampNeg))), (0, .ref (jj_ad g 60)), (1, .int x1), (2, .int x2)] dX8_sum__23 4 rfl rfl (by decide) rfl ?_
      refine jj_goto 5 dX8_sum__26 (by decide) ?_
      refine jj_sub [2, 3, 4, 1, 0] rfl ?_
      exact ih _ _ h
def mdf_sum_ (N : Nat) (x1 : Int32) (x2 : Int32) (μ : jj_M) : Option (Int32) := mdf_sum__L5 N x1 x2 μ N 0 0
set_option maxRecDepth 100000 in
theorem c_mdf_sum_ {g : jj_G} (d : Nat) {N : Nat} {x1 : Int32} {x2 : Int32} {μ : jj_M} {r : Int32}   (h : mdf_sum_ N x1 x2 μ = some r) : jj_N g yX8_sum_ cX8_sum_ 5 (some .int) (d + 0) [.ref (jj_ad g 60), .int x1, .int x2] μ (some (.int r)) μ := by
  refine jj_N_of jn_8 (Nat.le_of_ble_eq_true rfl) (fun X hF => ?_)
  unfold mdf_sum_ at h
  refine jj_sub (own := RX8) (lv2 := [(0, .ref (jj_ad g 60)), (1, .int x1), (2, .int x2)]) [0, 1, 2] rfl ?_
  refine jj_iconst (0) dX8_sum__0 rfl ?_
  refine jj_istore_n [(3, .int 0), (0, .ref (jj_ad g 60)), (1, .int x1), (2, .int x2)] dX8_sum__1 (by decide) rfl ?_
  refine jj_iconst (0) dX8_sum__2 rfl ?_
  refine jj_istore [(4, .int 0), (3, .int 0), (0, .ref (jj_ad g 60)), (1, .int x1), (2, .int x2)] dX8_sum__3 (by decide) rfl ?_
  refine jj_sub [2, 3, 4, 1, 0] rfl ?_
  exact t_mdf_sum__L5 d   hF  _ _ _ h
def mdf_count (N : Nat) (x1 : Int32) (μ : jj_M) : Option (Int32 × jj_M) := if x1 = 0 then some ((μ 61 139, μ)) else if x1 = 1 then some ((μ 61 137, μ)) else if x1 = 2 then some ((μ 61 138, μ)) else if x1 = 3 then (mdf_dead N μ).bind fun q5 => some ((q5, μ)) else if x1 = 4 then (mdf_sum_ N 0 8 μ).bind fun q7 => some ((q7, μ)) else if x1 = 5 then some ((μ 61 136, μ)) else if x1 = 6 then (mdf_sum_ N 72 64 μ).bind fun q10 => some ((q10, μ)) else if x1 = 7 then some ((μ 61 177, μ)) else if x1 = 8 then some ((μ 61 178, μ)) else if x1 = 9 then some ((μ 60 17, μ)) else if x1 = 10 then some ((μ 61 176, μ)) else (mdf_errs (-1000000001) μ).bind fun q15 => some ((q15.1, q15.2))
set_option maxRecDepth 100000 in
theorem c_mdf_count {g : jj_G} (d : Nat) {N : Nat} {x1 : Int32} {μ : jj_M} {r : Int32} {μ' : jj_M}   (h : mdf_count N x1 μ = some (r, μ')) : jj_N g yX8_count cX8_count 2 (some .int) (d + 3) [.ref (jj_ad g 60), .int x1] μ (some (.int r)) μ' := by
  refine jj_N_of jn_8 (Nat.le_of_ble_eq_true rfl) (fun X hF => ?_)
  unfold mdf_count at h
  refine jj_sub (own := RX8) (lv2 := [(0, .ref (jj_ad g 60)), (1, .int x1)]) [0, 1] rfl ?_
  refine jj_iload_n dX8_count_0 1 rfl ?_
  by_cases c1 : x1 = 0
  · replace h := (if_pos c1).symm.trans h
    refine jj_tableIn 60 dX8_count_1 (by rw [c1]; decide) (by rw [c1]; decide) (by rw [c1]; rfl) (show (1 : Int) + 59 = (60 : Nat) by decide) ?_
    refine jj_aload_n dX8_count_60 0 rfl ?_
    refine jg_8_0 (k := 60) rfl lk_8_7 dX8_count_61 ?_
    show jj_V g X _ _ _ _ _ _ (.ref (jj_ad g 61) :: _) _
    refine jj_sipush (139) dX8_count_64 rfl ?_
    refine jj_iaload (k := 61) (n := 351) rfl (show jj_i 139 351 by decide) dX8_count_67 ?_
    show jj_V g X _ _ _ _ _ _ (.int (μ 61 139) :: _) _
    exact jj_iret2 hF dX8_count_68 (Option.some.inj h)
  replace h := (if_neg c1).symm.trans h
  by_cases c2 : x1 = 1
  · replace h := (if_pos c2).symm.trans h
    refine jj_tableIn 69 dX8_count_1 (by rw [c2]; decide) (by rw [c2]; decide) (by rw [c2]; rfl) (show (1 : Int) + 68 = (69 : Nat) by decide) ?_
    refine jj_aload_n dX8_count_69 0 rfl ?_
    refine jg_8_0 (k := 60) rfl lk_8_7 dX8_count_70 ?_
    show jj_V g X _ _ _ _ _ _ (.ref (jj_ad g 61) :: _) _
    refine jj_sipush (137) dX8_count_73 rfl ?_
    refine jj_iaload (k := 61) (n := 351) rfl (show jj_i 137 351 by decide) dX8_count_76 ?_
    show jj_V g X _ _ _ _ _ _ (.int (μ 61 137) :: _) _
    exact jj_iret2 hF dX8_count_77 (Option.some.inj h)
  replace h := (if_neg c2).symm.trans h
  by_cases c3 : x1 = 2
  · replace h := (if_pos c3).symm.trans h
    refine jj_tableIn 78 dX8_count_1 (by rw [c3]; decide) (by rw [c3]; decide) (by rw [c3]; rfl) (show (1 : Int) + 77 = (78 : Nat) by decide) ?_
    refine jj_aload_n dX8_count_78 0 rfl ?_
    refine jg_8_0 (k := 60) rfl lk_8_7 dX8_count_79 ?_
    show jj_V g X _ _ _ _ _ _ (.ref (jj_ad g 61) :: _) _
    refine jj_sipush (138) dX8_count_82 rfl ?_
    refine jj_iaload (k := 61) (n := 351) rfl (show jj_i 138 351 by decide) dX8_count_85 ?_
    show jj_V g X _ _ _ _ _ _ (.int (μ 61 138) :: _) _
    exact jj_iret2 hF dX8_count_86 (Option.some.inj h)
  replace h := (if_neg c3).symm.trans h
  by_cases c4 : x1 = 3
  · replace h := (if_pos c4).symm.trans h
    refine jj_tableIn 87 dX8_count_1 (by rw [c4]; decide) (by rw [c4]; decide) (by rw [c4]; rfl) (show (1 : Int) + 86 = (87 : Nat) by decide) ?_
    refine jj_aload_n dX8_count_87 0 rfl ?_
    obtain ⟨q5, e5, h⟩ := jj_be h
    refine jj_callVi [] [] (c_mdf_dead (d + 0)  e5) jm_mdf_dead lk_8_217 (b := 60) rfl (by decide) (jj_E8 rfl) rfl rfl rfl (by omega) rfl (Nat.le_of_ble_eq_true rfl) dX8_count_88 ?_
    exact jj_iret2 hF dX8_count_91 (Option.some.inj h)
  replace h := (if_neg c4).symm.trans h
  by_cases c6 : x1 = 4
  · replace h := (if_pos c6).symm.trans h
    refine jj_tableIn 92 dX8_count_1 (by rw [c6]; decide) (by rw [c6]; decide) (by rw [c6]; rfl) (show (1 : Int) + 91 = (92 : Nat) by decide) ?_
    refine jj_aload_n dX8_count_92 0 rfl ?_
    refine jj_iconst (0) dX8_count_93 rfl ?_
    refine jj_bipush (8) dX8_count_94 rfl ?_
    obtain ⟨q7, e7, h⟩ := jj_be h
    refine jj_callVi [.int 0, .int 8] [] (c_mdf_sum_ (d + 2)  e7) jm_mdf_sum_ lk_8_324 (b := 60) rfl (by decide) (jj_E8 rfl) rfl rfl rfl (by omega) rfl (Nat.le_of_ble_eq_true rfl) dX8_count_96 ?_
    exact jj_iret2 hF dX8_count_99 (Option.some.inj h)
  replace h := (if_neg c6).symm.trans h
  by_cases c8 : x1 = 5
  · replace h := (if_pos c8).symm.trans h
    refine jj_tableIn 100 dX8_count_1 (by rw [c8]; decide) (by rw [c8]; decide) (by rw [c8]; rfl) (show (1 : Int) + 99 = (100 : Nat) by decide) ?_
    refine jj_aload_n dX8_count_100 0 rfl ?_
    refine jg_8_0 (k := 60) rfl lk_8_7 dX8_count_101 ?_
    show jj_V g X _ _ _ _ _ _ (.ref (jj_ad g 61) :: _) _
    refine jj_sipush (136) dX8_count_104 rfl ?_
    refine jj_iaload (k := 61) (n := 351) rfl (show jj_i 136 351 by decide) dX8_count_107 ?_
    show jj_V g X _ _ _ _ _ _ (.int (μ 61 136) :: _) _
    exact jj_iret2 hF dX8_count_108 (Option.some.inj h)
  replace h := (if_neg c8).symm.trans h
  by_cases c9 : x1 = 6
  · replace h := (if_pos c9).symm.trans h
    refine jj_tableIn 109 dX8_count_1 (by rw [c9]; decide) (by rw [c9]; decide) (by rw [c9]; rfl) (show (1 : Int) + 108 = (109 : Nat) by decide) ?_
    refine jj_aload_n dX8_count_109 0 rfl ?_
    refine jj_bipush (72) dX8_count_110 rfl ?_
    refine jj_bipush (64) dX8_count_112 rfl ?_
    obtain ⟨q10, e10, h⟩ := jj_be h
    refine jj_callVi [.int 72, .int 64] [] (c_mdf_sum_ (d + 2)  e10) jm_mdf_sum_ lk_8_324 (b := 60) rfl (by decide) (jj_E8 rfl) rfl rfl rfl (by omega) rfl (Nat.le_of_ble_eq_true rfl) dX8_count_114 ?_
    exact jj_iret2 hF dX8_count_117 (Option.some.inj h)
  replace h := (if_neg c9).symm.trans h
  by_cases c11 : x1 = 7
  · replace h := (if_pos c11).symm.trans h
    refine jj_tableIn 118 dX8_count_1 (by rw [c11]; decide) (by rw [c11]; decide) (by rw [c11]; rfl) (show (1 : Int) + 117 = (118 : Nat) by decide) ?_
    refine jj_aload_n dX8_count_118 0 rfl ?_
    refine jg_8_0 (k := 60) rfl lk_8_7 dX8_count_119 ?_
    show jj_V g X _ _ _ _ _ _ (.ref (jj_ad g 61) :: _) _
    refine jj_sipush (177) dX8_count_122 rfl ?_
    refine jj_iaload (k := 61) (n := 351) rfl (show jj_i 177 351 by decide) dX8_count_125 ?_
    show jj_V g X _ _ _ _ _ _ (.int (μ 61 177) :: _) _
    exact jj_iret2 hF dX8_count_126 (Option.some.inj h)
  replace h := (if_neg c11).symm.trans h
  by_cases c12 : x1 = 8
  · replace h := (if_pos c12).symm.trans h
    refine jj_tableIn 127 dX8_count_1 (by rw [c12]; decide) (by rw [c12]; decide) (by rw [c12]; rfl) (show (1 : Int) + 126 = (127 : Nat) by decide) ?_
    refine jj_aload_n dX8_count_127 0 rfl ?_
    refine jg_8_0 (k := 60) rfl lk_8_7 dX8_count_128 ?_
    show jj_V g X _ _ _ _ _ _ (.ref (jj_ad g 61) :: _) _
    refine jj_sipush (178) dX8_count_131 rfl ?_
    refine jj_iaload (k := 61) (n := 351) rfl (show jj_i 178 351 by decide) dX8_count_134 ?_
    show jj_V g X _ _ _ _ _ _ (.int (μ 61 178) :: _) _
    exact jj_iret2 hF dX8_count_135 (Option.some.inj h)
  replace h := (if_neg c12).symm.trans h
  by_cases c13 : x1 = 9
  · replace h := (if_pos c13).symm.trans h
    refine jj_tableIn 136 dX8_count_1 (by rw [c13]; decide) (by rw [c13]; decide) (by rw [c13]; rfl) (show (1 : Int) + 135 = (136 : Nat) by decide) ?_
    refine jj_aload_n dX8_count_136 0 rfl ?_
    refine jg_8_17 (k := 60) rfl lk_8_265 dX8_count_137 ?_
    exact jj_iret2 hF dX8_count_140 (Option.some.inj h)
  replace h := (if_neg c13).symm.trans h
  by_cases c14 : x1 = 10
  · replace h := (if_pos c14).symm.trans h
    refine jj_tableIn 141 dX8_count_1 (by rw [c14]; decide) (by rw [c14]; decide) (by rw [c14]; rfl) (show (1 : Int) + 140 = (141 : Nat) by decide) ?_
    refine jj_aload_n dX8_count_141 0 rfl ?_
    refine jg_8_0 (k := 60) rfl lk_8_7 dX8_count_142 ?_
    show jj_V g X _ _ _ _ _ _ (.ref (jj_ad g 61) :: _) _
    refine jj_sipush (176) dX8_count_145 rfl ?_
    refine jj_iaload (k := 61) (n := 351) rfl (show jj_i 176 351 by decide) dX8_count_148 ?_
    show jj_V g X _ _ _ _ _ _ (.int (μ 61 176) :: _) _
    exact jj_iret2 hF dX8_count_149 (Option.some.inj h)
  replace h := (if_neg c14).symm.trans h
  have c1 : ¬ Int32.toInt x1 = 0 := fun w => c1 (Int32.toInt_inj.mp (w.trans (by decide)))
  have c2 : ¬ Int32.toInt x1 = 1 := fun w => c2 (Int32.toInt_inj.mp (w.trans (by decide)))
  have c3 : ¬ Int32.toInt x1 = 2 := fun w => c3 (Int32.toInt_inj.mp (w.trans (by decide)))
  have c4 : ¬ Int32.toInt x1 = 3 := fun w => c4 (Int32.toInt_inj.mp (w.trans (by decide)))
  have c6 : ¬ Int32.toInt x1 = 4 := fun w => c6 (Int32.toInt_inj.mp (w.trans (by decide)))
  have c8 : ¬ Int32.toInt x1 = 5 := fun w => c8 (Int32.toInt_inj.mp (w.trans (by decide)))
  have c9 : ¬ Int32.toInt x1 = 6 := fun w => c9 (Int32.toInt_inj.mp (w.trans (by decide)))
  have c11 : ¬ Int32.toInt x1 = 7 := fun w => c11 (Int32.toInt_inj.mp (w.trans (by decide)))
  have c12 : ¬ Int32.toInt x1 = 8 := fun w => c12 (Int32.toInt_inj.mp (w.trans (by decide)))
  have c13 : ¬ Int32.toInt x1 = 9 := fun w => c13 (Int32.toInt_inj.mp (w.trans (by decide)))
  have c14 : ¬ Int32.toInt x1 = 10 := fun w => c14 (Int32.toInt_inj.mp (w.trans (by decide)))
  refine jj_tableOut 150 dX8_count_1 (by omega) (by decide) ?_
  refine jj_aload_n dX8_count_150 0 rfl ?_
  refine jj_ldc (-1000000001) lk_8_67 dX8_count_151 ?_
  obtain ⟨q15, e15, h⟩ := jj_be h
  refine jj_callVi [.int (-1000000001)] [] (c_mdf_errs (d + 2)  e15) jm_mdf_errs lk_8_68 (b := 60) rfl (by decide) (jj_E8 rfl) rfl rfl rfl (by omega) rfl (Nat.le_of_ble_eq_true rfl) dX8_count_153 ?_
  exact jj_iret2 hF dX8_count_156 (Option.some.inj h)
def mdf_told  (x1 : Int32) (μ : jj_M) : Option (Int32 × jj_M) := if (mdf_in (Int32.toInt64 x1) 1 5) = 0 then (mdf_errs (-1000000001) μ).bind fun q2 => some ((q2.1, q2.2)) else if jj_i x1 6 then some ((μ 64 x1.toNatClampNeg, μ)) else none
set_option maxRecDepth 100000 in
theorem c_mdf_told {g : jj_G} (d : Nat)  {x1 : Int32} {μ : jj_M} {r : Int32} {μ' : jj_M}   (h : mdf_told x1 μ = some (r, μ')) : jj_N g yX8_told cX8_told 2 (some .int) (d + 1) [.ref (jj_ad g 60), .int x1] μ (some (.int r)) μ' := by
  refine jj_N_of jn_8 (Nat.le_of_ble_eq_true rfl) (fun X hF => ?_)
  unfold mdf_told at h
  refine jj_sub (own := RX8) (lv2 := [(0, .ref (jj_ad g 60)), (1, .int x1)]) [0, 1] rfl ?_
  refine jj_iload_n dX8_told_0 1 rfl ?_
  refine jj_i2l dX8_told_1 ?_
  refine jj_lconst (1) dX8_told_2 rfl ?_
  refine jj_ldc2_w (5) lk_8_326 dX8_told_3 ?_
  refine jj_callSi [.long (Int32.toInt64 x1), .long 1, .long 5] [] (c_mdf_in (d + 0)  rfl) jm_mdf_in lk_8_46 rfl (by omega) rfl (Nat.le_of_ble_eq_true rfl) dX8_told_6 ?_
  refine jj_if_eq 21 dX8_told_9 (by decide) (fun c1 => ?_) (fun c1 => ?_)
  · replace h := (if_pos c1).symm.trans h
    refine jj_aload_n dX8_told_21 0 rfl ?_
    refine jj_ldc (-1000000001) lk_8_67 dX8_told_22 ?_
    obtain ⟨q2, e2, h⟩ := jj_be h
    refine jj_callVi [.int (-1000000001)] [] (c_mdf_errs (d + 0)  e2) jm_mdf_errs lk_8_68 (b := 60) rfl (by decide) (jj_E8 rfl) rfl rfl rfl (by omega) rfl (Nat.le_of_ble_eq_true rfl) dX8_told_24 ?_
    exact jj_iret2 hF dX8_told_27 (Option.some.inj h)
  · replace h := (if_neg c1).symm.trans h
    refine jj_aload_n dX8_told_12 0 rfl ?_
    refine jg_8_3 (k := 60) rfl lk_8_19 dX8_told_13 ?_
    show jj_V g X _ _ _ _ _ _ (.ref (jj_ad g 64) :: _) _
    refine jj_iload_n dX8_told_16 1 rfl ?_
    obtain ⟨g3, h⟩ := jj_ge h
    refine jj_iaload (k := 64) (n := 6) rfl g3 dX8_told_17 ?_
    refine jj_goto 27 dX8_told_18 (by decide) ?_
    exact jj_iret2 hF dX8_told_27 (Option.some.inj h)
