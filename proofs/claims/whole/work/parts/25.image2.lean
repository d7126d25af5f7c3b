theorem cg_ok {n k : Nat} (h : n ≤ k) (hk : k < 2147483648) : jj_cg 0 0 (nI n) k k := by
  have z : ¬ (0 : Int32) < 0 := by decide
  have z2 : (0 : Int32).toNatClampNeg = 0 := by decide
  have e : (nI n).toNatClampNeg = n := nz_clamp (by omega)
  have zL : ¬ nI n < 0 := by rw [show (0 : Int32) = nI 0 from rfl, nz_lt (by omega) (by omega)]; omega
  exact ⟨z, z, zL, by rw [e, z2]; omega, by rw [e, z2]; omega⟩
theorem five_ok (N : Nat) {w v : Nat} (hwv : w + 20 ≤ v ∨ v + 20 ≤ w) (μ : jj_M) : ∃ m5, wof_copyFrom N w v μ = wof_copyFrom_L77 N w v N (nI 0) m5 ∧ (∀ a, a ≠ w + 1 → a ≠ w + 2 → a ≠ w + 3 → a ≠ w + 6 → a ≠ w + 7 → m5 a = μ a) ∧ (∀ b, b < 8 → m5 (w + 1) b = μ (v + 1) b) ∧ (∀ b, b < 64 → m5 (w + 2) b = μ (v + 2) b) ∧ (∀ b, b < 64 → m5 (w + 3) b = μ (v + 3) b) ∧ (∀ b, b < 50 → m5 (w + 6) b = μ (v + 6) b) ∧ ∀ b, b < 20 → m5 (w + 7) b = μ (v + 7) b := by
  have g8 : jj_cg 0 0 8 8 8 := cg_ok (n := 8) (k := 8) (by omega) (by omega)
  have g64 : jj_cg 0 0 64 64 64 := cg_ok (n := 64) (k := 64) (by omega) (by omega)
  have g50 : jj_cg 0 0 50 50 50 := cg_ok (n := 50) (k := 50) (by omega) (by omega)
  have g20 : jj_cg 0 0 20 20 20 := cg_ok (n := 20) (k := 20) (by omega) (by omega)
  have z0 : Int32.toNatClampNeg 0 = 0 := by decide
  have z8 : Int32.toNatClampNeg 8 = 8 := nz_clamp (n := 8) (by omega)
  have z64 : Int32.toNatClampNeg 64 = 64 := nz_clamp (n := 64) (by omega)
  have z50 : Int32.toNatClampNeg 50 = 50 := nz_clamp (n := 50) (by omega)
  have z20 : Int32.toNatClampNeg 20 = 20 := nz_clamp (n := 20) (by omega)
  unfold wof_copyFrom
  simp only [eq_true g8, eq_true g64, eq_true g50, eq_true g20, z0, z8, z64, z50, z20, ↓reduceIte, Option.bind_some]
  rw [juc_ne (show v + 2 ≠ w + 1 by omega), juc_ne (show v + 3 ≠ w + 2 by omega), juc_ne (show v + 3 ≠ w + 1 by omega), juc_ne (show v + 6 ≠ w + 3 by omega), juc_ne (show v + 6 ≠ w + 2 by omega), juc_ne (show v + 6 ≠ w + 1 by omega), juc_ne (show v + 7 ≠ w + 6 by omega), juc_ne (show v + 7 ≠ w + 3 by omega), juc_ne (show v + 7 ≠ w + 2 by omega), juc_ne (show v + 7 ≠ w + 1 by omega)]
  obtain ⟨m5, e5⟩ : ∃ m5, m5 = jj_uc (jj_uc (jj_uc (jj_uc (jj_uc μ (w + 1) (va_cpy (μ (v + 1)) (μ (w + 1)) 0 0 8)) (w + 2) (va_cpy (μ (v + 2)) (jj_uc μ (w + 1) (va_cpy (μ (v + 1)) (μ (w + 1)) 0 0 8) (w + 2)) 0 0 64)) (w + 3) (va_cpy (μ (v + 3)) (jj_uc (jj_uc μ (w + 1) (va_cpy (μ (v + 1)) (μ (w + 1)) 0 0 8)) (w + 2) (va_cpy (μ (v + 2)) (jj_uc μ (w + 1) (va_cpy (μ (v + 1)) (μ (w + 1)) 0 0 8) (w + 2)) 0 0 64) (w + 3)) 0 0 64)) (w + 6) (va_cpy (μ (v + 6)) (jj_uc (jj_uc (jj_uc μ (w + 1) (va_cpy (μ (v + 1)) (μ (w + 1)) 0 0 8)) (w + 2) (va_cpy (μ (v + 2)) (jj_uc μ (w + 1) (va_cpy (μ (v + 1)) (μ (w + 1)) 0 0 8) (w + 2)) 0 0 64)) (w + 3) (va_cpy (μ (v + 3)) (jj_uc (jj_uc μ (w + 1) (va_cpy (μ (v + 1)) (μ (w + 1)) 0 0 8)) (w + 2) (va_cpy (μ (v + 2)) (jj_uc μ (w + 1) (va_cpy (μ (v + 1)) (μ (w + 1)) 0 0 8) (w + 2)) 0 0 64) (w + 3)) 0 0 64) (w + 6)) 0 0 50)) (w + 7) (va_cpy (μ (v + 7)) (jj_uc (jj_uc (jj_uc (jj_uc μ (w + 1) (va_cpy (μ (v + 1)) (μ (w + 1)) 0 0 8)) (w + 2) (va_cpy (μ (v + 2)) (jj_uc μ (w + 1) (va_cpy (μ (v + 1)) (μ (w + 1)) 0 0 8) (w + 2)) 0 0 64)) (w + 3) (va_cpy (μ (v + 3)) (jj_uc (jj_uc μ (w + 1) (va_cpy (μ (v + 1)) (μ (w + 1)) 0 0 8)) (w + 2) (va_cpy (μ (v + 2)) (jj_uc μ (w + 1) (va_cpy (μ (v + 1)) (μ (w + 1)) 0 0 8) (w + 2)) 0 0 64) (w + 3)) 0 0 64)) (w + 6) (va_cpy (μ (v + 6)) (jj_uc (jj_uc (jj_uc μ (w + 1) (va_cpy (μ (v + 1)) (μ (w + 1)) 0 0 8)) (w + 2) (va_cpy (μ (v + 2)) (jj_uc μ (w + 1) (va_cpy (μ (v + 1)) (μ (w + 1)) 0 0 8) (w + 2)) 0 0 64)) (w + 3) (va_cpy (μ (v + 3)) (jj_uc (jj_uc μ (w + 1) (va_cpy (μ (v + 1)) (μ (w + 1)) 0 0 8)) (w + 2) (va_cpy (μ (v + 2)) (jj_uc μ (w + 1) (va_cpy (μ (v + 1)) (μ (w + 1)) 0 0 8) (w + 2)) 0 0 64) (w + 3)) 0 0 64) (w + 6)) 0 0 50) (w + 7)) 0 0 20) := ⟨_, rfl⟩
  have o : ∀ a, a ≠ w + 1 → a ≠ w + 2 → a ≠ w + 3 → a ≠ w + 6 → a ≠ w + 7 → m5 a = μ a := fun a x1 x2 x3 x4 x5 => by rw [e5, juc_ne x5, juc_ne x4, juc_ne x3, juc_ne x2, juc_ne x1]
  have o1 : ∀ b, b < 8 → m5 (w + 1) b = μ (v + 1) b := fun b hb => by rw [e5, juc_ne (by omega), juc_ne (by omega), juc_ne (by omega), juc_ne (by omega), juc_eq, cpy0, if_pos hb]
  have o2 : ∀ b, b < 64 → m5 (w + 2) b = μ (v + 2) b := fun b hb => by rw [e5, juc_ne (by omega), juc_ne (by omega), juc_ne (by omega), juc_eq, cpy0, if_pos hb]
  have o3 : ∀ b, b < 64 → m5 (w + 3) b = μ (v + 3) b := fun b hb => by rw [e5, juc_ne (by omega), juc_ne (by omega), juc_eq, cpy0, if_pos hb]
  have o6 : ∀ b, b < 50 → m5 (w + 6) b = μ (v + 6) b := fun b hb => by rw [e5, juc_ne (by omega), juc_eq, cpy0, if_pos hb]
  have o7 : ∀ b, b < 20 → m5 (w + 7) b = μ (v + 7) b := fun b hb => by rw [e5, juc_eq, cpy0, if_pos hb]
  exact ⟨m5, by rw [e5]; rfl, o, o1, o2, o3, o6, o7⟩
theorem copy_ok {w v : Nat} (hwv : w + 20 ≤ v ∨ v + 20 ≤ w) {μ : jj_M} (hD : jDd v μ) {L0 L1 : Nat} (h0 : L0 ≤ 50) (h1 : L1 ≤ 50) (e0 : μ (v + 14) 1 = nI L0) (e1 : μ (v + 17) 1 = nI L1) : ∃ m, wof_copyFrom jz_N w v μ = some m ∧ jCp w v μ m := by
  obtain ⟨m5, run5, o, o1, o2, o3, o6, o7⟩ := five_ok jz_N hwv μ
  have vv : ∀ a, v ≤ a → a < v + 20 → m5 a = μ a := fun a x y => o a (by omega) (by omega) (by omega) (by omega) (by omega)
  obtain ⟨m6, q1, q2, q3⟩ := pers_cp (N := jz_N) hwv 6 0 jz_N m5 (by omega) (by decide) (fun p hp => by rw [vv _ (by omega) (by omega)]; exact hD p hp)
  have v6 : ∀ a, v ≤ a → a < v + 20 → m6 a = μ a := fun a x y => by rw [q2 a (by omega), vv a x y]
  obtain ⟨m, r1, r2, r3, r4⟩ := law_cp2 (N := jz_N) hwv h0 h1 (by decide) m6 (by rw [v6 _ (by omega) (by omega)]; exact e0) (by rw [v6 _ (by omega) (by omega)]; exact e1)
  refine ⟨m, ?_, fun a ha => by rw [r2 a (by omega) (by omega) (by omega) (by omega) (by omega), q2 a (by omega), o a (by omega) (by omega) (by omega) (by omega) (by omega)], fun j hj => ?_, fun u hu => ?_, fun p hp => ?_⟩
  · rw [run5, q1]
    exact r1
  · have low : ∀ a b, a ≠ w → a < w + 8 → w < a → m a b = m5 a b := fun a b x y z => by rw [r2 a (by omega) (by omega) (by omega) (by omega) (by omega), q2 a (by omega)]
    have v0 : ∀ j, 7 ≤ j → j < 14 → m w j = μ v j := fun j x y => by rw [r3 j x y, v6 v (by omega) (by omega)]
    unfold dm at hj
    by_cases a1 : j < 8
    · have x : ∀ w, lc w j = w + 1 := fun w => by unfold lc; rw [if_pos a1]
      rw [x, x, low _ _ (by omega) (by omega) (by omega)]
      exact o1 _ (by unfold li; rw [if_pos a1]; omega)
    by_cases a2 : j < 72
    · have x : ∀ w, lc w j = w + 2 := fun w => by unfold lc; rw [if_neg a1, if_pos a2]
      rw [x, x, low _ _ (by omega) (by omega) (by omega)]
      exact o2 _ (by unfold li; rw [if_neg a1, if_pos a2]; omega)
    by_cases a3 : j < 136
    · have x : ∀ w, lc w j = w + 3 := fun w => by unfold lc; rw [if_neg a1, if_neg a2, if_pos a3]
      rw [x, x, low _ _ (by omega) (by omega) (by omega)]
      exact o3 _ (by unfold li; rw [if_neg a1, if_neg a2, if_pos a3]; omega)
    by_cases a4 : j < 140
    · have x : ∀ w, lc w j = w := fun w => by unfold lc; rw [if_neg a1, if_neg a2, if_neg a3, if_pos a4]
      have y : 7 ≤ li j ∧ li j < 14 := by
        unfold li
        rw [if_neg a1, if_neg a2, if_neg a3]
        repeat' split
        all_goals omega
      rw [x, x]
      exact v0 _ y.1 y.2
    by_cases a5 : j < 176
    · have x : ∀ w, lc w j = w + 8 + (j - 140) / 6 := fun w => by unfold lc; rw [if_neg a1, if_neg a2, if_neg a3, if_neg a4, if_pos a5]
      have y : li j < 6 := by unfold li; rw [if_neg a1, if_neg a2, if_neg a3, if_neg (by omega), if_neg (by omega), if_neg (by omega), if_neg (by omega), if_pos a5]; omega
      rw [x, x, r2 _ (by omega) (by omega) (by omega) (by omega) (by omega), q3 _ _ (by omega) (by omega) y, vv _ (by omega) (by omega)]
    by_cases a6 : j < 179
    · have x : ∀ w, lc w j = w := fun w => by unfold lc; rw [if_neg a1, if_neg a2, if_neg a3, if_neg a4, if_neg a5, if_pos a6]
      have y : 7 ≤ li j ∧ li j < 14 := by
        unfold li
        rw [if_neg a1, if_neg a2, if_neg a3]
        repeat' split
        all_goals omega
      rw [x, x]
      exact v0 _ y.1 y.2
    by_cases a7 : j < 231
    · have x : ∀ w, lc w j = w + 6 := fun w => by unfold lc; rw [if_neg a1, if_neg a2, if_neg a3, if_neg a4, if_neg a5, if_neg a6, if_pos a7]
      rw [x, x, low _ _ (by omega) (by omega) (by omega)]
      refine o6 _ ?_
      unfold li
      rw [if_neg a1, if_neg a2, if_neg a3, if_neg (by omega), if_neg (by omega), if_neg (by omega), if_neg (by omega), if_neg a5, if_neg (by omega), if_neg (by omega), if_neg (by omega), if_pos a7]
      omega
    · have x : ∀ w, lc w j = w + 7 := fun w => by unfold lc; rw [if_neg a1, if_neg a2, if_neg a3, if_neg a4, if_neg a5, if_neg a6, if_neg a7]
      rw [x, x, low _ _ (by omega) (by omega) (by omega)]
      refine o7 _ ?_
      unfold li
      rw [if_neg a1, if_neg a2, if_neg a3, if_neg (by omega), if_neg (by omega), if_neg (by omega), if_neg (by omega), if_neg a5, if_neg (by omega), if_neg (by omega), if_neg (by omega), if_neg a7]
      omega
  · obtain ⟨s1, s2, s3⟩ := r4 u hu
    refine ⟨?_, ?_, fun i hi => ?_⟩
    · rw [s1, v6 _ (by omega) (by omega)]
    · rw [s2, q2 _ (by omega), o _ (by omega) (by omega) (by omega) (by omega) (by omega)]
    · rw [s3 i (by rw [v6 _ (by omega) (by omega)]; exact hi), v6 _ (by omega) (by omega)]
  · rw [r2 _ (by omega) (by omega) (by omega) (by omega) (by omega), q3 p 5 (by omega) hp (by omega), vv _ (by omega) (by omega)]
    exact hD p hp
