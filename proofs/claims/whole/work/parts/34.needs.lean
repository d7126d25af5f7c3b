theorem held_ok (x : Int32) : mdf_held x 0 99 = jdf_max 0 (jdf_min 99 x) := by
  have z0 : (0 : Int32).toInt = 0 := by decide
  have z9 : (99 : Int32).toInt = 99 := by decide
  unfold mdf_held jdf_max jdf_min
  by_cases q : x < 99
  · rw [if_pos q]
    rw [Int32.lt_iff_toInt_lt, z9] at q
    by_cases p : (0 : Int32) ≤ x
    · rw [if_pos p, if_pos (by rw [Int32.le_iff_toInt_le]; omega)]
      by_cases r : (0 : Int32) < x
      · rw [if_pos r]
      · rw [if_neg r]
        rw [Int32.lt_iff_toInt_lt] at r
        rw [Int32.le_iff_toInt_le] at p
        exact Int32.toInt_inj.mp (by omega)
    · rw [if_neg p]
      rw [Int32.le_iff_toInt_le, z0] at p
      rw [if_neg (by rw [Int32.lt_iff_toInt_lt]; omega)]
  · rw [if_neg q]
    rw [Int32.lt_iff_toInt_lt, z9] at q
    rw [if_pos (by rw [Int32.le_iff_toInt_le]; omega), if_pos (show (0 : Int32) < 99 by decide)]
    by_cases r : x ≤ 99
    · rw [if_pos r]
      rw [Int32.le_iff_toInt_le] at r
      exact Int32.toInt_inj.mp (by omega)
    · rw [if_neg r]
theorem parched_c {μ : jj_M} (h : jI μ) (q : Nat) (x : Int32) : ∃ m, wof_parched jz_N 1 q x μ = some (lawv (μ 61) 1 x (μ q 1) (μ 1 10), m) ∧ ∀ k, k ≠ 20 → m k = μ k := by
  obtain ⟨m, m1, m2⟩ := gives_ok (p0 := 18) h.w.2.2.2.1 (by omega) x (μ q 1) (μ 1 10)
  refine ⟨m, ?_, m2⟩
  unfold wof_parched
  rw [show 1 + 5 + 12 = 18 from rfl, m1]
  rfl
/-- what somebody needs, as the reference has it -/
def needv (S : Nat → Int32) (p : Nat) (t : Int32) : Int32 := if S (140 + 6 * p) = 3 then lawv S 0 (S (140 + 6 * p + 1)) t (S 138) else if S (140 + 6 * p) = 6 then lawv S 0 (S (140 + 6 * p + 1)) t (S 138) + S (140 + 6 * p + 1) else 1
theorem needs_c {μ : jj_M} (h : jI μ) {n p : Nat} (hn : n ≤ 6) (en : μ 61 139 = nI n) (hp : p < n) (x : Int32) : ∃ m, wof_needs jz_N 1 (9 + p) x μ = some (needv (μ 61) p x, m) ∧ ∀ k, k ≠ 17 → m k = μ k := by
  have a0 := h.pag hn en hp (j := 0) (by omega)
  have a1 := h.pag hn en hp (j := 1) (by omega)
  have ad : μ 1 10 = μ 61 138 := h.ag (j := 138) (by omega)
  obtain ⟨m, m1, m2⟩ := gives_ok (p0 := 15) h.w.2.2.1 (by omega) (μ (9 + p) 1) x (μ 1 10)
  unfold wof_needs needv
  rw [show 1 + 5 + 9 = 15 from rfl, m1, a0, a1, ad, show 140 + 6 * p + 0 = 140 + 6 * p from rfl]
  by_cases k3 : μ 61 (140 + 6 * p) = 3
  · rw [if_pos k3, if_pos k3]
    exact ⟨m, rfl, m2⟩
  rw [if_neg k3, if_neg k3]
  by_cases k6 : μ 61 (140 + 6 * p) = 6
  · rw [if_pos k6, if_pos k6]
    refine ⟨m, ?_, m2⟩
    rw [Option.bind_some]
    show some (_ + m (9 + p) 1, m) = _
    rw [m2 (9 + p) (by omega), a1]
  rw [if_neg k6, if_neg k6]
  exact ⟨μ, rfl, fun _ _ => rfl⟩
