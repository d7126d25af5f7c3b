/-! law, if the reference's reader reads right -/
theorem law_if (hA : anyOk jz_N) {μ : jj_M} (h : jI μ) (x1 x2 x3 x4 : Int32) : ∃ (r : Int32) (μ1 : jj_M) (μ2 : jj_M), wnf_law jz_N x1 x2 x3 x4 μ = some (r, μ1) ∧ mdf_law jz_N x1 x2 x3 x4 μ1 = some (r, μ2) ∧ jI μ2 := by
  unfold wnf_law mdf_law
  rw [show wnf_isUse x1 = wnf_within x1 0 1 from rfl, show mdf_in (Int32.toInt64 x1) 0 1 = wnf_within x1 0 1 from nz_within x1 0 1]
  by_cases c1 : wnf_within x1 0 1 = 0
  · obtain ⟨m1, m2, a, b, c⟩ := err1 h
    exact ⟨-1000000001, m1, m2, by simp only [c1, a, ↓reduceIte, Option.bind_some], by simp only [c1, b, ↓reduceIte, Option.bind_some], c⟩
  have hb := w_b c1
  have z0 : (0 : Int32).toInt = 0 := by decide
  have z1 : (1 : Int32).toInt = 1 := by decide
  obtain ⟨u, hu, rfl⟩ := nz_ofb (x := x1) (n := 2) (by omega) (by omega)
  have g : jj_i (nI u) 2 := nz_in (by omega) (by omega)
  have k : (nI u).toNatClampNeg = u := nz_clamp (by omega)
  have hl : jLaw (μ 61) (μ (15 + 3 * u)) (μ (15 + 3 * u + 1)) u := by
    rcases (by omega : u = 0 ∨ u = 1) with rfl | rfl
    · exact h.w.2.2.1
    · exact h.w.2.2.2.1
  obtain ⟨m, m1, m2⟩ := gives_ok hl hu x2 x3 x4
  have th : jTh μ m := by
    refine ⟨fun q hq hq2 => m2 q (fun e => hq ?_), fun j hj => by rw [m2 60 (by omega)]⟩
    unfold jFree
    omega
  have I := th.I h
  have e61 : m 61 = μ 61 := m2 61 (by omega)
  have hl2 : jLaw (m 61) (m (15 + 3 * u)) (m (15 + 3 * u + 1)) u := by
    rcases (by omega : u = 0 ∨ u = 1) with rfl | rfl
    · exact I.w.2.2.1
    · exact I.w.2.2.2.1
  obtain ⟨M, M1, M2⟩ := gives_m hA hl2 hu x2 x3 x4
  rw [e61] at M1
  refine ⟨lawv (μ 61) u x2 x3 x4, m, M, ?_, ?_, M2.I I⟩
  · simp only [c1, eq_true g, k, show 6 + 9 + 3 * u = 15 + 3 * u from rfl, m1, ↓reduceIte, Option.bind_some]
  · rcases (by omega : u = 0 ∨ u = 1) with rfl | rfl
    · rw [if_pos rfl] at M1
      simp only [c1, show nI 0 = (0 : Int32) from rfl, M1, ↓reduceIte, Option.bind_some]
      exact if_neg c1
    · rw [if_neg (by decide)] at M1
      have o : ¬ nI 1 = (0 : Int32) := by decide
      simp only [c1, o, M1, ↓reduceIte, Option.bind_some]
