/-! as, judge -/
theorem isOf_free (N : Nat) (x1 : Int32) (μ : jj_M) : ∀ n x2 x3, pef_isOf_L7 N x1 μ n x2 x3 = pef_isOf_L7 0 x1 (fun _ _ => 0) n x2 x3 := by
  intro n
  induction n with
  | zero => intro _ _; rfl
  | succ n ih =>
    intro x2 x3
    simp only [pef_isOf_L7, ih]
theorem isOf_more (x1 : Int32) (r : Int32) : ∀ n x2 x3, pef_isOf_L7 0 x1 (fun _ _ => 0) n x2 x3 = some r → ∀ k, pef_isOf_L7 0 x1 (fun _ _ => 0) (n + k) x2 x3 = some r := by
  intro n
  induction n with
  | zero => intro x2 x3 h; simp [pef_isOf_L7] at h
  | succ n ih =>
    intro x2 x3 h k
    rw [show n + 1 + k = (n + k) + 1 by omega]
    simp only [pef_isOf_L7] at h ⊢
    split at h
    · rename_i g; rw [if_pos g]; exact h
    · rename_i g
      rw [if_neg g]
      split at h
      · rename_i g; rw [if_pos g]; exact h
      · rename_i g
        rw [if_neg g]
        split at h
        · rename_i g; rw [if_pos g]; exact h
        · rename_i g
          rw [if_neg g]
          split at h
          · rename_i g; rw [if_pos g]; exact ih _ _ h k
          · exact absurd h (by simp)
theorem isOf_ok (N : Nat) (μ : jj_M) {k x : Nat} (hk : k < 7) (hx : x < 7) : pef_isOf_L7 N (nI x) μ jz_N (nI k) 0 = some (mdf_isUnder (nI k) (nI x)) := by
  have key : ∀ k, k < 7 → ∀ x, x < 7 → pef_isOf_L7 0 (nI x) (fun _ _ => 0) 9 (nI k) 0 = some (mdf_isUnder (nI k) (nI x)) := by decide +kernel
  rw [isOf_free, show jz_N = 9 + (jz_N - 9) from rfl]
  exact isOf_more _ _ _ _ _ (key k hk x hx) _
theorem err_n {μ : jj_M} {e : Nat} {n : Nat} {x : Int32} (he : e < 6) (en : μ 61 139 = nI n) {m1 : jj_M} (a : wnf_refuse (nI e) μ = some (x, m1)) : m1 61 139 = nI n := by
  rw [refuse_ok (e := e) he μ] at a
  have em := (Prod.mk.inj (Option.some.inj a)).2.symm
  rw [em, ju_ne (by decide)]
  exact en
theorem st_as {μ : jj_M} (h : jI μ) (x1 x2 : Int32) : ∃ (r : Int32) (μ1 : jj_M) (μ2 : jj_M), wnf_as jz_N x1 x2 μ = some (r, μ1) ∧ mdf_as x1 x2 μ1 = some (r, μ2) ∧ jI μ2 := by
  unfold wnf_as mdf_as
  obtain ⟨n, hn, en, en1⟩ := h.n
  rw [show mdf_in (Int32.toInt64 x2) 0 6 = wnf_within x2 0 6 from nz_within x2 0 6]
  obtain ⟨m1, m2, a, b, c⟩ := err1 h
  by_cases c1 : wnf_isPerson x1 μ = 0
  · exact ⟨-1000000001, m1, m2, by rw [if_pos c1, a]; rfl, by rw [isPer_ok hn en1 (err_n (e := 1) (by omega) en a), if_pos c1, b]; rfl, c⟩
  by_cases c2 : wnf_within x2 0 6 = 0
  · exact ⟨-1000000001, m1, m2, by rw [if_neg c1, if_pos c2, a]; rfl, by rw [isPer_ok hn en1 (err_n (e := 1) (by omega) en a), if_neg c1, if_pos c2, b]; rfl, c⟩
  obtain ⟨p, hp, rfl⟩ := nz_per hn en1 c1
  obtain ⟨x, hx, rfl⟩ : ∃ x, x < 7 ∧ x2 = nI x := by
    have hb := w_b c2
    have z0 : (0 : Int32).toInt = 0 := by decide
    have z1 : (6 : Int32).toInt = 6 := by decide
    exact nz_ofb (by omega) (by omega)
  have P := h.per hn en hp
  obtain ⟨⟨k, hk, ek⟩, _⟩ := P
  have g : jj_i (nI p) 6 := nz_in (by omega) (by omega)
  have kp : (nI p).toNatClampNeg = p := nz_clamp (by omega)
  have d9 : 5 + 4 + p = 9 + p := by omega
  have e0 : μ (9 + p) 0 = nI k := by rw [h.pag hn en hp (by omega)]; exact ek
  have io : pef_isOf jz_N (9 + p) (nI x) μ = some (mdf_isUnder (nI k) (nI x)) := by
    unfold pef_isOf
    rw [e0]
    exact isOf_ok _ _ hk hx
  have its0 : ∀ m : jj_M, m 61 = μ 61 → mdf_its (nI p) 0 m = some (nI k) := fun m e => by
    rw [show (0 : Int32) = nI 0 from rfl, its_ok (by omega) (by omega), e]; exact congrArg some ek
  by_cases c3 : mdf_isUnder (nI k) (nI x) = 0
  · obtain ⟨m1, m2, a, b, c⟩ := err5 h
    have e61 : m1 61 = μ 61 := by
      rw [show wnf_refuse 5 μ = _ from refuse_ok (e := 5) (by omega) μ] at a
      rw [(Prod.mk.inj (Option.some.inj a)).2.symm, ju_ne (by decide)]
    refine ⟨-1000000005, m1, m2, ?_, ?_, c⟩
    · simp only [c1, c2, eq_true g, kp, d9, io, c3, a, ↓reduceIte, not_false_eq_true, Option.bind_some]
    · rw [isPer_ok hn en1 (by rw [e61]; exact en)]
      simp only [c1, c2, its0 m1 e61, c3, b, ↓reduceIte, not_false_eq_true, Option.bind_some]
  · refine ⟨μ (9 + p) 1, μ, μ, ?_, ?_, h⟩
    · simp only [c1, c2, eq_true g, kp, d9, io, c3, ↓reduceIte, not_false_eq_true, Option.bind_some]
    · rw [isPer_ok hn en1 en]
      simp only [c1, c2, its0 μ rfl, c3, ↓reduceIte, not_false_eq_true, Option.bind_some]
      rw [show (1 : Int32) = nI 1 from rfl, its_ok (by omega) (by omega), ← h.pag hn en hp (by omega)]
      rfl
