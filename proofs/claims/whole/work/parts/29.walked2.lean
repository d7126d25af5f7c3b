theorem wk_0 {μ : jj_M} {s : Nat} (hs : s < 4) (N f : Nat) (i : Int32) : mdf_isWalk_L26 N (nI s) μ (f + 1) 0 i = some 0 := by
  have gs : jj_i (nI s) 4 := nz_in (by omega) (by omega)
  rw [mdf_isWalk_L26]
  by_cases q2 : μ 69 (nI s).toNatClampNeg ≤ i
  · simp only [eq_true gs, q2, true_or, ↓reduceIte]
  · simp only [eq_true gs, q2, true_or, ↓reduceIte]
theorem isWalk_congr {μ m : jj_M} (e1 : m 61 = μ 61) (e2 : m 68 = μ 68) (e3 : m 69 = μ 69) (e4 : m 70 = μ 70) (N : Nat) (x : Int32) : mdf_isWalk N x m = mdf_isWalk N x μ := by
  have key : ∀ n a b, mdf_isWalk_L26 N x m n a b = mdf_isWalk_L26 N x μ n a b := by
    intro n
    induction n with
    | zero => intro a b; rfl
    | succ n ih =>
      intro a b
      have ih2 : mdf_isWalk_L26 N x m n = mdf_isWalk_L26 N x μ n := funext fun a => funext fun b => ih a b
      simp only [mdf_isWalk_L26, mdf_isWalk_B75, mdf_roadOf, e1, e3, e4, ih2]
  unfold mdf_isWalk
  rw [e2, e3, key, key]
theorem st_walked {μ : jj_M} (h : jI μ) (x1 : Int32) : ∃ (r : Int32) (μ1 : jj_M) (μ2 : jj_M), wnf_walked jz_N x1 μ = some (r, μ1) ∧ mdf_walked jz_N x1 μ1 = some (r, μ2) ∧ jI μ2 := by
  unfold wnf_walked mdf_walked
  rw [nz_isSheet]
  by_cases c1 : wnf_isSheet x1 = 0
  · obtain ⟨m1, m2, a, b, c⟩ := err1 h
    exact ⟨-1000000001, m1, m2, by simp only [c1, a, ↓reduceIte, Option.bind_some], by simp only [c1, b, ↓reduceIte, Option.bind_some], c⟩
  obtain ⟨s, hs, rfl⟩ := nz_sheet c1
  obtain ⟨A1, A2, A3, ⟨z, hz, ez, ez0⟩, A5⟩ := h.sh hs
  have gs : jj_i (nI s) 4 := nz_in (by omega) (by omega)
  have ks : (nI s).toNatClampNeg = s := nz_clamp (by omega)
  have d51 : 50 + 1 + 2 * s = 51 + 2 * s := by omega
  obtain ⟨r, hr, hg, hb⟩ := first_bad (wkG μ s) (fun i => by unfold wkG; infer_instance) z
  have big := jz_ge
  obtain ⟨F, eF⟩ : ∃ F, jz_N = F + 1 := ⟨jz_N - 1, by omega⟩
  have V : wyf_walkedHours jz_N (51 + 2 * s) μ = some (if r = z ∧ z ≠ 0 then 0 + sumI (wkR μ s) 0 r else -1) := wk_c h hs hz (A2.trans ez) hr hg hb jz_N r 0 jz_N 0 (by omega) (by omega)
  have M : mdf_isWalk jz_N (nI s) μ = some (if r = z ∧ z ≠ 0 then 1 else 0) := by
    have m0 : mdf_isWalk_L26 jz_N (nI s) μ jz_N 0 0 = some 0 := by
      have := wk_0 (μ := μ) hs jz_N F 0
      rwa [← eF] at this
    unfold mdf_isWalk
    simp only [eq_true gs, ks, ez, ↓reduceIte]
    by_cases q : μ 68 s ≤ 0
    · rw [if_pos q, m0]
      have zz : z = 0 := by
        refine ez0 ?_
        rcases A3 with e | e | e | e
        · exact e
        · rw [e] at q; exact absurd q (by decide)
        · rw [e] at q; exact absurd q (by decide)
        · rw [e] at q; exact absurd q (by decide)
      rw [if_neg (fun e => e.2 zz)]
    rw [if_neg q]
    by_cases q2 : z = 0
    · subst q2
      rw [if_pos (show nI 0 ≤ 0 by decide), m0, if_neg (fun e => e.2 rfl)]
    · rw [if_neg (by rw [show (0 : Int32) = nI 0 from rfl, nz_le (by omega) (by omega)]; omega)]
      have e := wk_m h hs hz ez hr hg hb jz_N r 0 jz_N (by omega) (by omega)
      have e : mdf_isWalk_L26 jz_N (nI s) μ jz_N 1 0 = some (if r = z then 1 else 0) := e
      rw [e]
      by_cases q3 : r = z
      · rw [if_pos q3, if_pos ⟨q3, q2⟩]
      · rw [if_neg q3, if_neg (fun e => q3 e.1)]
  by_cases G : r = z ∧ z ≠ 0
  · rw [if_pos G] at V M
    obtain ⟨rfl, zn⟩ := G
    have g0 := hg 0 (by omega)
    obtain ⟨a, ha, ea⟩ := nz_well g0.1
    have R0 : wkR μ s 0 = 0 := by
      unfold wkR
      rw [show (0 : Nat) - 1 = 0 from rfl, ea, nz_clamp (by omega)]
      exact h.S.2.2.1 a ha
    have Rb : ∀ j, 0 ≤ j → j < 0 + r → jb (wkR μ s j) 0 20 := by
      intro j _ hj
      obtain ⟨w, _⟩ := hg j (by omega)
      have w2 := wk_prev (fun b hb => hg b (by omega)) w
      obtain ⟨p, hp, ep⟩ := nz_well w2
      obtain ⟨q, hq, eq⟩ := nz_well w
      unfold wkR
      rw [ep, eq, nz_clamp (by omega), nz_clamp (by omega)]
      exact (h.road (j := 8 * p + q) (by omega)).2
    obtain ⟨y, hy, eY⟩ := sumI_b (g := wkR μ s) (m := 20) (by omega) r 0 (by omega) Rb
    have e1 : sumI (wkR μ s) 0 r = sumI (wkR μ s) 1 (r - 1) := by
      obtain ⟨t, rfl⟩ : ∃ t, r = t + 1 := ⟨r - 1, by omega⟩
      rw [sumI, R0, Int32.zero_add, Nat.add_sub_cancel]
    have pos : (0 : Int32) ≤ nI y := by rw [show (0 : Int32) = nI 0 from rfl, nz_le (by omega) (by omega)]; omega
    rw [Int32.zero_add, eY] at V
    have W := wk_s hs hz ez hg jz_N (r - 1) 1 jz_N 0 (by omega) (by omega) (by omega)
    rw [Int32.zero_add, ← e1, eY] at W
    refine ⟨nI y, μ, μ, ?_, ?_, h⟩
    · simp only [c1, eq_true gs, ks, d51, V, pos, ↓reduceIte, Option.bind_some]
    · have o : ¬ (1 : Int32) = 0 := by decide
      simp only [c1, M, o, ↓reduceIte, Option.bind_some]
      exact W
  · rw [if_neg G] at V M
    obtain ⟨m1, m2, a, b, c⟩ := err2 h
    have e := err_61 (e := 2) (by omega) a
    have neg : ¬ (0 : Int32) ≤ -1 := by decide
    have M1 := (isWalk_congr (e 61 (by decide)) (e 68 (by decide)) (e 69 (by decide)) (e 70 (by decide)) jz_N (nI s)).trans M
    exact ⟨-1000000002, m1, m2, by simp only [c1, eq_true gs, ks, d51, V, neg, a, ↓reduceIte, Option.bind_some], by simp only [c1, M1, b, ↓reduceIte, Option.bind_some], c⟩
