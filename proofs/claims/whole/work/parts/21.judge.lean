/-! pay -/
theorem err_61 {μ : jj_M} {e : Nat} {x : Int32} (he : e < 6) {m1 : jj_M} (a : wnf_refuse (nI e) μ = some (x, m1)) : ∀ k, k ≠ 59 → m1 k = μ k := by
  intro k hk
  rw [refuse_ok (e := e) he μ] at a
  rw [(Prod.mk.inj (Option.some.inj a)).2.symm, ju_ne hk]
theorem jPer.dead {S : Nat → Int32} {p : Nat} (h : jPer S p) : S (140 + 6 * p + 5) = 0 ∨ S (140 + 6 * p + 5) = 1 := by
  obtain ⟨_, _, _, _, h5⟩ := h
  rcases h5 with h5 | h5
  · exact Or.inl h5.1
  · exact Or.inr h5.1
theorem st_pay {μ : jj_M} (h : jI μ) (x1 x2 x3 : Int32) : ∃ (r : Int32) (μ1 : jj_M) (μ2 : jj_M), wnf_pay x1 x2 x3 μ = some (r, μ1) ∧ mdf_pay x1 x2 x3 μ1 = some (r, μ2) ∧ jI μ2 := by
  unfold wnf_pay mdf_pay
  obtain ⟨n, hn, en, en1⟩ := h.n
  rw [nz_isWell, show mdf_in (Int32.toInt64 x3) 1 9999 = wnf_within x3 1 9999 from nz_within x3 1 9999]
  obtain ⟨m1, m2, a, b, c⟩ := err1 h
  have e61 : m1 61 = μ 61 := err_61 (e := 1) (by omega) a 61 (by decide)
  obtain ⟨m3, m4, a3, b3, c3⟩ := err3 h
  have f61 : m3 61 = μ 61 := err_61 (e := 3) (by omega) a3 61 (by decide)
  have ip : ∀ m : jj_M, m 61 = μ 61 → mdf_isPerson x1 m = wnf_isPerson x1 μ := fun m e => isPer_ok hn en1 (by rw [e]; exact en) x1
  by_cases c1 : wnf_isPerson x1 μ = 0
  · exact ⟨-1000000001, m1, m2, by simp only [c1, a, ↓reduceIte, Option.bind_some], by simp only [ip m1 e61, c1, b, ↓reduceIte, Option.bind_some], c⟩
  by_cases c2 : wnf_isWell x2 = 0
  · exact ⟨-1000000001, m1, m2, by simp only [c1, c2, a, ↓reduceIte, Option.bind_some], by simp only [ip m1 e61, c1, c2, b, ↓reduceIte, Option.bind_some], c⟩
  obtain ⟨p, hp, rfl⟩ := nz_per hn en1 c1
  obtain ⟨w, hw, rfl⟩ := nz_well c2
  have P := h.per hn en hp
  have g : jj_i (nI p) 6 := nz_in (by omega) (by omega)
  have kp : (nI p).toNatClampNeg = p := nz_clamp (by omega)
  have d9 : 5 + 4 + p = 9 + p := by omega
  have t3 : ∀ m : jj_M, m 61 = μ 61 → mdf_its (nI p) 3 m = some (μ 61 (140 + 6 * p + 3)) := fun m e => by rw [show (3 : Int32) = nI 3 from rfl, its_ok (by omega) (by omega), e]
  have t5 : ∀ m : jj_M, m 61 = μ 61 → mdf_its (nI p) 5 m = some (μ 61 (140 + 6 * p + 5)) := fun m e => by rw [show (5 : Int32) = nI 5 from rfl, its_ok (by omega) (by omega), e]
  have a3' := h.pag hn en hp (j := 3) (by omega)
  have a5' := h.pag hn en hp (j := 5) (by omega)
  by_cases c3' : wnf_within x3 1 9999 = 0
  · refine ⟨-1000000001, m1, m2, by simp only [c1, c2, c3', a, ↓reduceIte, Option.bind_some], ?_, c⟩
    by_cases q : nI w = μ 61 (140 + 6 * p + 3)
    · simp only [ip m1 e61, c1, c2, t3 m1 e61, b, ↓reduceIte, Option.bind_some]
      rw [if_pos q]
    · simp only [ip m1 e61, c1, c2, t3 m1 e61, q, c3', b, ↓reduceIte, Option.bind_some]
  by_cases c4 : μ 61 (140 + 6 * p + 3) = nI w
  · refine ⟨-1000000001, m1, m2, by simp only [c1, c2, c3', eq_true g, kp, d9, a3', c4, a, ↓reduceIte, not_false_eq_true, Option.bind_some], ?_, c⟩
    simp only [ip m1 e61, c1, c2, t3 m1 e61, b, ↓reduceIte, Option.bind_some]
    rw [if_pos c4.symm]
  have c4' : ¬ nI w = μ 61 (140 + 6 * p + 3) := fun e => c4 e.symm
  rcases P.dead with d0 | d1
  rotate_left
  · have o : ¬ (1 : Int32) = 0 := by decide
    exact ⟨-1000000003, m3, m4, by simp only [c1, c2, c3', eq_true g, kp, d9, a3', a5', c4, d1, o, a3, ↓reduceIte, not_false_eq_true, Option.bind_some], by simp only [ip m3 f61, c1, c2, t3 m3 f61, t5 m3 f61, c3', c4', d1, b3, ↓reduceIte, Option.bind_some], c3⟩
  have z1 : ¬ (0 : Int32) = 1 := by decide
  obtain ⟨_, _, _, P4, _⟩ := P
  rcases P4 with q | ⟨v, hv, q⟩
  · have q' : ¬ (-1 : Int32) = nI w := by rw [← q]; exact c4
    have q'' : ¬ nI w = (-1 : Int32) := by rw [← q]; exact c4'
    have q3 : (-1 : Int32) < 0 := by decide
    refine ⟨-1000000003, m3, m4, by simp only [c1, c2, c3', eq_true g, kp, d9, a3', a5', q, q', d0, a3, ↓reduceIte, not_false_eq_true, Option.bind_some], by simp only [ip m3 f61, c1, c2, t3 m3 f61, t5 m3 f61, c3', q, q'', q3, d0, z1, b3, ↓reduceIte, Option.bind_some], c3⟩
  have q1 : ¬ nI v = (-1 : Int32) := by
    intro e
    have : (nI v).toInt = -1 := by rw [e]; decide
    rw [nz_toInt (by omega)] at this
    omega
  have q2 : ¬ nI v < (0 : Int32) := by rw [show (0 : Int32) = nI 0 from rfl, nz_lt (by omega) (by omega)]; omega
  have c4 : ¬ nI v = nI w := by rw [← q]; exact c4
  have c4' : ¬ nI w = nI v := fun e => c4 e.symm
  obtain ⟨i1, i2⟩ := owe_i v w
  have g1 : jj_i (nI (8 * v + w)) 64 := nz_in (by omega) (by omega)
  have g2 : jj_i (nI (72 + (8 * v + w))) 351 := nz_in (by omega) (by omega)
  have k1 : (nI (8 * v + w)).toNatClampNeg = 8 * v + w := nz_clamp (by omega)
  have k2 : (nI (72 + (8 * v + w))).toNatClampNeg = 72 + (8 * v + w) := nz_clamp (by omega)
  obtain ⟨o1, o2⟩ := h.owed (j := 8 * v + w) (by omega)
  by_cases c5 : x3 ≤ μ 61 (72 + (8 * v + w))
  rotate_left
  · refine ⟨-1000000003, m3, m4, by simp only [c1, c2, c3', eq_true g, kp, d9, a3', a5', q, c4, q1, d0, i1, eq_true g1, k1, o1, c5, a3, ↓reduceIte, not_false_eq_true, Option.bind_some], by simp only [ip m3 f61, c1, c2, t3 m3 f61, t5 m3 f61, c3', q, c4', q2, d0, z1, i2, eq_true g2, k2, f61, c5, b3, ↓reduceIte, Option.bind_some], c3⟩
  have hb := w_b c3'
  have z1' : (1 : Int32).toInt = 1 := by decide
  have z9 : (9999 : Int32).toInt = 9999 := by decide
  have c5' := c5
  rw [Int32.le_iff_toInt_le] at c5'
  have hv' : jb (μ 61 (72 + (8 * v + w)) - x3) 0 9999 := by
    have e := nz_subI (x := μ 61 (72 + (8 * v + w))) (y := x3) (by omega) (by omega)
    unfold jb
    rw [e]
    omega
  have l1 : lc 1 (72 + (8 * v + w)) = 4 := by unfold lc; rw [if_neg (by omega), if_neg (by omega), if_pos (by omega)]
  have l3 : li (72 + (8 * v + w)) = 8 * v + w := by unfold li; rw [if_neg (by omega), if_neg (by omega), if_pos (by omega)]; omega
  have hw := h.wr (j := 72 + (8 * v + w)) (v := μ 61 (72 + (8 * v + w)) - x3) (by unfold dm; omega) (by omega) (h.S.up (by omega) (fun _ => by unfold bdh; rw [if_neg (by omega), if_neg (by omega), if_pos (by omega)]; exact hv'))
  rw [l1, l3] at hw
  have r4 : jj_u μ 4 (8 * v + w) (μ 61 (72 + (8 * v + w)) - x3) (9 + p) = μ (9 + p) := ju_ne (by omega)
  have r61 : jj_u μ 4 (8 * v + w) (μ 61 (72 + (8 * v + w)) - x3) 61 = μ 61 := ju_ne (by omega)
  refine ⟨μ 61 (72 + (8 * v + w)) - x3, jj_u μ 4 (8 * v + w) (μ 61 (72 + (8 * v + w)) - x3), _, ?_, ?_, hw⟩
  · simp only [c1, c2, c3', eq_true g, kp, d9, a3', a5', q, c4, q1, d0, i1, eq_true g1, k1, o1, c5, r4, ju_self, ↓reduceIte, not_false_eq_true, Option.bind_some]
  · simp only [ip _ r61, c1, c2, t3 _ r61, t5 _ r61, c3', q, c4', q2, d0, z1, i2, eq_true g2, k2, r61, c5, ju_self, ↓reduceIte, Option.bind_some]
/-! judge -/
theorem judge_ok {μ : jj_M} (h : jI μ) {n s z : Nat} (hn : n ≤ 6) (en : μ 61 139 = nI n) (en1 : μ 1 7 = nI n) (hs : s < 4) (hz : z ≤ 40) (ez : μ 69 s = nI z) (N : Nat) : ∀ (k i f : Nat), i + k = min z n → k < f → ∃ r, wof_firstMisnamed_L14 N 1 (51 + 2 * s) (nI (min z n)) μ f (nI i) = some r ∧ mdf_judge_L18 N (nI s) μ f (nI i) = some (r, μ) := by
  obtain ⟨s1, s2, _, _, s5⟩ := h.sh hs
  intro k
  have gs : jj_i (nI s) 4 := nz_in (by omega) (by omega)
  have ks : (nI s).toNatClampNeg = s := nz_clamp (by omega)
  induction k with
  | zero =>
    intro i f hi hf
    obtain ⟨f, rfl⟩ : ∃ m, f = m + 1 := ⟨f - 1, by omega⟩
    have e : i = min z n := by omega
    have c : nI (min z n) ≤ nI i := by rw [e]; exact Int32.le_refl _
    have w : mdf_judge_L18 N (nI s) μ (f + 1) (nI i) = mdf_judge_B66 N (nI s) (nI i) μ := by
      rw [mdf_judge_L18]
      by_cases q : z ≤ i
      · simp only [eq_true gs, ks, ez, eq_true ((nz_le (a := z) (b := i) (by omega) (by omega)).mpr q), ↓reduceIte]
      · have q2 : n ≤ i := by omega
        simp only [eq_true gs, ks, ez, en, eq_false (mt (nz_le (a := z) (b := i) (by omega) (by omega)).mp q), eq_true ((nz_le (a := n) (b := i) (by omega) (by omega)).mpr q2), ↓reduceIte]
    rw [w, wof_firstMisnamed_L14, if_pos c, s2, ez, en1]
    unfold mdf_judge_B66
    simp only [en, ks, eq_true gs, ez, ↓reduceIte]
    by_cases q : z = n
    · subst q
      rw [if_pos rfl, if_pos rfl]
      have : i = z := by omega
      rw [this, if_pos rfl]
      exact ⟨-1, rfl, rfl⟩
    · have q1 : ¬ nI z = nI n := nI_ne (by omega) (by omega) q
      rw [if_neg q1, if_neg q1, ← e]
      refine ⟨nI i, rfl, ?_⟩
      by_cases q2 : nI i = nI n
      · rw [if_pos q2]
      · rw [if_neg q2]
  | succ k ih =>
    intro i f hi hf
    obtain ⟨f, rfl⟩ : ∃ m, f = m + 1 := ⟨f - 1, by omega⟩
    have c : ¬ nI (min z n) ≤ nI i := by rw [nz_le (by omega) (by omega)]; omega
    have q1 : ¬ nI z ≤ nI i := by rw [nz_le (by omega) (by omega)]; omega
    have q2 : ¬ nI n ≤ nI i := by rw [nz_le (by omega) (by omega)]; omega
    have g40 : jj_i (nI i) 40 := nz_in (by omega) (by omega)
    have g6 : jj_i (nI i) 6 := nz_in (by omega) (by omega)
    have k1 : (nI i).toNatClampNeg = i := nz_clamp (by omega)
    have e4 : (40 : Int32) * nI s + nI i = nI (40 * s + i) := by rw [show (40 : Int32) = nI 40 from rfl, nz_mul, nz_add]
    have g160 : jj_i (nI (40 * s + i)) 160 := nz_in (by omega) (by omega)
    have k2 : (nI (40 * s + i)).toNatClampNeg = 40 * s + i := nz_clamp (by omega)
    have d9 : 1 + 4 + 4 + i = 9 + i := by omega
    have d52 : 51 + 2 * s + 1 = 52 + 2 * s := by omega
    have a3 := h.pag hn en (p := i) (j := 3) (by omega) (by omega)
    have t3 : mdf_its (nI i) 3 μ = some (μ 61 (140 + 6 * i + 3)) := its_ok (p := i) (j := 3) (by omega) (by omega)
    by_cases q : μ 70 (40 * s + i) = μ 61 (140 + 6 * i + 3)
    · obtain ⟨r, r1, r2⟩ := ih (i + 1) f (by omega) (by omega)
      refine ⟨r, ?_, ?_⟩
      · rw [wof_firstMisnamed_L14]
        simp only [c, eq_true g40, eq_true g6, k1, d9, d52, s5 i (by omega), a3, q, ↓reduceIte, nz_s]
        exact r1
      · rw [mdf_judge_L18]
        simp only [eq_true gs, ks, ez, en, q1, q2, e4, eq_true g160, k2, t3, q, ↓reduceIte, nz_s, Option.bind_some]
        exact r2
    · refine ⟨nI i, ?_, ?_⟩
      · rw [wof_firstMisnamed_L14]
        simp only [c, eq_true g40, eq_true g6, k1, d9, d52, s5 i (by omega), a3, q, ↓reduceIte]
      · rw [mdf_judge_L18]
        have q3 : ¬ nI i = nI n := nI_ne (by omega) (by omega) (by omega)
        simp only [eq_true gs, ks, ez, en, q1, q2, e4, eq_true g160, k2, t3, q, mdf_judge_B66, q3, ↓reduceIte, Option.bind_some]
theorem st_judge {μ : jj_M} (h : jI μ) (x1 : Int32) : ∃ (r : Int32) (μ1 : jj_M) (μ2 : jj_M), wnf_judge jz_N x1 μ = some (r, μ1) ∧ mdf_judge jz_N x1 μ1 = some (r, μ2) ∧ jI μ2 := by
  unfold wnf_judge mdf_judge
  by_cases c1 : wnf_isSheet x1 = 0
  · obtain ⟨m1, m2, a, b, c⟩ := err1 h
    have o : ¬ (-1000000001 : Int32) = 0 := by decide
    exact ⟨-1000000001, m1, m2, by simp only [c1, a, ↓reduceIte, Option.bind_some], by simp only [wrong_no c1, o, b, ↓reduceIte, Option.bind_some], c⟩
  obtain ⟨s, hs, rfl⟩ := nz_sheet c1
  obtain ⟨s1, s2, s3, ⟨z, hz, ez, _⟩, s5⟩ := h.sh hs
  obtain ⟨n, hn, en, en1⟩ := h.n
  have gs : jj_i (nI s) 4 := nz_in (by omega) (by omega)
  have ks : (nI s).toNatClampNeg = s := nz_clamp (by omega)
  have d51 : 50 + 1 + 2 * s = 51 + 2 * s := by omega
  have ms := missing_s s1
  by_cases c2 : μ 68 s = 0
  · obtain ⟨m1, m2, a, b, c⟩ := err2 h
    have e68 : m1 68 = μ 68 := err_61 (e := 2) (by omega) a 68 (by decide)
    have o : ¬ (-1000000002 : Int32) = 0 := by decide
    have c3 : ¬ shf_isMissing (51 + 2 * s) μ = 0 := fun e => ms.mp e c2
    have w := wrong_s (s := s) (μ := m1) hs
    rw [e68, if_pos c2] at w
    exact ⟨-1000000002, m1, m2, by simp only [c1, eq_true gs, ks, d51, c3, a, ↓reduceIte, Option.bind_some], by simp only [w, o, b, ↓reduceIte, Option.bind_some], c⟩
  · have c3 : shf_isMissing (51 + 2 * s) μ = 0 := ms.mpr c2
    have w := wrong_s (s := s) (μ := μ) hs
    rw [if_neg c2] at w
    obtain ⟨r, r1, r2⟩ := judge_ok h hn en en1 hs hz ez jz_N (min z n) 0 jz_N (by omega) (by have := jz_ge; omega)
    have em : jdf_min (μ (51 + 2 * s) 2) (μ 1 7) = nI (min z n) := by
      rw [s2, ez, en1]
      unfold jdf_min
      by_cases q : n < z
      · rw [if_pos ((nz_lt (by omega) (by omega)).mpr q)]; congr 1; omega
      · rw [if_neg (mt (nz_lt (by omega) (by omega)).mp q)]; congr 1; omega
    refine ⟨r, μ, μ, ?_, ?_, h⟩
    · simp only [c1, eq_true gs, ks, d51, c3, wof_firstMisnamed, em, ↓reduceIte]
      rw [show wof_firstMisnamed_L14 jz_N 1 (51 + 2 * s) (nI (min z n)) μ jz_N 0 = some r from r1]
      rfl
    · simp only [w, ↓reduceIte, Option.bind_some]
      exact r2
