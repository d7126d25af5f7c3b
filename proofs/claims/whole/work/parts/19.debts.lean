/-! debts -/
theorem jI.owed {μ : jj_M} (h : jI μ) {j : Nat} (hj : j < 64) : μ 4 j = μ 61 (72 + j) ∧ jb (μ 61 (72 + j)) 0 9999 := by
  have ag := h.ag (j := 72 + j) (by omega)
  have l1 : lc 1 (72 + j) = 4 := by unfold lc; rw [if_neg (by omega), if_neg (by omega), if_pos (by omega)]
  have l3 : li (72 + j) = j := by unfold li; rw [if_neg (by omega), if_neg (by omega), if_pos (by omega)]; omega
  rw [l1, l3] at ag
  have b := h.S.1 (72 + j) (by omega)
  rw [show bdh (72 + j) = 9999 from by unfold bdh; rw [if_neg (by omega), if_neg (by omega), if_pos (by omega)]] at b
  exact ⟨ag, b⟩
theorem owe_i (a i : Nat) : nI a * 8 + nI i = nI (8 * a + i) ∧ (72 : Int32) + 8 * nI a + nI i = nI (72 + (8 * a + i)) := by
  rw [show (8 : Int32) = nI 8 from rfl, show (72 : Int32) = nI 72 from rfl, nz_mul, nz_mul, nz_add, nz_add, nz_add, Nat.mul_comm, Nat.add_assoc]
  exact ⟨rfl, rfl⟩
theorem nz_s (i : Nat) : nI i + 1 = nI (i + 1) := by rw [show (1 : Int32) = nI 1 from rfl, nz_add]
/-- one name's debt, summed -/
theorem debt_ok {μ : jj_M} (h : jI μ) {a : Nat} (ha : a < 8) (N M : Nat) (hM : 0 < M) : ∀ (k i f f2 : Nat) (s : Int32), i + k = 8 → k < f → k < f2 → ∃ r, wof_debtBehind_L6 M 1 (nI a) 0 0 μ f s (nI i) = some r ∧ mdf_owes_L4 N (nI a) μ f2 s (nI i) = some r := by
  intro k
  obtain ⟨M, rfl⟩ : ∃ m, M = m + 1 := ⟨M - 1, by omega⟩
  induction k with
  | zero =>
    intro i f f2 s hi hf hf2
    obtain ⟨f, rfl⟩ : ∃ m, f = m + 1 := ⟨f - 1, by omega⟩
    obtain ⟨f2, rfl⟩ : ∃ m, f2 = m + 1 := ⟨f2 - 1, by omega⟩
    have e : i = 8 := by omega
    subst e
    exact ⟨s, by rw [wof_debtBehind_L6, if_pos (by decide)], by rw [mdf_owes_L4, if_pos (by decide)]⟩
  | succ k ih =>
    intro i f f2 s hi hf hf2
    obtain ⟨f, rfl⟩ : ∃ m, f = m + 1 := ⟨f - 1, by omega⟩
    obtain ⟨f2, rfl⟩ : ∃ m, f2 = m + 1 := ⟨f2 - 1, by omega⟩
    have c8 : ¬ (8 : Int32) ≤ nI i := by rw [show (8 : Int32) = nI 8 from rfl, nz_le (by omega) (by omega)]; omega
    have w := nz_isW ha
    have c0 : ¬ nI a < 0 := by rw [show (0 : Int32) = nI 0 from rfl, nz_lt (by omega) (by omega)]; omega
    obtain ⟨e1, e2⟩ := owe_i a i
    have g1 : jj_i (nI (8 * a + i)) 64 := nz_in (by omega) (by omega)
    have g2 : jj_i (nI (72 + (8 * a + i))) 351 := nz_in (by omega) (by omega)
    have k1 : (nI (8 * a + i)).toNatClampNeg = 8 * a + i := nz_clamp (by omega)
    have k2 : (nI (72 + (8 * a + i))).toNatClampNeg = 72 + (8 * a + i) := nz_clamp (by omega)
    have z : (0 : Int32) ≤ 0 := by decide
    obtain ⟨r, r1, r2⟩ := ih (i + 1) f f2 (s + μ 61 (72 + (8 * a + i))) (by omega) (by omega) (by omega)
    refine ⟨r, ?_, ?_⟩
    · rw [wof_debtBehind_L6]
      simp only [c8, w, e1, eq_true g1, k1, wof_debtBehind_L37, z, ↓reduceIte, nz_s, (h.owed (j := 8 * a + i) (by omega)).1]
      exact r1
    · rw [mdf_owes_L4]
      simp only [c8, c0, e2, eq_true g2, k2, ↓reduceIte, nz_s]
      exact r2
theorem debtOf_ok {μ : jj_M} (h : jI μ) {a : Nat} (ha : a < 8) : ∃ r, wof_debtOf jz_N 1 (nI a) μ = some r ∧ mdf_owes jz_N (nI a) μ = some r := by
  obtain ⟨r, r1, r2⟩ := debt_ok h ha jz_N jz_N (by decide) 8 0 jz_N jz_N 0 (by omega) (by decide) (by decide)
  refine ⟨r, ?_, r2⟩
  unfold wof_debtOf wof_debtBehind
  rw [show wof_debtBehind_L6 jz_N 1 (nI a) 0 0 μ jz_N 0 0 = some r from r1]
  rfl
theorem debtOf_no (μ : jj_M) : wof_debtOf jz_N 1 (-1) μ = some 0 ∧ mdf_owes jz_N (-1) μ = some 0 := by
  unfold wof_debtOf wof_debtBehind mdf_owes
  obtain ⟨f, e⟩ : ∃ f, jz_N = f + 1 := ⟨jz_N - 1, by decide⟩
  have c8 : ¬ (8 : Int32) ≤ 0 := by decide
  have w : wnf_isWell (-1) = 0 := by decide
  have c0 : (-1 : Int32) < 0 := by decide
  have e1 : wof_debtBehind_L6 jz_N 1 (-1) 0 0 μ jz_N 0 0 = some 0 := by
    rw [e, wof_debtBehind_L6, if_neg c8, if_pos w]
  have e2 : mdf_owes_L4 jz_N (-1) μ jz_N 0 0 = some 0 := by
    rw [e, mdf_owes_L4, if_neg c8, if_pos c0]
  rw [e1, e2]
  exact ⟨rfl, rfl⟩
/-! grown -/
theorem min_held {v : Int32} (h : 0 ≤ v.toInt) : jdf_min 9999 v = mdf_held v 0 9999 ∧ jb (jdf_min 9999 v) 0 9999 := by
  have z0 : (0 : Int32).toInt = 0 := by decide
  have z9 : (9999 : Int32).toInt = 9999 := by decide
  have h0 : (0 : Int32) ≤ v := by rw [Int32.le_iff_toInt_le]; omega
  unfold jdf_min mdf_held
  rw [if_pos h0]
  by_cases c : v < 9999
  · have c' := c
    rw [Int32.lt_iff_toInt_lt, z9] at c'
    rw [if_pos c, if_pos (by rw [Int32.le_iff_toInt_le]; omega)]
    exact ⟨rfl, by omega, by omega⟩
  · have c' := c
    rw [Int32.lt_iff_toInt_lt, z9] at c'
    rw [if_neg c]
    refine ⟨?_, by decide⟩
    by_cases d : v ≤ 9999
    · rw [if_pos d]
      rw [Int32.le_iff_toInt_le, z9] at d
      exact (Int32.toInt_inj.mp (by omega)).symm
    · rw [if_neg d]
theorem grow_1 {x p : Nat} (hx : x ≤ 9999) (hp : p ≤ 20) : nI x + nI x * nI p / 100 = nI (x + x * p / 100) ∧ x + x * p / 100 ≤ 11999 := by
  have b : x * p ≤ 9999 * 20 := Nat.mul_le_mul hx hp
  have e : nI (x * p) / 100 = nI (x * p / 100) := by
    apply Int32.toInt_inj.mp
    rw [Int32.toInt_div, nz_toInt (by omega), nz_toInt (by omega), show (100 : Int32).toInt = 100 by decide]
    rw [show ((x * p : Nat) : Int).tdiv 100 = ((x * p / 100 : Nat) : Int) from by rw [Int.tdiv_eq_ediv_of_nonneg (by omega)]; omega]
    apply Int.bmod_eq_of_le <;> omega
  rw [nz_mul, e, nz_add]
  exact ⟨rfl, by omega⟩
theorem grow_ok (N : Nat) {n p : Nat} (hn : n ≤ 100) (hp : p ≤ 20) (a : Int32) (s s5 : Int32) (μ : jj_M) (K : Int32 → Int32 → Option Int32) (K2 : Int32 → Int32 → Option (Int32 × jj_M)) : ∀ (k i f f2 : Nat) (x : Int32), i + k = n → k < f → k < f2 → jb x 0 9999 → ∃ y, wof_debtBehind_L37 N K 1 a (nI n) (nI p) s s5 μ f x (nI i) = K (s + y) (s5 + 1) ∧ mdf_grown_L71 N K2 a (nI n) (nI p) s s5 μ f2 x (nI i) = K2 (s + y) (s5 + 1) := by
  intro k
  induction k with
  | zero =>
    intro i f f2 x hi hf hf2 hx
    obtain ⟨f, rfl⟩ : ∃ m, f = m + 1 := ⟨f - 1, by omega⟩
    obtain ⟨f2, rfl⟩ : ∃ m, f2 = m + 1 := ⟨f2 - 1, by omega⟩
    have c : nI n ≤ nI i := by rw [nz_le (by omega) (by omega)]; omega
    exact ⟨x, by rw [wof_debtBehind_L37, if_pos c], by rw [mdf_grown_L71, if_pos c]⟩
  | succ k ih =>
    intro i f f2 x hi hf hf2 hx
    obtain ⟨f, rfl⟩ : ∃ m, f = m + 1 := ⟨f - 1, by omega⟩
    obtain ⟨f2, rfl⟩ : ∃ m, f2 = m + 1 := ⟨f2 - 1, by omega⟩
    have c : ¬ nI n ≤ nI i := by rw [nz_le (by omega) (by omega)]; omega
    obtain ⟨X, hX, rfl⟩ := nz_ofb (x := x) (n := 10000) hx.1 (by have := hx.2; omega)
    obtain ⟨e, b⟩ := grow_1 (x := X) (p := p) (by omega) hp
    obtain ⟨m1, m2⟩ := min_held (v := nI X + nI X * nI p / 100) (by rw [e, nz_toInt (by omega)]; omega)
    obtain ⟨y, y1, y2⟩ := ih (i + 1) f f2 (jdf_min 9999 (nI X + nI X * nI p / 100)) (by omega) (by omega) (by omega) m2
    refine ⟨y, ?_, ?_⟩
    · rw [wof_debtBehind_L37, if_neg c, nz_s]
      exact y1
    · rw [mdf_grown_L71, if_neg c, nz_s, ← m1]
      exact y2
theorem grown_ok {μ : jj_M} (h : jI μ) {a n p : Nat} (ha : a < 8) (hn : n ≤ 100) (hp : p ≤ 20) (N : Nat) (hN : 100 < N) : ∀ (k i f f2 : Nat) (s : Int32), i + k = 8 → k < f → k < f2 → ∃ r, wof_debtBehind_L6 N 1 (nI a) (nI n) (nI p) μ f s (nI i) = some r ∧ mdf_grown_L44 N (nI a) (nI n) (nI p) μ f2 s (nI i) = some (r, μ) := by
  intro k
  induction k with
  | zero =>
    intro i f f2 s hi hf hf2
    obtain ⟨f, rfl⟩ : ∃ m, f = m + 1 := ⟨f - 1, by omega⟩
    obtain ⟨f2, rfl⟩ : ∃ m, f2 = m + 1 := ⟨f2 - 1, by omega⟩
    have e : i = 8 := by omega
    subst e
    exact ⟨s, by rw [wof_debtBehind_L6, if_pos (by decide)], by rw [mdf_grown_L44, if_pos (by decide)]⟩
  | succ k ih =>
    intro i f f2 s hi hf hf2
    obtain ⟨f, rfl⟩ : ∃ m, f = m + 1 := ⟨f - 1, by omega⟩
    obtain ⟨f2, rfl⟩ : ∃ m, f2 = m + 1 := ⟨f2 - 1, by omega⟩
    have c8 : ¬ (8 : Int32) ≤ nI i := by rw [show (8 : Int32) = nI 8 from rfl, nz_le (by omega) (by omega)]; omega
    have w := nz_isW ha
    obtain ⟨e1, e2⟩ := owe_i a i
    have g1 : jj_i (nI (8 * a + i)) 64 := nz_in (by omega) (by omega)
    have g2 : jj_i (nI (72 + (8 * a + i))) 351 := nz_in (by omega) (by omega)
    have k1 : (nI (8 * a + i)).toNatClampNeg = 8 * a + i := nz_clamp (by omega)
    have k2 : (nI (72 + (8 * a + i))).toNatClampNeg = 72 + (8 * a + i) := nz_clamp (by omega)
    obtain ⟨o1, o2⟩ := h.owed (j := 8 * a + i) (by omega)
    obtain ⟨y, y1, y2⟩ := grow_ok N hn hp (nI a) s (nI i) μ (wof_debtBehind_L6 N 1 (nI a) (nI n) (nI p) μ f) (mdf_grown_L44 N (nI a) (nI n) (nI p) μ f2) n 0 N N (μ 61 (72 + (8 * a + i))) (by omega) (by omega) (by omega) o2
    obtain ⟨r, r1, r2⟩ := ih (i + 1) f f2 (s + y) (by omega) (by omega) (by omega)
    refine ⟨r, ?_, ?_⟩
    · rw [wof_debtBehind_L6]
      simp only [c8, w, e1, eq_true g1, k1, o1, ↓reduceIte]
      rw [show (0 : Int32) = nI 0 from rfl, y1, nz_s]
      exact r1
    · rw [mdf_grown_L44]
      simp only [c8, e2, eq_true g2, k2, ↓reduceIte]
      rw [show (0 : Int32) = nI 0 from rfl, y2, nz_s]
      exact r2
theorem st_grown {μ : jj_M} (h : jI μ) (x1 x2 x3 : Int32) : ∃ (r : Int32) (μ1 : jj_M) (μ2 : jj_M), wnf_grown jz_N x1 x2 x3 μ = some (r, μ1) ∧ mdf_grown jz_N x1 x2 x3 μ1 = some (r, μ2) ∧ jI μ2 := by
  unfold wnf_grown mdf_grown
  rw [nz_isWell, show mdf_in (Int32.toInt64 x2) 0 100 = wnf_within x2 0 100 from nz_within x2 0 100, show mdf_in (Int32.toInt64 x3) 0 20 = wnf_within x3 0 20 from nz_within x3 0 20]
  obtain ⟨m1, m2, a, b, c⟩ := err1 h
  by_cases c1 : wnf_isWell x1 = 0
  · exact ⟨-1000000001, m1, m2, by simp only [c1, a, ↓reduceIte, Option.bind_some], by simp only [c1, b, ↓reduceIte, Option.bind_some], c⟩
  by_cases c2 : wnf_within x2 0 100 = 0
  · exact ⟨-1000000001, m1, m2, by simp only [c1, c2, a, ↓reduceIte, Option.bind_some], by simp only [c1, c2, b, ↓reduceIte, Option.bind_some], c⟩
  by_cases c3 : wnf_within x3 0 20 = 0
  · exact ⟨-1000000001, m1, m2, by simp only [c1, c2, c3, a, ↓reduceIte, Option.bind_some], by simp only [c1, c2, c3, b, ↓reduceIte, Option.bind_some], c⟩
  obtain ⟨w, hw, rfl⟩ := nz_well c1
  have z0 : (0 : Int32).toInt = 0 := by decide
  have z1 : (100 : Int32).toInt = 100 := by decide
  have z2 : (20 : Int32).toInt = 20 := by decide
  have b2 := w_b c2
  have b3 := w_b c3
  obtain ⟨n, hn, rfl⟩ := nz_ofb (x := x2) (n := 101) (by omega) (by omega)
  obtain ⟨p, hp, rfl⟩ := nz_ofb (x := x3) (n := 21) (by omega) (by omega)
  obtain ⟨r, r1, r2⟩ := grown_ok h hw (n := n) (p := p) (by omega) (by omega) jz_N (by decide) 8 0 jz_N jz_N 0 (by omega) (by decide) (by decide)
  refine ⟨r, μ, μ, ?_, ?_, h⟩
  · simp only [c1, c2, c3, ↓reduceIte]
    unfold wof_debtBehind
    rw [show wof_debtBehind_L6 jz_N 1 (nI w) (nI n) (nI p) μ jz_N 0 0 = some r from r1]
    rfl
  · simp only [c1, c2, c3, ↓reduceIte]
    exact r2
