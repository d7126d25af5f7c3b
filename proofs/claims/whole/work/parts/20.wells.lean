/-! ofWell, same -/
theorem jI.road {μ : jj_M} (h : jI μ) {j : Nat} (hj : j < 64) : μ 3 j = μ 61 (8 + j) ∧ jb (μ 61 (8 + j)) 0 20 := by
  have ag := h.ag (j := 8 + j) (by omega)
  have l1 : lc 1 (8 + j) = 3 := by unfold lc; rw [if_neg (by omega), if_pos (by omega)]
  have l3 : li (8 + j) = j := by unfold li; rw [if_neg (by omega), if_pos (by omega)]; omega
  rw [l1, l3] at ag
  have b := h.S.1 (8 + j) (by omega)
  rw [show bdh (8 + j) = 20 from by unfold bdh; rw [if_neg (by omega), if_pos (by omega)]] at b
  exact ⟨ag, b⟩
theorem roadOf_ok {a i : Nat} (ha : a < 8) (hi : i < 8) (m : jj_M) : mdf_roadOf (nI a) (nI i) m = some (m 61 (8 + (8 * a + i))) := by
  unfold mdf_roadOf
  have e : (8 : Int32) + 8 * nI a + nI i = nI (8 + (8 * a + i)) := by rw [show (8 : Int32) = nI 8 from rfl, nz_mul, nz_add, nz_add, Nat.add_assoc]
  rw [e, if_pos (nz_in (by omega) (by omega)), nz_clamp (by omega)]
theorem roads_ok {μ : jj_M} (h : jI μ) {a : Nat} (ha : a < 8) (N : Nat) : ∀ (k i f : Nat) (s : Int32), i + k = 8 → k < f → ∃ r, wof_roadsFrom_L4 N 1 (nI a) μ f s (nI i) = some r ∧ mdf_roadsOf_L4 N (nI a) μ f s (nI i) = some r := by
  intro k
  induction k with
  | zero =>
    intro i f s hi hf
    obtain ⟨f, rfl⟩ : ∃ m, f = m + 1 := ⟨f - 1, by omega⟩
    have e : i = 8 := by omega
    subst e
    exact ⟨s, by rw [wof_roadsFrom_L4, if_pos (by decide)], by rw [mdf_roadsOf_L4, if_pos (by decide)]⟩
  | succ k ih =>
    intro i f s hi hf
    obtain ⟨f, rfl⟩ : ∃ m, f = m + 1 := ⟨f - 1, by omega⟩
    have c8 : ¬ (8 : Int32) ≤ nI i := by rw [show (8 : Int32) = nI 8 from rfl, nz_le (by omega) (by omega)]; omega
    have e1 := (owe_i a i).1
    have g1 : jj_i (nI (8 * a + i)) 64 := nz_in (by omega) (by omega)
    have k1 : (nI (8 * a + i)).toNatClampNeg = 8 * a + i := nz_clamp (by omega)
    have d2 : 1 + 2 = 3 := rfl
    have ag := (h.road (j := 8 * a + i) (by omega)).1
    by_cases q : μ 61 (8 + (8 * a + i)) ≤ 0
    · obtain ⟨r, r1, r2⟩ := ih (i + 1) f s (by omega) (by omega)
      refine ⟨r, ?_, ?_⟩
      · rw [wof_roadsFrom_L4]
        simp only [c8, e1, eq_true g1, k1, d2, ag, q, ↓reduceIte, nz_s]
        exact r1
      · rw [mdf_roadsOf_L4, roadOf_ok ha (by omega)]
        simp only [c8, q, ↓reduceIte, nz_s, Option.bind_some, Int32.add_zero]
        exact r2
    · obtain ⟨r, r1, r2⟩ := ih (i + 1) f (s + 1) (by omega) (by omega)
      refine ⟨r, ?_, ?_⟩
      · rw [wof_roadsFrom_L4]
        simp only [c8, e1, eq_true g1, k1, d2, ag, q, ↓reduceIte, nz_s]
        exact r1
      · rw [mdf_roadsOf_L4, roadOf_ok ha (by omega)]
        simp only [c8, q, ↓reduceIte, nz_s, Option.bind_some]
        exact r2
theorem or_bit : ∀ i, i < 6 → ∀ m, m < 2 ^ i → nI m ||| (1 <<< (nI i &&& 31)) = nI (m + 2 ^ i) := by decide +kernel
theorem named_ok {μ : jj_M} (h : jI μ) {n : Nat} (hn : n ≤ 6) (en : μ 61 139 = nI n) (en1 : μ 1 7 = nI n) (x : Int32) (N : Nat) : ∀ (k i f s : Nat), i + k = n → k < f → s < 2 ^ i → ∃ r, r < 2 ^ n ∧ wof_namedBy_L4 N 1 x μ f (nI s) (nI i) = some (nI r) ∧ mdf_those_L5 N 3 x μ f (nI s) (nI i) = some (nI r) := by
  intro k
  induction k with
  | zero =>
    intro i f s hi hf hs
    obtain ⟨f, rfl⟩ : ∃ m, f = m + 1 := ⟨f - 1, by omega⟩
    have e : i = n := by omega
    subst e
    have c : nI i ≤ nI i := Int32.le_refl _
    exact ⟨s, hs, by rw [wof_namedBy_L4, en1, if_pos c], by rw [mdf_those_L5, en, if_pos c]⟩
  | succ k ih =>
    intro i f s hi hf hs
    obtain ⟨f, rfl⟩ : ∃ m, f = m + 1 := ⟨f - 1, by omega⟩
    have c : ¬ nI n ≤ nI i := by rw [nz_le (by omega) (by omega)]; omega
    have g1 : jj_i (nI i) 6 := nz_in (by omega) (by omega)
    have k1 : (nI i).toNatClampNeg = i := nz_clamp (by omega)
    have d9 : 1 + 4 + 4 + i = 9 + i := by omega
    have a5 := h.pag hn en (p := i) (j := 5) (by omega) (by omega)
    have a3 := h.pag hn en (p := i) (j := 3) (by omega) (by omega)
    have t5 : mdf_its (nI i) 5 μ = some (μ 61 (140 + 6 * i + 5)) := its_ok (p := i) (j := 5) (by omega) (by omega)
    have t3 : mdf_its (nI i) 3 μ = some (μ 61 (140 + 6 * i + 3)) := its_ok (p := i) (j := 3) (by omega) (by omega)
    have hp : 2 ^ (i + 1) = 2 ^ i + 2 ^ i := by omega
    by_cases q : μ 61 (140 + 6 * i + 5) = 0
    · by_cases q2 : μ 61 (140 + 6 * i + 3) = x
      · obtain ⟨r, r0, r1, r2⟩ := ih (i + 1) f (s + 2 ^ i) (by omega) (by omega) (by omega)
        refine ⟨r, r0, ?_, ?_⟩
        · rw [wof_namedBy_L4]
          simp only [en1, c, eq_true g1, k1, d9, a5, a3, q, q2, ↓reduceIte, nz_s, or_bit i (by omega) s hs]
          exact r1
        · rw [mdf_those_L5]
          simp only [en, c, t5, t3, q, q2, ↓reduceIte, nz_s, or_bit i (by omega) s hs, Option.bind_some]
          exact r2
      · obtain ⟨r, r0, r1, r2⟩ := ih (i + 1) f s (by omega) (by omega) (by omega)
        refine ⟨r, r0, ?_, ?_⟩
        · rw [wof_namedBy_L4]
          simp only [en1, c, eq_true g1, k1, d9, a5, a3, q, q2, ↓reduceIte, nz_s]
          exact r1
        · rw [mdf_those_L5]
          simp only [en, c, t5, t3, q, q2, ↓reduceIte, nz_s, Option.bind_some, Int32.or_zero]
          exact r2
    · obtain ⟨r, r0, r1, r2⟩ := ih (i + 1) f s (by omega) (by omega) (by omega)
      refine ⟨r, r0, ?_, ?_⟩
      · rw [wof_namedBy_L4]
        simp only [en1, c, eq_true g1, k1, d9, a5, q, ↓reduceIte, nz_s]
        exact r1
      · rw [mdf_those_L5]
        simp only [en, c, t5, q, ↓reduceIte, nz_s, Option.bind_some, Int32.or_zero]
        exact r2
theorem stand_ok {μ : jj_M} (h : jI μ) {n : Nat} (hn : n ≤ 6) (en : μ 61 139 = nI n) (en1 : μ 1 7 = nI n) (x : Int32) (N : Nat) : ∀ (k i f s : Nat), i + k = n → k < f → s < 2 ^ i → ∃ r, r < 2 ^ n ∧ wof_standingAt_L4 N 1 x μ f (nI s) (nI i) = some (nI r) ∧ mdf_those_L5 N 2 x μ f (nI s) (nI i) = some (nI r) := by
  intro k
  induction k with
  | zero =>
    intro i f s hi hf hs
    obtain ⟨f, rfl⟩ : ∃ m, f = m + 1 := ⟨f - 1, by omega⟩
    have e : i = n := by omega
    subst e
    have c : nI i ≤ nI i := Int32.le_refl _
    exact ⟨s, hs, by rw [wof_standingAt_L4, en1, if_pos c], by rw [mdf_those_L5, en, if_pos c]⟩
  | succ k ih =>
    intro i f s hi hf hs
    obtain ⟨f, rfl⟩ : ∃ m, f = m + 1 := ⟨f - 1, by omega⟩
    have c : ¬ nI n ≤ nI i := by rw [nz_le (by omega) (by omega)]; omega
    have g1 : jj_i (nI i) 6 := nz_in (by omega) (by omega)
    have k1 : (nI i).toNatClampNeg = i := nz_clamp (by omega)
    have d9 : 1 + 4 + 4 + i = 9 + i := by omega
    have a5 := h.pag hn en (p := i) (j := 5) (by omega) (by omega)
    have a3 := h.pag hn en (p := i) (j := 2) (by omega) (by omega)
    have t5 : mdf_its (nI i) 5 μ = some (μ 61 (140 + 6 * i + 5)) := its_ok (p := i) (j := 5) (by omega) (by omega)
    have t3 : mdf_its (nI i) 2 μ = some (μ 61 (140 + 6 * i + 2)) := its_ok (p := i) (j := 2) (by omega) (by omega)
    have hp : 2 ^ (i + 1) = 2 ^ i + 2 ^ i := by omega
    by_cases q : μ 61 (140 + 6 * i + 5) = 0
    · by_cases q2 : μ 61 (140 + 6 * i + 2) = x
      · obtain ⟨r, r0, r1, r2⟩ := ih (i + 1) f (s + 2 ^ i) (by omega) (by omega) (by omega)
        refine ⟨r, r0, ?_, ?_⟩
        · rw [wof_standingAt_L4]
          simp only [en1, c, eq_true g1, k1, d9, a5, a3, q, q2, ↓reduceIte, nz_s, or_bit i (by omega) s hs]
          exact r1
        · rw [mdf_those_L5]
          simp only [en, c, t5, t3, q, q2, ↓reduceIte, nz_s, or_bit i (by omega) s hs, Option.bind_some]
          exact r2
      · obtain ⟨r, r0, r1, r2⟩ := ih (i + 1) f s (by omega) (by omega) (by omega)
        refine ⟨r, r0, ?_, ?_⟩
        · rw [wof_standingAt_L4]
          simp only [en1, c, eq_true g1, k1, d9, a5, a3, q, q2, ↓reduceIte, nz_s]
          exact r1
        · rw [mdf_those_L5]
          simp only [en, c, t5, t3, q, q2, ↓reduceIte, nz_s, Option.bind_some, Int32.or_zero]
          exact r2
    · obtain ⟨r, r0, r1, r2⟩ := ih (i + 1) f s (by omega) (by omega) (by omega)
      refine ⟨r, r0, ?_, ?_⟩
      · rw [wof_standingAt_L4]
        simp only [en1, c, eq_true g1, k1, d9, a5, q, ↓reduceIte, nz_s]
        exact r1
      · rw [mdf_those_L5]
        simp only [en, c, t5, q, ↓reduceIte, nz_s, Option.bind_some, Int32.or_zero]
        exact r2
theorem namedBy_ok {μ : jj_M} (h : jI μ) (x : Int32) : ∃ r, r < 64 ∧ wof_namedBy jz_N 1 x μ = some (nI r) ∧ mdf_those jz_N 3 x μ = some (nI r) := by
  obtain ⟨n, hn, en, en1⟩ := h.n
  obtain ⟨r, r0, r1, r2⟩ := named_ok h hn en en1 x jz_N n 0 jz_N 0 (by omega) (by have := jz_ge; omega) (by decide)
  exact ⟨r, Nat.lt_of_lt_of_le r0 (Nat.pow_le_pow_right (by omega) hn), r1, r2⟩
theorem standAt_ok {μ : jj_M} (h : jI μ) (x : Int32) : ∃ r, r < 64 ∧ wof_standingAt jz_N 1 x μ = some (nI r) ∧ mdf_those jz_N 2 x μ = some (nI r) := by
  obtain ⟨n, hn, en, en1⟩ := h.n
  obtain ⟨r, r0, r1, r2⟩ := stand_ok h hn en en1 x jz_N n 0 jz_N 0 (by omega) (by have := jz_ge; omega) (by decide)
  exact ⟨r, Nat.lt_of_lt_of_le r0 (Nat.pow_le_pow_right (by omega) hn), r1, r2⟩
theorem jI.wat {μ : jj_M} (h : jI μ) {j : Nat} (hj : j < 8) : μ 2 j = μ 61 j ∧ jb (μ 61 j) 0 99 := by
  have ag := h.ag (j := j) (by omega)
  have l1 : lc 1 j = 2 := by unfold lc; rw [if_pos (by omega)]
  have l3 : li j = j := by unfold li; rw [if_pos (by omega)]
  rw [l1, l3] at ag
  have b := h.S.1 j (by omega)
  rw [show bdh j = 99 from by unfold bdh; rw [if_pos (by omega)]] at b
  exact ⟨ag, b⟩
theorem st_ofWell {μ : jj_M} (h : jI μ) (x1 x2 : Int32) : ∃ (r : Int32) (μ1 : jj_M) (μ2 : jj_M), wnf_ofWell jz_N x1 x2 μ = some (r, μ1) ∧ mdf_ofWell jz_N x1 x2 μ1 = some (r, μ2) ∧ jI μ2 := by
  unfold wnf_ofWell mdf_ofWell
  rw [nz_isWell, show mdf_in (Int32.toInt64 x2) 0 4 = wnf_within x2 0 4 from nz_within x2 0 4]
  obtain ⟨m1, m2, a, b, c⟩ := err1 h
  by_cases c1 : wnf_isWell x1 = 0
  · exact ⟨-1000000001, m1, m2, by simp only [c1, a, ↓reduceIte, Option.bind_some], by simp only [c1, b, ↓reduceIte, Option.bind_some], c⟩
  obtain ⟨w, hw, rfl⟩ := nz_well c1
  by_cases c2 : wnf_within x2 0 4 = 0
  · have w0 : ∀ k, k < 5 → ¬ wnf_within (nI k) 0 4 = 0 := by decide
    have n0 : ¬ x2 = 0 := fun e => w0 0 (by omega) (by subst e; exact c2)
    have n1 : ¬ x2 = 1 := fun e => w0 1 (by omega) (by subst e; exact c2)
    have n2 : ¬ x2 = 2 := fun e => w0 2 (by omega) (by subst e; exact c2)
    have n3 : ¬ x2 = 3 := fun e => w0 3 (by omega) (by subst e; exact c2)
    have n4 : ¬ x2 = 4 := fun e => w0 4 (by omega) (by subst e; exact c2)
    exact ⟨-1000000001, m1, m2, by simp only [c1, n0, n1, n2, n3, n4, a, ↓reduceIte, Option.bind_some], by simp only [c1, c2, b, ↓reduceIte, Option.bind_some], c⟩
  have b2 := w_b c2
  have z0 : (0 : Int32).toInt = 0 := by decide
  have z1 : (4 : Int32).toInt = 4 := by decide
  obtain ⟨k, hk, rfl⟩ := nz_ofb (x := x2) (n := 5) (by omega) (by omega)
  rcases (by omega : k = 0 ∨ k = 1 ∨ k = 2 ∨ k = 3 ∨ k = 4) with rfl | rfl | rfl | rfl | rfl
  · have g1 : jj_i (nI w) 8 := nz_in (by omega) (by omega)
    have k1 : (nI w).toNatClampNeg = w := nz_clamp (by omega)
    have e0 : (0 : Int32) + nI w = nI w := by rw [Int32.zero_add]
    have g2 : jj_i (nI w) 351 := nz_in (by omega) (by omega)
    have q : nI 0 = (0 : Int32) := rfl
    refine ⟨μ 61 w, μ, μ, ?_, ?_, h⟩
    · simp only [c1, q, eq_true g1, k1, ↓reduceIte, (h.wat hw).1]
    · rw [q] at c2
      simp only [c1, c2, q, e0, eq_true g2, k1, ↓reduceIte]
  · obtain ⟨r, r1, r2⟩ := roads_ok h hw jz_N 8 0 jz_N 0 (by omega) (by decide)
    have q : nI 1 = (1 : Int32) := rfl
    have q1 : ¬ (1 : Int32) = 0 := by decide
    have e1 : wof_roadsFrom jz_N 1 (nI w) μ = some r := r1
    have e2 : mdf_roadsOf jz_N (nI w) μ = some r := r2
    rw [q] at c2 ⊢
    exact ⟨r, μ, μ, by simp only [c1, q1, e1, ↓reduceIte, Option.bind_some], by simp only [c1, c2, q1, e2, ↓reduceIte, Option.bind_some], h⟩
  · obtain ⟨r, _, e1, e2⟩ := namedBy_ok h (nI w)
    have q : nI 2 = (2 : Int32) := rfl
    have q1 : ¬ (2 : Int32) = 0 := by decide
    have q2 : ¬ (2 : Int32) = 1 := by decide
    rw [q] at c2 ⊢
    exact ⟨nI r, μ, μ, by simp only [c1, q1, q2, e1, ↓reduceIte, Option.bind_some], by simp only [c1, c2, q1, q2, e2, ↓reduceIte, Option.bind_some], h⟩
  · obtain ⟨r, _, e1, e2⟩ := standAt_ok h (nI w)
    have q : nI 3 = (3 : Int32) := rfl
    have q1 : ¬ (3 : Int32) = 0 := by decide
    have q2 : ¬ (3 : Int32) = 1 := by decide
    have q3 : ¬ (3 : Int32) = 2 := by decide
    rw [q] at c2 ⊢
    exact ⟨nI r, μ, μ, by simp only [c1, q1, q2, q3, e1, ↓reduceIte, Option.bind_some], by simp only [c1, c2, q1, q2, q3, e2, ↓reduceIte, Option.bind_some], h⟩
  · obtain ⟨r, e1, e2⟩ := debtOf_ok h hw
    have q : nI 4 = (4 : Int32) := rfl
    have q1 : ¬ (4 : Int32) = 0 := by decide
    have q2 : ¬ (4 : Int32) = 1 := by decide
    have q3 : ¬ (4 : Int32) = 2 := by decide
    have q4 : ¬ (4 : Int32) = 3 := by decide
    rw [q] at c2 ⊢
    exact ⟨r, μ, μ, by simp only [c1, q1, q2, q3, q4, e1, ↓reduceIte, Option.bind_some], by simp only [c1, c2, q1, q2, q3, q4, e2, ↓reduceIte, Option.bind_some], h⟩
/-! same -/
theorem ones_free (N : Nat) : ∀ n a b, mdf_ones_L4 N n a b = mdf_ones_L4 0 n a b := by
  intro n
  induction n with
  | zero => intro _ _; rfl
  | succ n ih => intro a b; simp only [mdf_ones_L4, ih]
theorem ones_more (r : Int32) : ∀ n a b, mdf_ones_L4 0 n a b = some r → ∀ k, mdf_ones_L4 0 (n + k) a b = some r := by
  intro n
  induction n with
  | zero => intro a b h; simp [mdf_ones_L4] at h
  | succ n ih =>
    intro a b h k
    rw [show n + 1 + k = (n + k) + 1 by omega]
    simp only [mdf_ones_L4] at h ⊢
    split at h
    · rename_i g; rw [if_pos g]; exact h
    · rename_i g; rw [if_neg g]; exact ih _ _ h k
theorem ones_key : ∀ m, m < 256 → mdf_ones_L4 0 10 0 (nI m) = some (jdf_bitCount (nI m)) := by decide +kernel
theorem ones_ok {m : Nat} (hm : m < 256) : mdf_ones jz_N (nI m) = some (jdf_bitCount (nI m)) := by
  unfold mdf_ones
  rw [ones_free, show jz_N = 10 + (jz_N - 10) from rfl]
  exact ones_more _ _ _ _ (ones_key m hm) _
theorem same_ok {μ : jj_M} (h : jI μ) : ∀ (k i f : Nat) (s : Int32), i + k = 8 → k < f → ∃ r, wof_pairsOfOneName_L4 jz_N 1 μ f s (nI i) = some r ∧ mdf_same_L4 jz_N μ f s (nI i) = some r := by
  intro k
  induction k with
  | zero =>
    intro i f s hi hf
    obtain ⟨f, rfl⟩ : ∃ m, f = m + 1 := ⟨f - 1, by omega⟩
    have e : i = 8 := by omega
    subst e
    exact ⟨s, by rw [wof_pairsOfOneName_L4, if_pos (by decide)], by rw [mdf_same_L4, if_pos (by decide)]⟩
  | succ k ih =>
    intro i f s hi hf
    obtain ⟨f, rfl⟩ : ∃ m, f = m + 1 := ⟨f - 1, by omega⟩
    have c8 : ¬ (8 : Int32) ≤ nI i := by rw [show (8 : Int32) = nI 8 from rfl, nz_le (by omega) (by omega)]; omega
    obtain ⟨q, q0, q1, q2⟩ := namedBy_ok h (nI i)
    have q3 := ones_ok (m := q) (by omega)
    obtain ⟨r, r1, r2⟩ := ih (i + 1) f (s + (jdf_bitCount (nI q) * (jdf_bitCount (nI q) - 1)) / 2) (by omega) (by omega)
    refine ⟨r, ?_, ?_⟩
    · rw [wof_pairsOfOneName_L4]
      simp only [c8, q1, ↓reduceIte, nz_s, Option.bind_some]
      exact r1
    · rw [mdf_same_L4]
      simp only [c8, q2, q3, ↓reduceIte, nz_s, Option.bind_some]
      exact r2
theorem st_same {μ : jj_M} (h : jI μ) : ∃ (r : Int32), wnf_same jz_N μ = some r ∧ mdf_same jz_N μ = some r ∧ jI μ := by
  obtain ⟨r, r1, r2⟩ := same_ok h 8 0 jz_N 0 (by omega) (by decide)
  refine ⟨r, ?_, r2, h⟩
  unfold wnf_same wof_pairsOfOneName
  rw [show wof_pairsOfOneName_L4 jz_N 1 μ jz_N 0 0 = some r from r1]
  rfl
