/-! count -/
def sumI (g : Nat → Int32) : Nat → Nat → Int32
  | _, 0 => 0
  | i, k + 1 => g i + sumI g (i + 1) k
theorem sumI_app (g : Nat → Int32) : ∀ (k i l : Nat), sumI g i (k + l) = sumI g i k + sumI g (i + k) l := by
  intro k
  induction k with
  | zero => intro i l; rw [Nat.zero_add, sumI, Int32.zero_add, Nat.add_zero]
  | succ k ih =>
    intro i l
    rw [show k + 1 + l = (k + l) + 1 by omega, sumI, ih, sumI, Int32.add_assoc, show i + 1 + k = i + (k + 1) by omega]
theorem sumI_congr {g g1 : Nat → Int32} : ∀ (k i : Nat), (∀ j, i ≤ j → j < i + k → g j = g1 j) → sumI g i k = sumI g1 i k := by
  intro k
  induction k with
  | zero => intro i _; rfl
  | succ k ih =>
    intro i h
    rw [sumI, sumI, h i (by omega) (by omega), ih (i + 1) (fun j a b => h j (by omega) (by omega))]
theorem sumI_shift (g : Nat → Int32) (b : Nat) : ∀ (k i : Nat), sumI (fun j => g (b + j)) i k = sumI g (b + i) k := by
  intro k
  induction k with
  | zero => intro i; rfl
  | succ k ih => intro i; rw [sumI, sumI, ih (i + 1)]; rfl
theorem sumI_rows (g : Nat → Int32) : ∀ (k i : Nat), sumI (fun a => sumI (fun j => g (8 * a + j)) 0 8) i k = sumI g (8 * i) (8 * k) := by
  intro k
  induction k with
  | zero => intro i; rfl
  | succ k ih =>
    intro i
    rw [sumI, ih (i + 1), sumI_shift g (8 * i) 8 0, show 8 * (k + 1) = 8 + 8 * k by omega, sumI_app, Nat.add_zero, show 8 * (i + 1) = 8 * i + 8 by omega]
theorem sum_m (N : Nat) (μ : jj_M) {b n : Nat} (hb : b + n ≤ 351) : ∀ (k i f : Nat) (s : Int32), i + k = n → k < f → mdf_sum__L5 N (nI b) (nI n) μ f s (nI i) = some (s + sumI (fun j => μ 61 (b + j)) i k) := by
  intro k
  induction k with
  | zero =>
    intro i f s hi hf
    obtain ⟨f, rfl⟩ : ∃ m, f = m + 1 := ⟨f - 1, by omega⟩
    rw [mdf_sum__L5, if_pos (by rw [nz_le (by omega) (by omega)]; omega), sumI, Int32.add_zero]
  | succ k ih =>
    intro i f s hi hf
    obtain ⟨f, rfl⟩ : ∃ m, f = m + 1 := ⟨f - 1, by omega⟩
    have c : ¬ nI n ≤ nI i := by rw [nz_le (by omega) (by omega)]; omega
    have g : jj_i (nI (b + i)) 351 := nz_in (by omega) (by omega)
    have k1 : (nI (b + i)).toNatClampNeg = b + i := nz_clamp (by omega)
    rw [mdf_sum__L5]
    simp only [c, nz_add b i, eq_true g, k1, ↓reduceIte, nz_s]
    rw [ih (i + 1) f _ (by omega) (by omega), sumI, Int32.add_assoc]
theorem wat_sum {μ : jj_M} (h : jI μ) (N : Nat) : ∀ (k i f : Nat) (s : Int32), i + k = 8 → k < f → wof_waterInAll_L4 N 1 μ f s (nI i) = some (s + sumI (fun j => μ 61 (0 + j)) i k) := by
  intro k
  induction k with
  | zero =>
    intro i f s hi hf
    obtain ⟨f, rfl⟩ : ∃ m, f = m + 1 := ⟨f - 1, by omega⟩
    have e : i = 8 := by omega
    subst e
    rw [wof_waterInAll_L4, if_pos (by decide), sumI, Int32.add_zero]
  | succ k ih =>
    intro i f s hi hf
    obtain ⟨f, rfl⟩ : ∃ m, f = m + 1 := ⟨f - 1, by omega⟩
    have c8 : ¬ (8 : Int32) ≤ nI i := by rw [show (8 : Int32) = nI 8 from rfl, nz_le (by omega) (by omega)]; omega
    have g : jj_i (nI i) 8 := nz_in (by omega) (by omega)
    have k1 : (nI i).toNatClampNeg = i := nz_clamp (by omega)
    rw [wof_waterInAll_L4]
    simp only [c8, eq_true g, k1, ↓reduceIte, nz_s, show 1 + 1 = 2 from rfl, (h.wat (j := i) (by omega)).1]
    rw [ih (i + 1) f _ (by omega) (by omega), sumI, Int32.add_assoc, Nat.zero_add]
theorem debt_sum {μ : jj_M} (h : jI μ) {a : Nat} (ha : a < 8) (M : Nat) (hM : 0 < M) : ∀ (k i f : Nat) (s : Int32), i + k = 8 → k < f → wof_debtBehind_L6 M 1 (nI a) 0 0 μ f s (nI i) = some (s + sumI (fun j => μ 61 (72 + (8 * a + j))) i k) := by
  intro k
  obtain ⟨M, rfl⟩ : ∃ m, M = m + 1 := ⟨M - 1, by omega⟩
  induction k with
  | zero =>
    intro i f s hi hf
    obtain ⟨f, rfl⟩ : ∃ m, f = m + 1 := ⟨f - 1, by omega⟩
    have e : i = 8 := by omega
    subst e
    rw [wof_debtBehind_L6, if_pos (by decide), sumI, Int32.add_zero]
  | succ k ih =>
    intro i f s hi hf
    obtain ⟨f, rfl⟩ : ∃ m, f = m + 1 := ⟨f - 1, by omega⟩
    have c8 : ¬ (8 : Int32) ≤ nI i := by rw [show (8 : Int32) = nI 8 from rfl, nz_le (by omega) (by omega)]; omega
    have w := nz_isW ha
    have e1 := (owe_i a i).1
    have g1 : jj_i (nI (8 * a + i)) 64 := nz_in (by omega) (by omega)
    have k1 : (nI (8 * a + i)).toNatClampNeg = 8 * a + i := nz_clamp (by omega)
    have z : (0 : Int32) ≤ 0 := by decide
    rw [wof_debtBehind_L6]
    simp only [c8, w, e1, eq_true g1, k1, wof_debtBehind_L37, z, ↓reduceIte, nz_s, (h.owed (j := 8 * a + i) (by omega)).1]
    rw [ih (i + 1) f _ (by omega) (by omega), sumI, Int32.add_assoc]
theorem owed_sum {μ : jj_M} (h : jI μ) : ∀ (k i f : Nat) (s : Int32), i + k = 8 → k < f → wof_owedInAll_L4 jz_N 1 μ f s (nI i) = some (s + sumI (fun a => sumI (fun j => μ 61 (72 + (8 * a + j))) 0 8) i k) := by
  intro k
  induction k with
  | zero =>
    intro i f s hi hf
    obtain ⟨f, rfl⟩ : ∃ m, f = m + 1 := ⟨f - 1, by omega⟩
    have e : i = 8 := by omega
    subst e
    rw [wof_owedInAll_L4, if_pos (by decide), sumI, Int32.add_zero]
  | succ k ih =>
    intro i f s hi hf
    obtain ⟨f, rfl⟩ : ∃ m, f = m + 1 := ⟨f - 1, by omega⟩
    have c8 : ¬ (8 : Int32) ≤ nI i := by rw [show (8 : Int32) = nI 8 from rfl, nz_le (by omega) (by omega)]; omega
    have d : wof_debtOf jz_N 1 (nI i) μ = some (sumI (fun j => μ 61 (72 + (8 * i + j))) 0 8) := by
      unfold wof_debtOf wof_debtBehind
      rw [show wof_debtBehind_L6 jz_N 1 (nI i) 0 0 μ jz_N 0 0 = _ from debt_sum h (a := i) (by omega) jz_N (by decide) 8 0 jz_N 0 (by omega) (by decide), Int32.zero_add]
      rfl
    rw [wof_owedInAll_L4]
    simp only [c8, d, ↓reduceIte, nz_s, Option.bind_some]
    rw [ih (i + 1) f _ (by omega) (by omega)]
    conv => rhs; rw [sumI]
    rw [Int32.add_assoc]
theorem dead_ok {μ : jj_M} (h : jI μ) {n : Nat} (hn : n ≤ 6) (en : μ 61 139 = nI n) (en1 : μ 1 7 = nI n) (N : Nat) : ∀ (k i f : Nat) (s : Int32), i + k = n → k < f → ∃ r, wof_deadBehind_L4 N 1 0 μ f s (nI i) = some r ∧ mdf_dead_L4 N μ f s (nI i) = some r := by
  intro k
  induction k with
  | zero =>
    intro i f s hi hf
    obtain ⟨f, rfl⟩ : ∃ m, f = m + 1 := ⟨f - 1, by omega⟩
    have e : i = n := by omega
    subst e
    have c : nI i ≤ nI i := Int32.le_refl _
    exact ⟨s, by rw [wof_deadBehind_L4, en1, if_pos c], by rw [mdf_dead_L4, en, if_pos c]⟩
  | succ k ih =>
    intro i f s hi hf
    obtain ⟨f, rfl⟩ : ∃ m, f = m + 1 := ⟨f - 1, by omega⟩
    have c : ¬ nI n ≤ nI i := by rw [nz_le (by omega) (by omega)]; omega
    have g1 : jj_i (nI i) 6 := nz_in (by omega) (by omega)
    have k1 : (nI i).toNatClampNeg = i := nz_clamp (by omega)
    have d9 : 1 + 4 + 4 + i = 9 + i := by omega
    have a5 := h.pag hn en (p := i) (j := 5) (by omega) (by omega)
    have t5 : mdf_its (nI i) 5 μ = some (μ 61 (140 + 6 * i + 5)) := its_ok (p := i) (j := 5) (by omega) (by omega)
    have z : (0 : Int32) ≤ 0 := by decide
    rcases (h.per hn en (p := i) (by omega)).dead with q | q
    · obtain ⟨r, r1, r2⟩ := ih (i + 1) f s (by omega) (by omega)
      refine ⟨r, ?_, ?_⟩
      · rw [wof_deadBehind_L4]
        simp only [en1, c, eq_true g1, k1, d9, a5, q, z, ↓reduceIte, nz_s]
        exact r1
      · rw [mdf_dead_L4]
        simp only [en, c, t5, q, ↓reduceIte, nz_s, Option.bind_some, Int32.add_zero]
        exact r2
    · obtain ⟨r, r1, r2⟩ := ih (i + 1) f (s + 1) (by omega) (by omega)
      have o : ¬ (1 : Int32) = 0 := by decide
      refine ⟨r, ?_, ?_⟩
      · rw [wof_deadBehind_L4]
        simp only [en1, c, eq_true g1, k1, d9, a5, q, o, ↓reduceIte, nz_s]
        exact r1
      · rw [mdf_dead_L4]
        simp only [en, c, t5, q, ↓reduceIte, nz_s, Option.bind_some]
        exact r2
theorem deadNow_ok {μ : jj_M} (h : jI μ) : ∃ r, wof_deadBehind jz_N 1 0 μ = some r ∧ mdf_dead jz_N μ = some r := by
  obtain ⟨n, hn, en, en1⟩ := h.n
  exact dead_ok h hn en en1 jz_N n 0 jz_N 0 (by omega) (by have := jz_ge; omega)
theorem st_count {μ : jj_M} (h : jI μ) (x1 : Int32) : ∃ (r : Int32) (μ1 : jj_M) (μ2 : jj_M), wnf_count jz_N x1 μ = some (r, μ1) ∧ mdf_count jz_N x1 μ1 = some (r, μ2) ∧ jI μ2 := by
  unfold wnf_count mdf_count
  by_cases q0 : x1 = 0
  · have a : μ 1 7 = μ 61 139 := h.ag (j := 139) (by omega)
    exact ⟨_, μ, μ, by rw [if_pos q0], by rw [if_pos q0, ← a], h⟩
  rw [if_neg q0]
  by_cases q1 : x1 = 1
  · have a : μ 1 9 = μ 61 137 := h.ag (j := 137) (by omega)
    exact ⟨_, μ, μ, by rw [if_pos q1], by rw [if_neg q0, if_pos q1, ← a], h⟩
  rw [if_neg q1]
  by_cases q2 : x1 = 2
  · have a : μ 1 10 = μ 61 138 := h.ag (j := 138) (by omega)
    exact ⟨_, μ, μ, by rw [if_pos q2], by rw [if_neg q0, if_neg q1, if_pos q2, ← a], h⟩
  rw [if_neg q2]
  by_cases q3 : x1 = 3
  · obtain ⟨r, r1, r2⟩ := deadNow_ok h
    exact ⟨r, μ, μ, by rw [if_pos q3, r1]; rfl, by rw [if_neg q0, if_neg q1, if_neg q2, if_pos q3, r2]; rfl, h⟩
  rw [if_neg q3]
  by_cases q4 : x1 = 4
  · have e1 : wof_waterInAll jz_N 1 μ = _ := wat_sum h jz_N 8 0 jz_N 0 (by omega) (by decide)
    have e2 : mdf_sum_ jz_N 0 8 μ = _ := sum_m jz_N μ (b := 0) (n := 8) (by omega) 8 0 jz_N 0 (by omega) (by decide)
    exact ⟨_, μ, μ, by rw [if_pos q4, e1]; rfl, by rw [if_neg q0, if_neg q1, if_neg q2, if_neg q3, if_pos q4, e2]; rfl, h⟩
  rw [if_neg q4]
  by_cases q5 : x1 = 5
  · have a : μ 1 8 = μ 61 136 := h.ag (j := 136) (by omega)
    exact ⟨_, μ, μ, by rw [if_pos q5], by rw [if_neg q0, if_neg q1, if_neg q2, if_neg q3, if_neg q4, if_pos q5, ← a], h⟩
  rw [if_neg q5]
  by_cases q6 : x1 = 6
  · have e1 : wof_owedInAll jz_N 1 μ = _ := owed_sum h 8 0 jz_N 0 (by omega) (by decide)
    rw [sumI_rows (fun j => μ 61 (72 + j)) 8 0] at e1
    have e2 : mdf_sum_ jz_N 72 64 μ = _ := sum_m jz_N μ (b := 72) (n := 64) (by omega) 64 0 jz_N 0 (by omega) (by decide)
    exact ⟨_, μ, μ, by rw [if_pos q6, e1]; rfl, by rw [if_neg q0, if_neg q1, if_neg q2, if_neg q3, if_neg q4, if_neg q5, if_pos q6, e2]; rfl, h⟩
  rw [if_neg q6]
  by_cases q7 : x1 = 7
  · have a : μ 1 11 = μ 61 177 := h.ag (j := 177) (by omega)
    exact ⟨_, μ, μ, by rw [if_pos q7], by rw [if_neg q0, if_neg q1, if_neg q2, if_neg q3, if_neg q4, if_neg q5, if_neg q6, if_pos q7, ← a], h⟩
  rw [if_neg q7]
  by_cases q8 : x1 = 8
  · have a : μ 1 12 = μ 61 178 := h.ag (j := 178) (by omega)
    exact ⟨_, μ, μ, by rw [if_pos q8], by rw [if_neg q0, if_neg q1, if_neg q2, if_neg q3, if_neg q4, if_neg q5, if_neg q6, if_neg q7, if_pos q8, ← a], h⟩
  rw [if_neg q8]
  by_cases q9 : x1 = 9
  · have a : μ 48 1 = μ 60 17 := h.2.2.2.1.1
    exact ⟨_, μ, μ, by rw [if_pos q9], by rw [if_neg q0, if_neg q1, if_neg q2, if_neg q3, if_neg q4, if_neg q5, if_neg q6, if_neg q7, if_neg q8, if_pos q9, ← a], h⟩
  rw [if_neg q9]
  by_cases q10 : x1 = 10
  · have a : μ 1 13 = μ 61 176 := h.ag (j := 176) (by omega)
    exact ⟨_, μ, μ, by rw [if_pos q10], by rw [if_neg q0, if_neg q1, if_neg q2, if_neg q3, if_neg q4, if_neg q5, if_neg q6, if_neg q7, if_neg q8, if_neg q9, if_pos q10, ← a], h⟩
  rw [if_neg q10]
  obtain ⟨m1, m2, a, b, c⟩ := err1 h
  exact ⟨-1000000001, m1, m2, by rw [a]; rfl, by rw [if_neg q0, if_neg q1, if_neg q2, if_neg q3, if_neg q4, if_neg q5, if_neg q6, if_neg q7, if_neg q8, if_neg q9, if_neg q10, b]; rfl, c⟩
