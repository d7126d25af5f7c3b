/-! image, restore -/
theorem cpy0 (f g : Nat → Int32) (n b : Nat) : va_cpy f g 0 0 n b = if b < n then f b else g b := by
  unfold va_cpy
  by_cases q : b < n
  · rw [if_pos (by omega), if_pos q]; congr 1; omega
  · rw [if_neg (by omega), if_neg q]
/-- what a world of the class is after a copy -/
def jCp (w v : Nat) (μ m : jj_M) : Prop := (∀ a, ¬ (w ≤ a ∧ a < w + 20) → m a = μ a) ∧ (∀ j, dm j → m (lc w j) (li j) = μ (lc v j) (li j)) ∧ (∀ u, u < 2 → m (w + 14 + 3 * u) 1 = μ (v + 14 + 3 * u) 1 ∧ m (w + 14 + 3 * u) 2 = μ (w + 14 + 3 * u) 2 ∧ ∀ i : Nat, (i : Int) < (μ (v + 14 + 3 * u) 1).toInt → m (w + 15 + 3 * u) i = μ (v + 15 + 3 * u) i) ∧ jDd w m
theorem per_cp (p0 p1 : Nat) (hne : p0 ≠ p1) (μ : jj_M) (h5 : μ p1 5 = 0 ∨ μ p1 5 = 1) : ∃ m, pef_copyFrom p0 p1 μ = some m ∧ (∀ a, a ≠ p0 → m a = μ a) ∧ ∀ j, j < 6 → m p0 j = μ p1 j := by
  unfold pef_copyFrom
  have n1 : p1 ≠ p0 := fun e => hne e.symm
  simp only [ju_ne n1, Option.bind_some, h5, ↓reduceIte]
  refine ⟨_, rfl, fun a ha => by rw [ju_ne ha, ju_ne ha, ju_ne ha, ju_ne ha, ju_ne ha, ju_ne ha], fun j hj => ?_⟩
  rcases (by omega : j = 0 ∨ j = 1 ∨ j = 2 ∨ j = 3 ∨ j = 4 ∨ j = 5) with rfl | rfl | rfl | rfl | rfl | rfl
  · rw [ju_other (by decide), ju_other (by decide), ju_other (by decide), ju_other (by decide), ju_other (by decide), ju_self]
  · rw [ju_other (by decide), ju_other (by decide), ju_other (by decide), ju_other (by decide), ju_self]
  · rw [ju_other (by decide), ju_other (by decide), ju_other (by decide), ju_self]
  · rw [ju_other (by decide), ju_other (by decide), ju_self]
  · rw [ju_other (by decide), ju_self]
  · rw [ju_self]
theorem law_cp (p0 p1 : Nat) (hne : p0 ≠ p1) (h1 : p0 + 1 ≠ p1 + 1) (h2 : p1 + 1 ≠ p0) {L : Nat} (hL : L ≤ 50) (μ : jj_M) : ∃ m, laf_take p0 (p1 + 1) 50 (nI L) μ = some m ∧ (∀ a, a ≠ p0 → a ≠ p0 + 1 → m a = μ a) ∧ m p0 1 = nI L ∧ m p0 2 = μ p0 2 ∧ ∀ i, i < L → m (p0 + 1) i = μ (p1 + 1) i := by
  unfold laf_take
  have e : jdf_min (nI L) 50 = nI L := by
    unfold jdf_min
    rw [show (50 : Int32) = nI 50 from rfl]
    by_cases q : nI 50 < nI L
    · rw [nz_lt (by omega) (by omega)] at q; omega
    · rw [if_neg q]
  have k : (nI L).toNatClampNeg = L := nz_clamp (by omega)
  have z : ¬ (0 : Int32) < 0 := by decide
  have z2 : (0 : Int32).toNatClampNeg = 0 := by decide
  have zL : ¬ nI L < 0 := by rw [show (0 : Int32) = nI 0 from rfl, nz_lt (by omega) (by omega)]; omega
  have g : jj_cg 0 0 (nI L) 50 50 := ⟨z, z, zL, by rw [k, z2]; omega, by rw [k, z2]; omega⟩
  simp only [e, ju_self, Option.bind_some]
  rw [if_pos g]
  refine ⟨_, rfl, fun a ha hb => by rw [juc_ne hb, ju_ne ha], by rw [juc_ne (by omega), ju_self], by rw [juc_ne (by omega), ju_other (by decide)], fun i hi => ?_⟩
  rw [juc_eq, k, z2, cpy0, if_pos hi, ju_ne h2]
theorem law_cp2 {N w v : Nat} (hwv : w + 20 ≤ v ∨ v + 20 ≤ w) {L0 L1 : Nat} (h0 : L0 ≤ 50) (h1 : L1 ≤ 50) (hN : 2 < N) (μ : jj_M) (e0 : μ (v + 14) 1 = nI L0) (e1 : μ (v + 17) 1 = nI L1) : ∃ m, wof_copyFrom_L106 N w v N 0 μ = some m ∧ (∀ a, a ≠ w → a ≠ w + 14 → a ≠ w + 15 → a ≠ w + 17 → a ≠ w + 18 → m a = μ a) ∧ (∀ j, 7 ≤ j → j < 14 → m w j = μ v j) ∧ (∀ u, u < 2 → m (w + 14 + 3 * u) 1 = μ (v + 14 + 3 * u) 1 ∧ m (w + 14 + 3 * u) 2 = μ (w + 14 + 3 * u) 2 ∧ ∀ i : Nat, (i : Int) < (μ (v + 14 + 3 * u) 1).toInt → m (w + 15 + 3 * u) i = μ (v + 15 + 3 * u) i) := by
  obtain ⟨N, rfl⟩ : ∃ m, N = m + 3 := ⟨N - 3, by omega⟩
  obtain ⟨m1, a1, a2, a3, a4, a5⟩ := law_cp (w + 14) (v + 14) (by omega) (by omega) (by omega) h0 μ
  obtain ⟨m2, b1, b2, b3, b4, b5⟩ := law_cp (w + 17) (v + 17) (by omega) (by omega) (by omega) h1 m1
  have l0 : (0 : Int32).toNatClampNeg = 0 := by decide
  have l1 : ((0 : Int32) + 1).toNatClampNeg = 1 := by decide
  have c0 : ¬ (2 : Int32) ≤ 0 := by decide
  have c1 : ¬ (2 : Int32) ≤ 0 + 1 := by decide
  have c2 : (2 : Int32) ≤ 0 + 1 + 1 := by decide
  have g0 : jj_i 0 2 := nz_in (n := 0) (by omega) (by omega)
  have g1 : jj_i ((0 : Int32) + 1) 2 := nz_in (n := 1) (by omega) (by omega)
  have d1 : w + 5 + 9 + 3 * 0 = w + 14 := by omega
  have d2 : v + 5 + 9 + 3 * 0 = v + 14 := by omega
  have d3 : w + 5 + 9 + 3 * 1 = w + 17 := by omega
  have d4 : v + 5 + 9 + 3 * 1 = v + 17 := by omega
  have f1 : m1 (v + 17) 1 = nI L1 := by rw [a2 _ (by omega) (by omega)]; exact e1
  have run : ∃ m, wof_copyFrom_L106 (N + 3) w v (N + 3) 0 μ = some m ∧ (∀ a, a ≠ w → m a = m2 a) ∧ (∀ j, 7 ≤ j → j < 14 → m w j = m2 v j) := by
    have n1 : v ≠ w := by omega
    rw [wof_copyFrom_L106]
    simp only [c0, eq_true g0, l0, d1, d2, e0, a1, ↓reduceIte, Option.bind_some]
    rw [wof_copyFrom_L106]
    simp only [c1, eq_true g1, l1, d3, d4, f1, b1, ↓reduceIte, Option.bind_some]
    rw [wof_copyFrom_L106]
    simp only [c2, ju_ne n1, ↓reduceIte, Option.bind_some]
    refine ⟨_, rfl, fun a ha => by rw [ju_ne ha, ju_ne ha, ju_ne ha, ju_ne ha, ju_ne ha, ju_ne ha, ju_ne ha], fun j hj hj2 => ?_⟩
    rcases (by omega : j = 7 ∨ j = 8 ∨ j = 9 ∨ j = 10 ∨ j = 11 ∨ j = 12 ∨ j = 13) with rfl | rfl | rfl | rfl | rfl | rfl | rfl
    · rw [ju_other (by decide), ju_other (by decide), ju_other (by decide), ju_other (by decide), ju_other (by decide), ju_other (by decide), ju_self]
    · rw [ju_other (by decide), ju_other (by decide), ju_other (by decide), ju_other (by decide), ju_other (by decide), ju_self]
    · rw [ju_other (by decide), ju_other (by decide), ju_other (by decide), ju_other (by decide), ju_self]
    · rw [ju_other (by decide), ju_other (by decide), ju_other (by decide), ju_self]
    · rw [ju_other (by decide), ju_other (by decide), ju_self]
    · rw [ju_other (by decide), ju_self]
    · rw [ju_self]
  obtain ⟨m, r1, r2, r3⟩ := run
  refine ⟨m, r1, fun a x1 x2 x3 x4 x5 => by rw [r2 a x1, b2 a x4 (by omega), a2 a x2 (by omega)], fun j x y => by rw [r3 j x y, b2 v (by omega) (by omega), a2 v (by omega) (by omega)], fun u hu => ?_⟩
  rcases (by omega : u = 0 ∨ u = 1) with rfl | rfl
  · refine ⟨?_, ?_, fun i hi => ?_⟩
    · rw [r2 _ (by omega), b2 _ (by omega) (by omega)]; exact a3.trans e0.symm
    · rw [r2 _ (by omega), b2 _ (by omega) (by omega)]; exact a4
    · rw [show v + 14 + 3 * 0 = v + 14 from rfl, e0, nz_toInt (by omega)] at hi
      rw [r2 _ (by omega), b2 _ (by omega) (by omega)]; exact a5 i (by omega)
  · refine ⟨?_, ?_, fun i hi => ?_⟩
    · rw [r2 _ (by omega)]; exact b3.trans e1.symm
    · rw [r2 _ (by omega)]; exact b4.trans (congrFun (a2 (w + 17) (by omega) (by omega)) 2)
    · rw [show v + 14 + 3 * 1 = v + 17 from rfl, e1, nz_toInt (by omega)] at hi
      rw [r2 _ (by omega)]; exact (b5 i (by omega)).trans (congrFun (a2 (v + 17 + 1) (by omega) (by omega)) i)
theorem pers_cp {N w v : Nat} (hwv : w + 20 ≤ v ∨ v + 20 ≤ w) : ∀ (k i f : Nat) (μ : jj_M), i + k = 6 → k < f → jDd v μ → ∃ μ', wof_copyFrom_L77 N w v f (nI i) μ = wof_copyFrom_L106 N w v N 0 μ' ∧ (∀ a, ¬ (w + 8 + i ≤ a ∧ a < w + 14) → μ' a = μ a) ∧ ∀ p j, i ≤ p → p < 6 → j < 6 → μ' (w + 8 + p) j = μ (v + 8 + p) j := by
  intro k
  induction k with
  | zero =>
    intro i f μ hi hf hD
    obtain ⟨f, rfl⟩ : ∃ m, f = m + 1 := ⟨f - 1, by omega⟩
    have e : i = 6 := by omega
    subst e
    exact ⟨μ, by rw [wof_copyFrom_L77, if_pos (by decide)], fun _ _ => rfl, fun p j a b => by omega⟩
  | succ k ih =>
    intro i f μ hi hf hD
    obtain ⟨f, rfl⟩ : ∃ m, f = m + 1 := ⟨f - 1, by omega⟩
    have c : ¬ (6 : Int32) ≤ nI i := by rw [show (6 : Int32) = nI 6 from rfl, nz_le (by omega) (by omega)]; omega
    have g : jj_i (nI i) 6 := nz_in (by omega) (by omega)
    have k1 : (nI i).toNatClampNeg = i := nz_clamp (by omega)
    obtain ⟨m, m1, m2, m3⟩ := per_cp (w + 8 + i) (v + 8 + i) (by omega) μ (hD i (by omega))
    obtain ⟨μ', p1, p2, p3⟩ := ih (i + 1) f m (by omega) (by omega) (fun p hp => by rw [m2 _ (by omega)]; exact hD p hp)
    refine ⟨μ', ?_, fun a ha => by rw [p2 a (by omega), m2 a (by omega)], fun p j a b cj => ?_⟩
    · rw [wof_copyFrom_L77]
      simp only [c, eq_true g, k1, show w + 4 + 4 + i = w + 8 + i by omega, show v + 4 + 4 + i = v + 8 + i by omega, m1, ↓reduceIte, nz_s, Option.bind_some]
      exact p1
    · by_cases q : p = i
      · subst q
        rw [p2 _ (by omega)]; exact m3 j cj
      · rw [p3 p j (by omega) b cj, m2 _ (by omega)]
