/-! walked -/
def wkA (μ : jj_M) (s t : Nat) : Int32 := μ 70 (40 * s + t)
def wkR (μ : jj_M) (s t : Nat) : Int32 := μ 61 (8 + (8 * (wkA μ s (t - 1)).toNatClampNeg + (wkA μ s t).toNatClampNeg))
def wkG (μ : jj_M) (s t : Nat) : Prop := ¬ wnf_isWell (wkA μ s t) = 0 ∧ (wkA μ s t = wkA μ s (t - 1) ∨ ¬ wkR μ s t = 0)
theorem wk_max {i : Nat} (hi : i < 1000) : jdf_max 0 (nI i - 1) = nI (i - 1) := by
  by_cases q : i = 0
  · subst q; decide
  · have e : nI i - 1 = nI (i - 1) := by rw [show (1 : Int32) = nI 1 from rfl, nz_sub (by omega)]
    rw [e]
    unfold jdf_max
    by_cases q2 : (0 : Int32) < nI (i - 1)
    · rw [if_pos q2]
    · rw [if_neg q2]
      rw [show (0 : Int32) = nI 0 from rfl, nz_lt (by omega) (by omega)] at q2
      rw [show i - 1 = 0 by omega]
      rfl
theorem wk_prev {μ : jj_M} {s i : Nat} (hp : ∀ b, b < i → wkG μ s b) (h : ¬ wnf_isWell (wkA μ s i) = 0) : ¬ wnf_isWell (wkA μ s (i - 1)) = 0 := by
  by_cases q : i = 0
  · subst q; exact h
  · exact (hp (i - 1) (by omega)).1
theorem wk_c {μ : jj_M} (h : jI μ) {s z r : Nat} (hs : s < 4) (hz : z ≤ 40) (ez : μ (51 + 2 * s) 2 = nI z) (hr : r ≤ z) (hg : ∀ b, b < r → wkG μ s b) (hb : r = z ∨ ¬ wkG μ s r) (N : Nat) : ∀ (k i f : Nat) (x : Int32), i + k = r → k < f → wyf_walkedHours_L4 N (51 + 2 * s) μ f x (nI i) = some (if r = z ∧ z ≠ 0 then x + sumI (wkR μ s) i k else -1) := by
  obtain ⟨_, _, _, _, S5⟩ := h.sh hs
  have cell : ∀ t, t < 40 → μ (51 + 2 * s + 1) t = wkA μ s t := fun t ht => by rw [show 51 + 2 * s + 1 = 52 + 2 * s by omega]; exact S5 t ht
  intro k
  induction k with
  | zero =>
    intro i f x hi hf
    obtain ⟨f, rfl⟩ : ∃ m, f = m + 1 := ⟨f - 1, by omega⟩
    have e : i = r := by omega
    subst e
    rw [wyf_walkedHours_L4]
    by_cases q : i = z
    · subst q
      rw [ez, if_pos (Int32.le_refl _)]
      by_cases q2 : i = 0
      · subst q2; rw [if_pos (show nI 0 = 0 from rfl), if_neg (by omega)]
      · rw [if_neg (by rw [show (0 : Int32) = nI 0 from rfl]; exact nI_ne (by omega) (by omega) q2), if_pos ⟨rfl, q2⟩, sumI, Int32.add_zero]
    · have ng : ¬ wkG μ s i := hb.elim (fun e => absurd e q) id
      have c : ¬ nI z ≤ nI i := by rw [nz_le (by omega) (by omega)]; omega
      have g1 : jj_i (nI i) 40 := nz_in (by omega) (by omega)
      have g2 : jj_i (nI (i - 1)) 40 := nz_in (by omega) (by omega)
      have k1 : (nI i).toNatClampNeg = i := nz_clamp (by omega)
      have k2 : (nI (i - 1)).toNatClampNeg = i - 1 := nz_clamp (by omega)
      simp only [ez, c, wk_max (show i < 1000 by omega), eq_true g1, eq_true g2, k1, k2, cell i (by omega), cell (i - 1) (by omega), ↓reduceIte]
      rw [if_neg (show ¬ (i = z ∧ z ≠ 0) from fun e => q e.1)]
      by_cases w : wnf_isWell (wkA μ s i) = 0
      · rw [if_pos w]
      have w2 := wk_prev hg w
      rw [if_neg w, if_neg w2]
      have n1 : ¬ wkA μ s i = wkA μ s (i - 1) := fun e => ng ⟨w, Or.inl e⟩
      have n2 : wkR μ s i = 0 := by
        by_cases q3 : wkR μ s i = 0
        · exact q3
        · exact absurd ⟨w, Or.inr q3⟩ ng
      obtain ⟨a, ha, ea⟩ := nz_well w2
      obtain ⟨b, hb', eb⟩ := nz_well w
      unfold wkR at n2
      rw [ea, eb, nz_clamp (by omega), nz_clamp (by omega)] at n2
      rw [ea, eb] at n1 ⊢
      have g3 : jj_i (nI (8 * a + b)) 64 := nz_in (by omega) (by omega)
      have k3 : (nI (8 * a + b)).toNatClampNeg = 8 * a + b := nz_clamp (by omega)
      simp only [(owe_i a b).1, eq_true g3, k3, n1, (h.road (j := 8 * a + b) (by omega)).1, n2, ↓reduceIte]
  | succ k ih =>
    intro i f x hi hf
    obtain ⟨f, rfl⟩ : ∃ m, f = m + 1 := ⟨f - 1, by omega⟩
    have c : ¬ nI z ≤ nI i := by rw [nz_le (by omega) (by omega)]; omega
    have g1 : jj_i (nI i) 40 := nz_in (by omega) (by omega)
    have g2 : jj_i (nI (i - 1)) 40 := nz_in (by omega) (by omega)
    have k1 : (nI i).toNatClampNeg = i := nz_clamp (by omega)
    have k2 : (nI (i - 1)).toNatClampNeg = i - 1 := nz_clamp (by omega)
    obtain ⟨w, w3⟩ := hg i (by omega)
    have w2 := wk_prev (fun b hb => hg b (by omega)) w
    have e := ih (i + 1) f (x + wkR μ s i) (by omega) (by omega)
    obtain ⟨a, ha, ea⟩ := nz_well w2
    obtain ⟨b, hb', eb⟩ := nz_well w
    have eR : wkR μ s i = μ 61 (8 + (8 * a + b)) := by unfold wkR; rw [ea, eb, nz_clamp (by omega), nz_clamp (by omega)]
    have g3 : jj_i (nI (8 * a + b)) 64 := nz_in (by omega) (by omega)
    have k3 : (nI (8 * a + b)).toNatClampNeg = 8 * a + b := nz_clamp (by omega)
    rw [wyf_walkedHours_L4]
    simp only [ez, c, wk_max (show i < 1000 by omega), eq_true g1, eq_true g2, k1, k2, cell i (by omega), cell (i - 1) (by omega), w, w2, ↓reduceIte]
    rw [sumI, ← Int32.add_assoc, ← e]
    rw [ea, eb] at w3 ⊢
    simp only [(owe_i a b).1, eq_true g3, k3, (h.road (j := 8 * a + b) (by omega)).1, ← eR, nz_s, ↓reduceIte]
    by_cases q : nI b = nI a
    · rw [if_pos q]
    · rw [if_neg q, if_neg (w3.elim (fun e => absurd e q) id)]
theorem wk_b {μ : jj_M} (h : jI μ) {s i : Nat} (hw : ¬ wnf_isWell (wkA μ s i) = 0 → ¬ wnf_isWell (wkA μ s (i - 1)) = 0) (N : Nat) (K : Int32 → Int32 → Option Int32) (x1 x3 : Int32) : (wkG μ s i → mdf_isWalk_B75 N K x1 x3 (wkA μ s i) (wkA μ s (i - 1)) μ = K 1 (x3 + 1)) ∧ (¬ wkG μ s i → mdf_isWalk_B75 N K x1 x3 (wkA μ s i) (wkA μ s (i - 1)) μ = K 0 (x3 + 1)) := by
  unfold mdf_isWalk_B75
  rw [nz_isWell]
  by_cases w : wnf_isWell (wkA μ s i) = 0
  · rw [if_pos w]
    exact ⟨fun g => absurd w g.1, fun _ => rfl⟩
  rw [if_neg w]
  have w2 := hw w
  obtain ⟨a, ha, ea⟩ := nz_well w2
  obtain ⟨b, hb, eb⟩ := nz_well w
  have eR : wkR μ s i = μ 61 (8 + (8 * a + b)) := by unfold wkR; rw [ea, eb, nz_clamp (by omega), nz_clamp (by omega)]
  by_cases q : wkA μ s i = wkA μ s (i - 1)
  · rw [if_pos q]
    exact ⟨fun _ => rfl, fun g => absurd ⟨w, Or.inl q⟩ g⟩
  rw [if_neg q]
  have e : mdf_roadOf (wkA μ s (i - 1)) (wkA μ s i) μ = some (wkR μ s i) := by rw [ea, eb, roadOf_ok ha hb, eR]
  rw [e, Option.bind_some]
  have b := (h.road (j := 8 * a + b) (by omega)).2
  rw [← eR] at b
  by_cases q2 : wkR μ s i = 0
  · rw [if_pos (by rw [q2]; exact Int32.le_refl _)]
    refine ⟨fun g => absurd q2 (g.2.elim (fun e => absurd e q) id), fun _ => rfl⟩
  · have n : ¬ wkR μ s i ≤ 0 := by
      intro e
      rw [Int32.le_iff_toInt_le] at e
      have z0 : (0 : Int32).toInt = 0 := by decide
      have b1 := b.1
      exact q2 (Int32.toInt_inj.mp (by omega))
    rw [if_neg n]
    exact ⟨fun _ => rfl, fun g => absurd ⟨w, Or.inr q2⟩ g⟩
theorem wk_m {μ : jj_M} (h : jI μ) {s z r : Nat} (hs : s < 4) (hz : z ≤ 40) (ez : μ 69 s = nI z) (hr : r ≤ z) (hg : ∀ b, b < r → wkG μ s b) (hb : r = z ∨ ¬ wkG μ s r) (N : Nat) : ∀ (k i f : Nat), i + k = r → k + 1 < f → mdf_isWalk_L26 N (nI s) μ f 1 (nI i) = some (if r = z then 1 else 0) := by
  have gs : jj_i (nI s) 4 := nz_in (by omega) (by omega)
  have ks : (nI s).toNatClampNeg = s := nz_clamp (by omega)
  have one : ¬ (1 : Int32) = 0 := by decide
  have stp : ∀ i f, i < z → (∀ b, b < i → wkG μ s b) → (wkG μ s i → mdf_isWalk_L26 N (nI s) μ (f + 1) 1 (nI i) = mdf_isWalk_L26 N (nI s) μ f 1 (nI (i + 1))) ∧ (¬ wkG μ s i → mdf_isWalk_L26 N (nI s) μ (f + 1) 1 (nI i) = mdf_isWalk_L26 N (nI s) μ f 0 (nI (i + 1))) := by
    intro i f hi hp
    have c : ¬ nI z ≤ nI i := by rw [nz_le (by omega) (by omega)]; omega
    have g1 : jj_i (nI (40 * s + i)) 160 := nz_in (by omega) (by omega)
    have k1 : (nI (40 * s + i)).toNatClampNeg = 40 * s + i := nz_clamp (by omega)
    have e4 : (40 : Int32) * nI s + nI i = nI (40 * s + i) := by rw [show (40 : Int32) = nI 40 from rfl, nz_mul, nz_add]
    have B := wk_b h (s := s) (i := i) (fun w => wk_prev hp w) N (mdf_isWalk_L26 N (nI s) μ f) (nI s) (nI i)
    rw [nz_s] at B
    have e : mdf_isWalk_L26 N (nI s) μ (f + 1) 1 (nI i) = mdf_isWalk_B75 N (mdf_isWalk_L26 N (nI s) μ f) (nI s) (nI i) (wkA μ s i) (wkA μ s (i - 1)) μ := by
      rw [mdf_isWalk_L26]
      simp only [eq_true gs, ks, ez, c, one, e4, eq_true g1, k1, ↓reduceIte]
      by_cases q : i = 0
      · subst q
        rw [if_pos (show nI 0 = 0 from rfl)]
        rfl
      · rw [if_neg (by rw [show (0 : Int32) = nI 0 from rfl]; exact nI_ne (by omega) (by omega) q)]
        have e5 : nI (40 * s + i) - 1 = nI (40 * s + (i - 1)) := by
          rw [show (1 : Int32) = nI 1 from rfl, nz_sub (by omega)]
          congr 1
          omega
        have g2 : jj_i (nI (40 * s + (i - 1))) 160 := nz_in (by omega) (by omega)
        have k2 : (nI (40 * s + (i - 1))).toNatClampNeg = 40 * s + (i - 1) := nz_clamp (by omega)
        simp only [e5, eq_true g2, k2, ↓reduceIte]
        rfl
    rw [e]
    exact B
  intro k
  induction k with
  | zero =>
    intro i f hi hf
    obtain ⟨f, rfl⟩ : ∃ m, f = m + 2 := ⟨f - 2, by omega⟩
    have e : i = r := by omega
    subst e
    by_cases q : i = z
    · subst q
      rw [mdf_isWalk_L26]
      simp only [eq_true gs, ks, ez, Int32.le_refl, one, false_or, ↓reduceIte]
    · have ng : ¬ wkG μ s i := hb.elim (fun e => absurd e q) id
      rw [(stp i (f + 1) (by omega) hg).2 ng, if_neg q, mdf_isWalk_L26]
      by_cases q2 : nI z ≤ nI (i + 1)
      · simp only [eq_true gs, ks, ez, q2, true_or, ↓reduceIte]
      · simp only [eq_true gs, ks, ez, q2, true_or, ↓reduceIte]
  | succ k ih =>
    intro i f hi hf
    obtain ⟨f, rfl⟩ : ∃ m, f = m + 1 := ⟨f - 1, by omega⟩
    rw [(stp i f (by omega) (fun b hb => hg b (by omega))).1 (hg i (by omega))]
    exact ih (i + 1) f (by omega) (by omega)
theorem wk_s {μ : jj_M} {s z : Nat} (hs : s < 4) (hz : z ≤ 40) (ez : μ 69 s = nI z) (hg : ∀ b, b < z → wkG μ s b) (N : Nat) : ∀ (k i f : Nat) (x : Int32), 1 ≤ i → i + k = z → k < f → mdf_walked_L33 N (nI s) μ f x (nI i) = some (x + sumI (wkR μ s) i k, μ) := by
  have gs : jj_i (nI s) 4 := nz_in (by omega) (by omega)
  have ks : (nI s).toNatClampNeg = s := nz_clamp (by omega)
  intro k
  induction k with
  | zero =>
    intro i f x h1 hi hf
    obtain ⟨f, rfl⟩ : ∃ m, f = m + 1 := ⟨f - 1, by omega⟩
    have c : nI z ≤ nI i := by rw [nz_le (by omega) (by omega)]; omega
    rw [mdf_walked_L33]
    simp only [eq_true gs, ks, ez, c, ↓reduceIte]
    rw [sumI, Int32.add_zero]
  | succ k ih =>
    intro i f x h1 hi hf
    obtain ⟨f, rfl⟩ : ∃ m, f = m + 1 := ⟨f - 1, by omega⟩
    have c : ¬ nI z ≤ nI i := by rw [nz_le (by omega) (by omega)]; omega
    have g1 : jj_i (nI (40 * s + i)) 160 := nz_in (by omega) (by omega)
    have k1 : (nI (40 * s + i)).toNatClampNeg = 40 * s + i := nz_clamp (by omega)
    have e4 : (40 : Int32) * nI s + nI i = nI (40 * s + i) := by rw [show (40 : Int32) = nI 40 from rfl, nz_mul, nz_add]
    have e5 : nI (40 * s + i) - 1 = nI (40 * s + (i - 1)) := by
      rw [show (1 : Int32) = nI 1 from rfl, nz_sub (by omega)]
      congr 1
      omega
    have g2 : jj_i (nI (40 * s + (i - 1))) 160 := nz_in (by omega) (by omega)
    have k2 : (nI (40 * s + (i - 1))).toNatClampNeg = 40 * s + (i - 1) := nz_clamp (by omega)
    obtain ⟨w, _⟩ := hg i (by omega)
    have w2 := wk_prev (fun b hb => hg b (by omega)) w
    obtain ⟨a, ha, ea⟩ := nz_well w2
    obtain ⟨b, hb', eb⟩ := nz_well w
    have eR : wkR μ s i = μ 61 (8 + (8 * a + b)) := by unfold wkR; rw [ea, eb, nz_clamp (by omega), nz_clamp (by omega)]
    have e : mdf_roadOf (μ 70 (40 * s + (i - 1))) (μ 70 (40 * s + i)) μ = some (wkR μ s i) := by
      show mdf_roadOf (wkA μ s (i - 1)) (wkA μ s i) μ = _
      rw [ea, eb, roadOf_ok ha hb', eR]
    rw [mdf_walked_L33]
    simp only [eq_true gs, ks, ez, c, e4, e5, eq_true g1, eq_true g2, k1, k2, e, nz_s, ↓reduceIte, Option.bind_some]
    rw [ih (i + 1) f _ (by omega) (by omega) (by omega), sumI, Int32.add_assoc]
theorem sumI_b {g : Nat → Int32} {m : Nat} (hm : m ≤ 1000) : ∀ (k i : Nat), k ≤ 1000 → (∀ j, i ≤ j → j < i + k → jb (g j) 0 m) → ∃ y, y ≤ m * k ∧ sumI g i k = nI y := by
  intro k
  induction k with
  | zero => intro i _ _; exact ⟨0, by omega, rfl⟩
  | succ k ih =>
    intro i hk h
    obtain ⟨y, hy, e⟩ := ih (i + 1) (by omega) (fun j a b => h j (by omega) (by omega))
    obtain ⟨b1, b2⟩ := h i (by omega) (by omega)
    obtain ⟨v, hv, ev⟩ := nz_ofb (x := g i) (n := m + 1) b1 (by omega)
    refine ⟨v + y, ?_, by rw [sumI, e, ev, nz_add]⟩
    rw [Nat.mul_succ]
    omega
