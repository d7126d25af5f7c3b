/-! ===== alive ===== -/
theorem walk_both {μ : jj_M} (h : jI μ) {s : Nat} (hs : s < 4) : ∃ z, z ≤ 40 ∧ μ 69 s = nI z ∧ ((z ≠ 0 ∧ (∀ b, b < z → wkG μ s b) ∧ (∃ y, y ≤ 1000 ∧ wyf_walkedHours jz_N (51 + 2 * s) μ = some (nI y)) ∧ mdf_isWalk jz_N (nI s) μ = some 1) ∨ (wyf_walkedHours jz_N (51 + 2 * s) μ = some (-1) ∧ mdf_isWalk jz_N (nI s) μ = some 0)) := by
  obtain ⟨A1, A2, A3, ⟨z, hz, ez, ez0⟩, A5⟩ := h.sh hs
  have gs : jj_i (nI s) 4 := nz_in (by omega) (by omega)
  have ks : (nI s).toNatClampNeg = s := nz_clamp (by omega)
  obtain ⟨r, hr, hg, hb⟩ := first_bad (wkG μ s) (fun i => by unfold wkG; infer_instance) z
  have big := jz_ge
  obtain ⟨F, eF⟩ : ∃ F, jz_N = F + 1 := ⟨jz_N - 1, by omega⟩
  have V : wyf_walkedHours jz_N (51 + 2 * s) μ = some (if r = z ∧ z ≠ 0 then 0 + sumI (wkR μ s) 0 r else -1) := wk_c h hs hz (A2.trans ez) hr hg hb jz_N r 0 jz_N 0 (by omega) (by omega)
  have M : mdf_isWalk jz_N (nI s) μ = some (if r = z ∧ z ≠ 0 then 1 else 0) := by
    have m0 : mdf_isWalk_L26 jz_N (nI s) μ jz_N 0 0 = some 0 := by
      have := wk_0 (μ := μ) hs jz_N F 0
      rwa [← eF] at this
    unfold mdf_isWalk
    simp only [eq_true gs, ks, ez, ↓reduceIte]
    by_cases q : μ 68 s ≤ 0
    · rw [if_pos q, m0]
      have zz : z = 0 := by
        refine ez0 ?_
        rcases A3 with e | e | e | e
        · exact e
        · rw [e] at q; exact absurd q (by decide)
        · rw [e] at q; exact absurd q (by decide)
        · rw [e] at q; exact absurd q (by decide)
      rw [if_neg (fun e => e.2 zz)]
    rw [if_neg q]
    by_cases q2 : z = 0
    · subst q2
      rw [if_pos (show nI 0 ≤ 0 by decide), m0, if_neg (fun e => e.2 rfl)]
    · rw [if_neg (by rw [show (0 : Int32) = nI 0 from rfl, nz_le (by omega) (by omega)]; omega)]
      have e := wk_m h hs hz ez hr hg hb jz_N r 0 jz_N (by omega) (by omega)
      have e : mdf_isWalk_L26 jz_N (nI s) μ jz_N 1 0 = some (if r = z then 1 else 0) := e
      rw [e]
      by_cases q3 : r = z
      · rw [if_pos q3, if_pos ⟨q3, q2⟩]
      · rw [if_neg q3, if_neg (fun e => q3 e.1)]
  refine ⟨z, hz, ez, ?_⟩
  by_cases G : r = z ∧ z ≠ 0
  · left
    rw [if_pos G] at V M
    obtain ⟨rfl, zn⟩ := G
    have Rb : ∀ j, 0 ≤ j → j < 0 + r → jb (wkR μ s j) 0 20 := by
      intro j _ hj
      obtain ⟨w, _⟩ := hg j (by omega)
      have w2 := wk_prev (fun b hb => hg b (by omega)) w
      obtain ⟨p, hp, ep⟩ := nz_well w2
      obtain ⟨q, hq, eq⟩ := nz_well w
      unfold wkR
      rw [ep, eq, nz_clamp (by omega), nz_clamp (by omega)]
      exact (h.road (j := 8 * p + q) (by omega)).2
    obtain ⟨y, hy, eY⟩ := sumI_b (g := wkR μ s) (m := 20) (by omega) r 0 (by omega) Rb
    rw [Int32.zero_add, eY] at V
    exact ⟨zn, hg, ⟨y, by omega, V⟩, M⟩
  · right
    rw [if_neg G] at V M
    exact ⟨V, M⟩
/-- one's way by a sheet's wells, with this thirst -/
def alv (μ : jj_M) (s p : Nat) (set : Int32) : Nat → Nat → Int32 → Int32
  | 0, _, _ => 1
  | k + 1, i, t => if (if wkA μ s i = wkA μ s (i - 1) then t else t + parv (μ 61) p (wkR μ s i)) ≤ limv (μ 61) p then alv μ s p set k (i + 1) (if ((set >>> (wkA μ s i &&& 31)) &&& 1) = 1 then 0 else (if wkA μ s i = wkA μ s (i - 1) then t else t + parv (μ 61) p (wkR μ s i))) else 0
theorem alv_c {μ : jj_M} (h : jI μ) {n p s z : Nat} (hn : n ≤ 6) (en : μ 61 139 = nI n) (hp : p < n) (hs : s < 4) (hz : z ≤ 40) (ez : μ 69 s = nI z) (hg : ∀ b, b < z → wkG μ s b) (set : Int32) : ∀ (k i f : Nat) (t : Int32) (ν : jj_M), 1 ≤ i → i + k = z → k < f → (∀ q, q ≠ 20 → ν q = μ q) → ∃ m, wyf_comesAlive_L12 jz_N (51 + 2 * s) (9 + p) set (limv (μ 61) p) f t (nI i) ν = some (alv μ s p set k i t, m) ∧ ∀ q, q ≠ 20 → m q = μ q := by
  obtain ⟨_, S2, _, _, S5⟩ := h.sh hs
  intro k
  induction k with
  | zero =>
    intro i f t ν h1 hi hf hν
    obtain ⟨f, rfl⟩ : ∃ m, f = m + 1 := ⟨f - 1, by omega⟩
    have e : i = z := by omega
    subst e
    exact ⟨ν, by rw [wyf_comesAlive_L12, hν _ (by omega), S2, ez, if_pos (Int32.le_refl _), alv], hν⟩
  | succ k ih =>
    intro i f t ν h1 hi hf hν
    obtain ⟨f, rfl⟩ : ∃ m, f = m + 1 := ⟨f - 1, by omega⟩
    have hI : jI ν := (jTh.one (q := 20) (by unfold jFree; omega) hν).I h
    have e61 : ν 61 = μ 61 := hν 61 (by omega)
    have cell : ∀ t, t < 40 → ν (51 + 2 * s + 1) t = wkA μ s t := fun t ht => by rw [hν _ (by omega), show 51 + 2 * s + 1 = 52 + 2 * s by omega]; exact S5 t ht
    have z2 : ν (51 + 2 * s) 2 = nI z := by rw [hν _ (by omega), S2, ez]
    have c : ¬ nI z ≤ nI i := by rw [nz_le (by omega) (by omega)]; omega
    have e1 : nI i - 1 = nI (i - 1) := by rw [show (1 : Int32) = nI 1 from rfl, nz_sub (by omega)]
    have g1 : jj_i (nI i) 40 := nz_in (by omega) (by omega)
    have g2 : jj_i (nI (i - 1)) 40 := nz_in (by omega) (by omega)
    have k1 : (nI i).toNatClampNeg = i := nz_clamp (by omega)
    have k2 : (nI (i - 1)).toNatClampNeg = i - 1 := nz_clamp (by omega)
    obtain ⟨w, wg⟩ := hg i (by omega)
    have w2 := (hg (i - 1) (by omega)).1
    have B : ∀ (x : Int32) (m : jj_M), (∀ q, q ≠ 20 → m q = μ q) → ∃ m', wyf_comesAlive_B87 jz_N (wyf_comesAlive_L12 jz_N (51 + 2 * s) (9 + p) set (limv (μ 61) p) f) (51 + 2 * s) (9 + p) set x (limv (μ 61) p) (nI i) (wkA μ s i) m = some (if x ≤ limv (μ 61) p then alv μ s p set k (i + 1) (if ((set >>> (wkA μ s i &&& 31)) &&& 1) = 1 then 0 else x) else 0, m') ∧ ∀ q, q ≠ 20 → m' q = μ q := by
      intro x m hm
      unfold wyf_comesAlive_B87 wyf_isIn
      by_cases y : x ≤ limv (μ 61) p
      · rw [if_pos y, if_pos y, nz_s]
        by_cases v : ((set >>> (wkA μ s i &&& 31)) &&& 1) = 1
        · rw [if_pos v, if_pos v, if_neg (by decide)]
          exact ih (i + 1) f 0 m (by omega) (by omega) (by omega) hm
        · rw [if_neg v, if_neg v, if_pos rfl]
          exact ih (i + 1) f x m (by omega) (by omega) (by omega) hm
      · rw [if_neg y, if_neg y]
        exact ⟨m, rfl, hm⟩
    rw [wyf_comesAlive_L12, alv]
    simp only [z2, c, e1, eq_true g1, eq_true g2, k1, k2, cell i (by omega), cell (i - 1) (by omega), w, w2, ↓reduceIte]
    by_cases q : wkA μ s i = wkA μ s (i - 1)
    · rw [if_pos q]
      simp only [q, ↓reduceIte]
      have := B t ν hν
      rw [q] at this
      exact this
    · obtain ⟨a, ha, ea⟩ := nz_well w2
      obtain ⟨b, hb, eb⟩ := nz_well w
      have i1 : nI a * 8 + nI b = nI (8 * a + b) := (owe_i a b).1
      have rd : ν 3 (8 * a + b) = wkR μ s i := by
        unfold wkR
        rw [ea, eb, nz_clamp (by omega), nz_clamp (by omega), (hI.rd ha hb).1, e61]
      obtain ⟨m, m1, m2⟩ := parched_p hI hn (by rw [e61]; exact en) hp (wkR μ s i)
      rw [e61] at m1
      rw [if_neg q]
      simp only [q, ↓reduceIte]
      rw [ea]
      have := B (t + parv (μ 61) p (wkR μ s i)) m (fun q hq => by rw [m2 q hq, hν q hq])
      rw [eb] at this ⊢
      rw [i1, if_pos (nz_in (by omega) (by omega))]
      simp only [nz_clamp (show 8 * a + b < 2147483648 by omega), rd, m1, Option.bind_some]
      exact this
theorem alv_m {μ : jj_M} (h : jI μ) {n p s z : Nat} (hn : n ≤ 6) (en : μ 61 139 = nI n) (hp : p < n) (hs : s < 4) (hz : z ≤ 40) (ez : μ 69 s = nI z) (hg : ∀ b, b < z → wkG μ s b) (set : Int32) : ∀ (k i f : Nat) (t : Int32) (ν : jj_M), 1 ≤ i → i + k = z → k + 1 < f → jTh μ ν → ∃ m, mdf_alive_L53 jz_N (nI s) (nI p) set f t 1 (nI i) ν = some (alv μ s p set k i t, m) ∧ jTh μ m := by
  have gs : jj_i (nI s) 4 := nz_in (by omega) (by omega)
  have ks : (nI s).toNatClampNeg = s := nz_clamp (by omega)
  intro k
  induction k with
  | zero =>
    intro i f t ν h1 hi hf hν
    obtain ⟨f, rfl⟩ : ∃ m, f = m + 1 := ⟨f - 1, by omega⟩
    have e : i = z := by omega
    subst e
    have e69 : ν 69 = μ 69 := hν.row (by unfold jFree; omega) (by omega)
    refine ⟨ν, ?_, hν⟩
    rw [mdf_alive_L53, if_pos gs, ks, e69, ez, if_pos (Int32.le_refl _), if_neg (by decide), alv]
  | succ k ih =>
    intro i f t ν h1 hi hf hν
    obtain ⟨f, rfl⟩ : ∃ m, f = m + 1 := ⟨f - 1, by omega⟩
    have hI : jI ν := hν.I h
    have e61 : ν 61 = μ 61 := hν.r61
    have e69 : ν 69 = μ 69 := hν.row (by unfold jFree; omega) (by omega)
    have e70 : ν 70 = μ 70 := hν.row (by unfold jFree; omega) (by omega)
    have c : ¬ nI z ≤ nI i := by rw [nz_le (by omega) (by omega)]; omega
    have i40 : (40 : Int32) * nI s + nI i = nI (40 * s + i) := by rw [show (40 : Int32) = nI 40 from rfl, nz_mul, nz_add]
    have i39 : nI (40 * s + i) - 1 = nI (40 * s + (i - 1)) := by rw [show (1 : Int32) = nI 1 from rfl, nz_sub (by omega)]; congr 1; omega
    have g1 : jj_i (nI (40 * s + i)) 160 := nz_in (by omega) (by omega)
    have g2 : jj_i (nI (40 * s + (i - 1))) 160 := nz_in (by omega) (by omega)
    have k1 : (nI (40 * s + i)).toNatClampNeg = 40 * s + i := nz_clamp (by omega)
    have k2 : (nI (40 * s + (i - 1))).toNatClampNeg = 40 * s + (i - 1) := nz_clamp (by omega)
    obtain ⟨w, wg⟩ := hg i (by omega)
    have w2 := (hg (i - 1) (by omega)).1
    obtain ⟨a, ha, ea⟩ := nz_well w2
    obtain ⟨b, hb, eb⟩ := nz_well w
    have hR : wkR μ s i = μ 61 (8 + (8 * a + b)) := by
      unfold wkR
      rw [ea, eb, nz_clamp (by omega), nz_clamp (by omega)]
    have B : ∀ (x : Int32) (m : jj_M), jTh μ m → ∃ m', (if limv (μ 61) p < x then mdf_alive_B141 jz_N (mdf_alive_L53 jz_N (nI s) (nI p) set f) (nI s) (nI p) set x (nI i) (wkA μ s i) 0 m else mdf_alive_B141 jz_N (mdf_alive_L53 jz_N (nI s) (nI p) set f) (nI s) (nI p) set x (nI i) (wkA μ s i) 1 m) = some (if x ≤ limv (μ 61) p then alv μ s p set k (i + 1) (if ((set >>> (wkA μ s i &&& 31)) &&& 1) = 1 then 0 else x) else 0, m') ∧ jTh μ m' := by
      intro x m hm
      unfold mdf_alive_B141
      by_cases y : x ≤ limv (μ 61) p
      · rw [if_neg (Int32.not_lt.mpr y), if_pos y, nz_s]
        by_cases v : ((set >>> (wkA μ s i &&& 31)) &&& 1) = 1
        · rw [if_pos v, if_pos v]
          exact ih (i + 1) f 0 m (by omega) (by omega) (by omega) hm
        · rw [if_neg v, if_neg v]
          exact ih (i + 1) f x m (by omega) (by omega) (by omega) hm
      · rw [if_pos (Int32.not_le.mp y), if_neg y, nz_s]
        have stop : ∀ x', mdf_alive_L53 jz_N (nI s) (nI p) set f x' 0 (nI (i + 1)) m = some (0, m) := by
          intro x'
          obtain ⟨f, rfl⟩ : ∃ m, f = m + 1 := ⟨f - 1, by omega⟩
          rw [mdf_alive_L53, if_pos gs]
          by_cases u : m 69 (nI s).toNatClampNeg ≤ nI (i + 1)
          · rw [if_pos u, if_pos rfl]
          · rw [if_neg u, if_pos rfl, if_pos rfl]
        rw [stop, stop]
        refine ⟨m, ?_, hm⟩
        split
        · rfl
        · rfl
    have o1 : ¬ (1 : Int32) = 0 := by decide
    have ro : mdf_roadOf (nI a) (nI b) ν = some (wkR μ s i) := by rw [roadOf_ok ha hb, e61, hR]
    rw [mdf_alive_L53, alv]
    have c1 : ν 70 (40 * s + i) = wkA μ s i := by rw [e70]; rfl
    have c2 : ν 70 (40 * s + (i - 1)) = wkA μ s (i - 1) := by rw [e70]; rfl
    simp only [eq_true gs, ks, e69, ez, c, o1, i40, i39, eq_true g1, eq_true g2, k1, k2, c1, c2, ↓reduceIte]
    rw [ea]
    have eb' := eb
    by_cases q : wkA μ s i = wkA μ s (i - 1)
    · have R0 : wkR μ s i = 0 := by
        have : b = a := by
          rw [ea, eb] at q
          exact nz_inj (by omega) (by omega) q
        rw [hR, this]
        exact h.S.2.2.1 a ha
      have hB := B t ν hν
      rw [ea] at q
      rw [if_pos q]
      rw [eb] at hB ⊢
      rw [ro, Option.bind_some, R0, if_pos (by decide), limit_m (by omega), Option.bind_some, e61, Int32.add_zero]
      exact hB
    · have Rn : ¬ wkR μ s i = 0 := wg.resolve_left q
      have Rp : ¬ wkR μ s i ≤ 0 := by
        obtain ⟨_, l, hl, el⟩ := h.rd ha hb
        rw [hR, el] at Rn ⊢
        rw [show (0 : Int32) = nI 0 from rfl, nz_le (by omega) (by omega)]
        intro x
        exact Rn (by rw [show l = 0 by omega]; rfl)
      obtain ⟨m, m1, m2⟩ := thirstBy_m hI (p := p) (by omega) (wkR μ s i)
      rw [e61] at m1
      have hB := B (t + parv (μ 61) p (wkR μ s i)) m (hν.tr m2)
      have em : m 61 = μ 61 := m2.r61.trans e61
      rw [ea] at q
      rw [if_neg q]
      rw [eb] at hB ⊢
      rw [ro, Option.bind_some, if_neg Rp, m1, Option.bind_some]
      simp only []
      rw [limit_m (by omega), Option.bind_some, em]
      exact hB
theorem alv_01 (μ : jj_M) (s p : Nat) (set : Int32) : ∀ k i t, alv μ s p set k i t = 0 ∨ alv μ s p set k i t = 1 := by
  intro k
  induction k with
  | zero => intro i t; exact Or.inr rfl
  | succ k ih =>
    intro i t
    rw [alv]
    generalize (if wkA μ s i = wkA μ s (i - 1) then t else t + parv (μ 61) p (wkR μ s i)) = x
    by_cases q : x ≤ limv (μ 61) p
    · rw [if_pos q]; exact ih _ _
    · rw [if_neg q]; exact Or.inl rfl
theorem nz_isSet (x : Int32) : mdf_isSet x = wnf_areWells x := nz_within x 0 255
theorem st_alive {μ : jj_M} (h : jI μ) (x1 x2 x3 : Int32) : ∃ (r : Int32) (μ1 : jj_M) (μ2 : jj_M), wnf_alive jz_N x1 x2 x3 μ = some (r, μ1) ∧ mdf_alive jz_N x1 x2 x3 μ1 = some (r, μ2) ∧ jI μ2 := by
  unfold wnf_alive mdf_alive
  have big := jz_ge
  obtain ⟨n, hn, en, en1⟩ := h.n
  rw [nz_isSheet, nz_isSet]
  obtain ⟨m1, m2, a, b, c⟩ := err1 h
  have e61 : m1 61 = μ 61 := err_61 (e := 1) (by omega) a 61 (by decide)
  have ip : ∀ m : jj_M, m 61 = μ 61 → mdf_isPerson x2 m = wnf_isPerson x2 μ := fun m e => isPer_ok hn en1 (by rw [e]; exact en) x2
  by_cases c1 : wnf_isSheet x1 = 0
  · exact ⟨-1000000001, m1, m2, by simp only [c1, a, ↓reduceIte, Option.bind_some], by simp only [c1, b, ↓reduceIte, Option.bind_some], c⟩
  by_cases c2 : wnf_isPerson x2 μ = 0
  · exact ⟨-1000000001, m1, m2, by simp only [c1, c2, a, ↓reduceIte, Option.bind_some], by simp only [c1, ip m1 e61, c2, b, ↓reduceIte, Option.bind_some], c⟩
  by_cases c3 : wnf_areWells x3 = 0
  · exact ⟨-1000000001, m1, m2, by simp only [c1, c2, c3, a, ↓reduceIte, Option.bind_some], by simp only [c1, ip m1 e61, c2, c3, b, ↓reduceIte, Option.bind_some], c⟩
  obtain ⟨s, hs, rfl⟩ := nz_sheet c1
  obtain ⟨p, hp, rfl⟩ := nz_per hn en1 c2
  have gs : jj_i (nI s) 4 := nz_in (by omega) (by omega)
  have ks : (nI s).toNatClampNeg = s := nz_clamp (by omega)
  have gp : jj_i (nI p) 6 := nz_in (by omega) (by omega)
  have kp : (nI p).toNatClampNeg = p := nz_clamp (by omega)
  have d51 : 50 + 1 + 2 * s = 51 + 2 * s := by omega
  have d9 : 5 + 4 + p = 9 + p := by omega
  obtain ⟨z, hz, ez, W⟩ := walk_both h hs
  rcases W with ⟨zn, hg, ⟨y, hy, V⟩, M⟩ | ⟨V, M⟩
  rotate_left
  · obtain ⟨m1, m2, a, b, c⟩ := err2 h
    have e := err_61 (e := 2) (by omega) a
    have neg : ¬ (0 : Int32) ≤ -1 := by decide
    have M1 := (isWalk_congr (e 61 (by decide)) (e 68 (by decide)) (e 69 (by decide)) (e 70 (by decide)) jz_N (nI s)).trans M
    exact ⟨-1000000002, m1, m2, by simp only [c1, c2, c3, eq_true gs, ks, d51, V, neg, a, ↓reduceIte, Option.bind_some], by simp only [c1, ip m1 (e 61 (by decide)), c2, c3, M1, b, ↓reduceIte, Option.bind_some], c⟩
  have pos : (0 : Int32) ≤ nI y := nI_nn (by omega)
  obtain ⟨A, A1, A2⟩ := alv_c h hn en hp hs hz ez hg x3 (z - 1) 1 jz_N 0 μ (by omega) (by omega) (by omega) (fun _ _ => rfl)
  have tA := jTh.one (q := 20) (by unfold jFree; omega) A2
  obtain ⟨C, C1, C2⟩ := alv_m h hn en hp hs hz ez hg x3 (z - 1) 1 jz_N 0 A (by omega) (by omega) (by omega) tA
  have A1' : wyf_comesAlive jz_N (51 + 2 * s) (9 + p) x3 μ = some (alv μ s p x3 (z - 1) 1 0, A) := by
    unfold wyf_comesAlive
    rw [limit_c (h.pag hn en hp (j := 0) (by omega)) (h.pag hn en hp (j := 1) (by omega))]
    exact A1
  have M1 := (isWalk_congr (tA.r61) (tA.row (by unfold jFree; omega) (by omega)) (tA.row (by unfold jFree; omega) (by omega)) (tA.row (by unfold jFree; omega) (by omega)) jz_N (nI s)).trans M
  refine ⟨alv μ s p x3 (z - 1) 1 0, A, C, ?_, ?_, C2.I h⟩
  · simp only [c1, c2, c3, eq_true gs, ks, d51, V, pos, eq_true gp, kp, d9, A1', ↓reduceIte, Option.bind_some]
    rcases alv_01 μ s p x3 (z - 1) 1 0 with q | q
    · rw [q, if_pos rfl]
    · rw [q, if_neg (by decide)]
  · have o : ¬ (1 : Int32) = 0 := by decide
    simp only [c1, ip A tA.r61, c2, c3, M1, o, ↓reduceIte, Option.bind_some]
    exact C1
