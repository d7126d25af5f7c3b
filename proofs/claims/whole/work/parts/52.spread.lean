/-! ===== ways, as the class spreads them ===== -/
def gup (f : Nat → Nat) (j v : Nat) : Nat → Nat := fun i => if i = j then v else f i
theorem gup_s {f : Nat → Nat} {j v : Nat} : gup f j v j = v := if_pos rfl
theorem gup_n {f : Nat → Nat} {j v i : Nat} (h : i ≠ j) : gup f j v i = f i := if_neg h
def gPhi (B : Nat) (L : Nat → Nat) : Nat := min (L 0) (B + 1) + min (L 1) (B + 1) + min (L 2) (B + 1) + min (L 3) (B + 1) + min (L 4) (B + 1) + min (L 5) (B + 1) + min (L 6) (B + 1) + min (L 7) (B + 1)
theorem gPhi_lt {B : Nat} {L : Nat → Nat} {b v : Nat} (hb : b < 8) (h : v < L b) (hv : v ≤ B) : gPhi B (gup L b v) < gPhi B L := by
  unfold gPhi gup
  rcases (by omega : b = 0 ∨ b = 1 ∨ b = 2 ∨ b = 3 ∨ b = 4 ∨ b = 5 ∨ b = 6 ∨ b = 7) with rfl | rfl | rfl | rfl | rfl | rfl | rfl | rfl <;> simp (decide := true) only [↓reduceIte, if_true, if_false] <;> omega
/-- the class takes the roads over, before it thinks -/
theorem look_ok (μ : jj_M) : ∃ m, wyf_lookAtRoads μ = some m ∧ (∀ k, k ≠ 72 → m k = μ k) ∧ ∀ j, j < 64 → m 72 j = μ 3 j := by
  have g64 : jj_cg 0 0 64 64 64 := cg_ok (n := 64) (k := 64) (by omega) (by omega)
  have z0 : Int32.toNatClampNeg 0 = 0 := by decide
  have z64 : Int32.toNatClampNeg 64 = 64 := nz_clamp (n := 64) (by omega)
  refine ⟨jj_uc μ 72 (va_cpy (μ 3) (μ 72) 0 0 64), ?_, fun k hk => juc_ne hk, fun j hj => ?_⟩
  · unfold wyf_lookAtRoads
    rw [if_pos g64, z0, z64, Option.bind_some]
  · rw [juc_eq, cpy0, if_pos hj]
def spS (μ0 : jj_M) (L : Nat → Nat) (μ : jj_M) : Prop := (∀ k, k ≠ 43 → μ k = μ0 k) ∧ ∀ w, w < 8 → μ 43 w = nI (L w) ∧ L w ≤ 1000000
def spK (R : Nat → Nat → Nat) (C : Nat → Nat) (lim : Nat) (dr : Nat → Bool) (μ : jj_M) : Prop := (∀ a b, a < 8 → b < 8 → μ 72 (8 * a + b) = nI (R a b) ∧ R a b ≤ 20) ∧ (∀ l, 1 ≤ l → l ≤ 20 → μ 42 l = nI (C l) ∧ C l ≤ 1000) ∧ μ 41 1 = nI lim ∧ lim ≤ 999999 ∧ ∀ w, w < 8 → wyf_isIn (μ 41 0) (nI w) = if dr w = true then 1 else 0
theorem spK.to {R : Nat → Nat → Nat} {C : Nat → Nat} {lim : Nat} {dr : Nat → Bool} {μ m : jj_M} (h : spK R C lim dr μ) (e3 : m 72 = μ 72) (e41 : m 41 = μ 41) (e42 : m 42 = μ 42) : spK R C lim dr m := by
  unfold spK
  rw [e3, e41, e42]
  exact h
def spV (C : Nat → Nat) (dr : Nat → Bool) (x t b l : Nat) : Nat := if x = 1 ∧ dr b = true then 0 else t + C l
def spN (R : Nat → Nat → Nat) (C : Nat → Nat) (lim : Nat) (dr : Nat → Bool) (x : Nat) (L : Nat → Nat) (a b : Nat) : Prop := 0 < R a b → L a + C (R a b) ≤ lim → L b ≤ spV C dr x (L a) b (R a b)
def spI (R : Nat → Nat → Nat) (C : Nat → Nat) (lim : Nat) (dr : Nat → Bool) (x : Nat) (I : (Nat → Nat) → Prop) : Prop := ∀ L a b, I L → a < 8 → b < 8 → L a < 1000000 → 0 < R a b → L a + C (R a b) ≤ lim → spV C dr x (L a) b (R a b) < L b → I (gup L b (spV C dr x (L a) b (R a b)))
theorem spS.w {μ0 μ : jj_M} {L : Nat → Nat} (h : spS μ0 L μ) {b v : Nat} (hb : b < 8) (hv : v ≤ 1000000) : spS μ0 (gup L b v) (jj_u μ 43 b (nI v)) := by
  refine ⟨fun k hk => by rw [ju_ne hk]; exact h.1 k hk, fun w hw => ?_⟩
  by_cases q : w = b
  · rw [q, ju_self, gup_s]; exact ⟨rfl, hv⟩
  · rw [ju_other q, gup_n q]; exact h.2 w hw
theorem sfrom_ok {N : Nat} {R : Nat → Nat → Nat} {C : Nat → Nat} {lim : Nat} {dr : Nat → Bool} {x B : Nat} {I : (Nat → Nat) → Prop} {μ0 : jj_M} (hx : x ≤ 1) (hK : spK R C lim dr μ0) (hI : spI R C lim dr x I) (hB : ∀ L, I L → ∀ w, w < 8 → L w < 1000000 → L w ≤ B) {a : Nat} (ha : a < 8) :
    ∀ (k i f x3 : Nat) (L : Nat → Nat) (μ : jj_M), i + k = 8 → k < f → spS μ0 L μ → I L → L a < 1000000 → x3 ≤ 1 → ∃ y L' μ', wyf_spreadFrom_L5 N (nI a) (nI x) f (nI x3) (nI i) μ = some (nI y, μ') ∧ spS μ0 L' μ' ∧ I L' ∧ (∀ w, L' w ≤ L w) ∧ gPhi B L' ≤ gPhi B L ∧ ((y = 1 ∧ (x3 = 1 ∨ gPhi B L' < gPhi B L)) ∨ (y = 0 ∧ x3 = 0 ∧ L' = L ∧ ∀ b, i ≤ b → b < 8 → spN R C lim dr x L a b)) := by
  obtain ⟨K1, K2, K3, K4, K5⟩ := hK
  intro k
  induction k with
  | zero =>
    intro i f x3 L μ hi hf hS hL hLa hx3
    obtain ⟨f, rfl⟩ : ∃ m, f = m + 1 := ⟨f - 1, by omega⟩
    have e : i = 8 := by omega
    subst e
    refine ⟨x3, L, μ, ?_, hS, hL, fun _ => Nat.le_refl _, Nat.le_refl _, ?_⟩
    · rw [wyf_spreadFrom_L5, if_pos (by decide), if_pos]
      rcases (by omega : x3 = 0 ∨ x3 = 1) with q | q
      · left; rw [q]; rfl
      · right; rw [q]; rfl
    · rcases (by omega : x3 = 0 ∨ x3 = 1) with q | q
      · right; exact ⟨q, q, rfl, fun b h1 h2 => by omega⟩
      · left; exact ⟨q, Or.inl q⟩
  | succ k ih =>
    intro i f x3 L μ hi hf hS hL hLa hx3
    obtain ⟨f, rfl⟩ : ∃ m, f = m + 1 := ⟨f - 1, by omega⟩
    have c : ¬ (8 : Int32) ≤ nI i := by rw [show (8 : Int32) = nI 8 from rfl, nz_le (by omega) (by omega)]; omega
    have i1 : nI a * 8 + nI i = nI (8 * a + i) := (owe_i a i).1
    obtain ⟨r1, r2⟩ := K1 a i ha (by omega)
    have r1' : μ 72 (8 * a + i) = nI (R a i) := by rw [hS.1 72 (by omega)]; exact r1
    have g1 : jj_i (nI (8 * a + i)) 64 := nz_in (by omega) (by omega)
    have k1 : (nI (8 * a + i)).toNatClampNeg = 8 * a + i := nz_clamp (by omega)
    have g2 : jj_i (nI a) 8 := nz_in (by omega) (by omega)
    have k2 : (nI a).toNatClampNeg = a := nz_clamp (by omega)
    have g3 : jj_i (nI (R a i)) 21 := nz_in (by omega) (by omega)
    have k3 : (nI (R a i)).toNatClampNeg = R a i := nz_clamp (by omega)
    have g4 : jj_i (nI i) 8 := nz_in (by omega) (by omega)
    have k4 : (nI i).toNatClampNeg = i := nz_clamp (by omega)
    obtain ⟨la, la2⟩ := hS.2 a ha
    obtain ⟨li', li2⟩ := hS.2 i (by omega)
    -- no change at this place
    have skip : spN R C lim dr x L a i → ∃ y L' μ', wyf_spreadFrom_L5 N (nI a) (nI x) f (nI x3) (nI i + 1) μ = some (nI y, μ') ∧ spS μ0 L' μ' ∧ I L' ∧ (∀ w, L' w ≤ L w) ∧ gPhi B L' ≤ gPhi B L ∧ ((y = 1 ∧ (x3 = 1 ∨ gPhi B L' < gPhi B L)) ∨ (y = 0 ∧ x3 = 0 ∧ L' = L ∧ ∀ b, i ≤ b → b < 8 → spN R C lim dr x L a b)) := by
      intro hn
      obtain ⟨y, L', μ', h1, h2, h3, h4, h5, h6⟩ := ih (i + 1) f x3 L μ (by omega) (by omega) hS hL hLa hx3
      refine ⟨y, L', μ', by rw [nz_s]; exact h1, h2, h3, h4, h5, h6.imp id (fun q => ⟨q.1, q.2.1, q.2.2.1, fun b hb1 hb2 => ?_⟩)⟩
      by_cases e : b = i
      · rw [e]; exact hn
      · exact q.2.2.2 b (by omega) hb2
    rw [wyf_spreadFrom_L5, if_neg c, i1, if_pos g1, if_pos g2]
    simp only [k1, r1', eq_true g3, k2, k3, la, ↓reduceIte]
    by_cases q : R a i = 0
    · rw [q, if_pos (by decide)]
      exact skip (fun e => by omega)
    rw [if_neg (by rw [show (0 : Int32) = nI 0 from rfl, nz_le (by omega) (by omega)]; omega)]
    obtain ⟨c1, c2⟩ := K2 (R a i) (by omega) r2
    have c1' : μ 42 (R a i) = nI (C (R a i)) := by rw [hS.1 42 (by omega)]; exact c1
    have l1 : μ 41 1 = nI lim := by rw [hS.1 41 (by omega)]; exact K3
    have d1 : wyf_isIn (μ 41 0) (nI i) = if dr i = true then 1 else 0 := by rw [hS.1 41 (by omega)]; exact K5 i (by omega)
    rw [c1', nz_add, l1, d1]
    by_cases q2 : L a + C (R a i) ≤ lim
    rotate_left
    · rw [if_pos (by rw [nz_lt (by omega) (by omega)]; omega)]
      exact skip (fun _ e => absurd e q2)
    rw [if_neg (by rw [nz_lt (by omega) (by omega)]; omega)]
    have val : (if nI x = 0 then wyf_spreadFrom_B78 N (wyf_spreadFrom_L5 N (nI a) (nI x) f) (nI a) (nI x) (nI x3) (nI i) (nI (L a + C (R a i))) μ else if (if dr i = true then (1 : Int32) else 0) = 0 then wyf_spreadFrom_B78 N (wyf_spreadFrom_L5 N (nI a) (nI x) f) (nI a) (nI x) (nI x3) (nI i) (nI (L a + C (R a i))) μ else wyf_spreadFrom_B78 N (wyf_spreadFrom_L5 N (nI a) (nI x) f) (nI a) (nI x) (nI x3) (nI i) 0 μ) = wyf_spreadFrom_B78 N (wyf_spreadFrom_L5 N (nI a) (nI x) f) (nI a) (nI x) (nI x3) (nI i) (nI (spV C dr x (L a) i (R a i))) μ := by
      unfold spV
      rcases (by omega : x = 0 ∨ x = 1) with q3 | q3
      · rw [if_pos (show nI x = 0 by rw [q3]; rfl), if_neg (fun e => by have := e.1; omega)]
      · rw [if_neg (show ¬ nI x = 0 by rw [q3]; decide)]
        by_cases q4 : dr i = true
        · rw [if_pos q4, if_neg (show ¬ (1 : Int32) = 0 by decide), if_pos ⟨q3, q4⟩]; rfl
        · rw [if_neg q4, if_pos rfl, if_neg (fun e => q4 e.2)]
    rw [val]
    have vb : spV C dr x (L a) i (R a i) ≤ L a + C (R a i) := by
      unfold spV
      split
      · omega
      · exact Nat.le_refl _
    unfold wyf_spreadFrom_B78
    simp only [eq_true g4, k4, li', ↓reduceIte]
    by_cases q5 : L i ≤ spV C dr x (L a) i (R a i)
    · rw [if_pos ((nz_le (by omega) (by omega)).mpr q5)]
      exact skip (fun _ _ => q5)
    · rw [if_neg (fun e => q5 ((nz_le (by omega) (by omega)).mp e))]
      have lt : spV C dr x (L a) i (R a i) < L i := by omega
      have I2 := hI L a i hL ha (by omega) hLa (by omega) q2 lt
      have S2 := hS.w (b := i) (v := spV C dr x (L a) i (R a i)) (by omega) (by omega)
      have le2 : ∀ w, gup L i (spV C dr x (L a) i (R a i)) w ≤ L w := by
        intro w
        unfold gup
        split
        · rename_i e; rw [e]; omega
        · exact Nat.le_refl _
      have vB : spV C dr x (L a) i (R a i) ≤ B := by
        have := hB _ I2 i (by omega) (by rw [gup_s]; omega)
        rwa [gup_s] at this
      have ph := gPhi_lt (B := B) (L := L) (b := i) (by omega) lt vB
      obtain ⟨y, L', μ', h1, h2, h3, h4, h5, h6⟩ := ih (i + 1) f 1 _ _ (by omega) (by omega) S2 I2 (Nat.lt_of_le_of_lt (le2 a) hLa) (by omega)
      refine ⟨y, L', μ', by rw [nz_s]; exact h1, h2, h3, fun w => Nat.le_trans (h4 w) (le2 w), by omega, ?_⟩
      rcases h6 with ⟨y1, _⟩ | ⟨_, z, _⟩
      · exact Or.inl ⟨y1, Or.inr (by omega)⟩
      · omega
theorem sround_ok {N : Nat} (hN : 10 < N) {R : Nat → Nat → Nat} {C : Nat → Nat} {lim : Nat} {dr : Nat → Bool} {x B : Nat} {I : (Nat → Nat) → Prop} {μ0 : jj_M} (hx : x ≤ 1) (hK : spK R C lim dr μ0) (hI : spI R C lim dr x I) (hB : ∀ L, I L → ∀ w, w < 8 → L w < 1000000 → L w ≤ B) (K4 : Int32 → Int32 → jj_M → Option jj_M) (x3 : Int32) :
    ∀ (k i f x2 : Nat) (L : Nat → Nat) (μ : jj_M), i + k = 8 → k < f → spS μ0 L μ → I L → x2 ≤ 1 → ∃ y L' μ', wyf_spread_L20 N K4 (nI x) x3 f (nI x2) (nI i) μ = K4 (nI y) (x3 + 1) μ' ∧ spS μ0 L' μ' ∧ I L' ∧ (∀ w, L' w ≤ L w) ∧ gPhi B L' ≤ gPhi B L ∧ ((y = 1 ∧ (x2 = 1 ∨ gPhi B L' < gPhi B L)) ∨ (y = 0 ∧ x2 = 0 ∧ L' = L ∧ ∀ a, i ≤ a → a < 8 → L a < 1000000 → ∀ b, b < 8 → spN R C lim dr x L a b)) := by
  intro k
  induction k with
  | zero =>
    intro i f x2 L μ hi hf hS hL hx2
    obtain ⟨f, rfl⟩ : ∃ m, f = m + 1 := ⟨f - 1, by omega⟩
    have e : i = 8 := by omega
    subst e
    refine ⟨x2, L, μ, by rw [wyf_spread_L20, if_pos (by decide)], hS, hL, fun _ => Nat.le_refl _, Nat.le_refl _, ?_⟩
    rcases (by omega : x2 = 0 ∨ x2 = 1) with q | q
    · right; exact ⟨q, q, rfl, fun b h1 h2 => by omega⟩
    · left; exact ⟨q, Or.inl q⟩
  | succ k ih =>
    intro i f x2 L μ hi hf hS hL hx2
    obtain ⟨f, rfl⟩ : ∃ m, f = m + 1 := ⟨f - 1, by omega⟩
    have c : ¬ (8 : Int32) ≤ nI i := by rw [show (8 : Int32) = nI 8 from rfl, nz_le (by omega) (by omega)]; omega
    have g4 : jj_i (nI i) 8 := nz_in (by omega) (by omega)
    have k4 : (nI i).toNatClampNeg = i := nz_clamp (by omega)
    obtain ⟨li', li2⟩ := hS.2 i (by omega)
    rw [wyf_spread_L20, if_neg c, if_pos g4]
    simp only [k4, li', nz_s]
    by_cases q : L i < 1000000
    rotate_left
    · rw [if_pos (by rw [show (1000000 : Int32) = nI 1000000 from rfl, nz_le (by omega) (by omega)]; omega)]
      obtain ⟨y, L', μ', h1, h2, h3, h4, h5, h6⟩ := ih (i + 1) f x2 L μ (by omega) (by omega) hS hL hx2
      refine ⟨y, L', μ', h1, h2, h3, h4, h5, h6.imp id (fun z => ⟨z.1, z.2.1, z.2.2.1, fun a ha1 ha2 hl b hb => ?_⟩)⟩
      by_cases e : a = i
      · subst e; omega
      · exact z.2.2.2 a (by omega) ha2 hl b hb
    rw [if_neg (by rw [show (1000000 : Int32) = nI 1000000 from rfl, nz_le (by omega) (by omega)]; omega)]
    obtain ⟨y, L1, μ1, h1, h2, h3, h4, h5, h6⟩ := sfrom_ok (N := N) hx hK hI hB (a := i) (by omega) 8 0 N 0 L μ (by omega) (by omega) hS hL q (by omega)
    have h1 : wyf_spreadFrom N (nI i) (nI x) μ = some (nI y, μ1) := h1
    rw [h1, Option.bind_some]
    simp only []
    rcases h6 with ⟨y1, y2⟩ | ⟨y1, _, y3, y4⟩
    · rw [if_neg (show ¬ nI y = 0 by rw [y1]; decide)]
      obtain ⟨z, L', μ', k1, k2, k3, k4, k5, k6⟩ := ih (i + 1) f 1 L1 μ1 (by omega) (by omega) h2 h3 (by omega)
      refine ⟨z, L', μ', k1, k2, k3, fun w => Nat.le_trans (k4 w) (h4 w), by omega, ?_⟩
      rcases k6 with ⟨z1, _⟩ | ⟨_, z2, _⟩
      · exact Or.inl ⟨z1, Or.inr (by omega)⟩
      · omega
    · rw [if_pos (show nI y = 0 by rw [y1]; rfl)]
      subst y3
      obtain ⟨z, L', μ', k1, k2, k3, k4, k5, k6⟩ := ih (i + 1) f x2 L1 μ1 (by omega) (by omega) h2 h3 hx2
      refine ⟨z, L', μ', k1, k2, k3, k4, k5, k6.imp id (fun u => ⟨u.1, u.2.1, u.2.2.1, fun a ha1 ha2 hl b hb => ?_⟩)⟩
      by_cases e : a = i
      · rw [e]; exact y4 b (by omega) hb
      · exact u.2.2.2 a (by omega) ha2 hl b hb
/-- the class's spreading ends, closed -/
theorem spread_ok {N : Nat} (hN : 2000 < N) {R : Nat → Nat → Nat} {C : Nat → Nat} {lim : Nat} {dr : Nat → Bool} {x B : Nat} {I : (Nat → Nat) → Prop} {μ0 : jj_M} (hx : x ≤ 1) (hK : spK R C lim dr μ0) (hI : spI R C lim dr x I) (hB : ∀ L, I L → ∀ w, w < 8 → L w < 1000000 → L w ≤ B) {L : Nat → Nat} {μ : jj_M} (hS : spS μ0 L μ) (hL : I L) (hP : gPhi B L < 1000) :
    ∃ L' μ', wyf_spread N (nI x) μ = some μ' ∧ spS μ0 L' μ' ∧ I L' ∧ (∀ w, L' w ≤ L w) ∧ ∀ a b, a < 8 → b < 8 → L' a < 1000000 → spN R C lim dr x L' a b := by
  have key : ∀ (P i f : Nat) (L : Nat → Nat) (μ : jj_M), gPhi B L ≤ P → P + i < 1000 → P + 2 < f → spS μ0 L μ → I L → ∃ L' μ', wyf_spread_L4 N (nI x) f 1 (nI i) μ = some μ' ∧ spS μ0 L' μ' ∧ I L' ∧ (∀ w, L' w ≤ L w) ∧ ∀ a b, a < 8 → b < 8 → L' a < 1000000 → spN R C lim dr x L' a b := by
    intro P
    induction P with
    | zero =>
      intro i f L μ hP hi hf hS hL
      obtain ⟨f, rfl⟩ : ∃ m, f = m + 2 := ⟨f - 2, by omega⟩
      have c : ¬ (1000 : Int32) ≤ nI i := by rw [show (1000 : Int32) = nI 1000 from rfl, nz_le (by omega) (by omega)]; omega
      obtain ⟨y, L1, μ1, h1, h2, h3, h4, h5, h6⟩ := sround_ok (N := N) (by omega) hx hK hI hB (wyf_spread_L4 N (nI x) (f + 1)) (nI i) 8 0 N 0 L μ (by omega) (by omega) hS hL (by omega)
      have h1 : wyf_spread_L20 N (wyf_spread_L4 N (nI x) (f + 1)) (nI x) (nI i) N 0 0 μ = wyf_spread_L4 N (nI x) (f + 1) (nI y) (nI i + 1) μ1 := h1
      rcases h6 with ⟨y1, y2⟩ | ⟨y1, _, y3, y4⟩
      · omega
      · subst y3
        refine ⟨L1, μ1, ?_, h2, h3, h4, fun a b ha hb hl => y4 a (by omega) ha hl b hb⟩
        rw [wyf_spread_L4, if_neg c, if_neg (by decide), h1, wyf_spread_L4]
        by_cases z : (1000 : Int32) ≤ nI i + 1
        · rw [if_pos z]
        · rw [if_neg z, if_pos (show nI y = 0 by rw [y1]; rfl)]
    | succ P ih =>
      intro i f L μ hP hi hf hS hL
      obtain ⟨f, rfl⟩ : ∃ m, f = m + 2 := ⟨f - 2, by omega⟩
      have c : ¬ (1000 : Int32) ≤ nI i := by rw [show (1000 : Int32) = nI 1000 from rfl, nz_le (by omega) (by omega)]; omega
      obtain ⟨y, L1, μ1, h1, h2, h3, h4, h5, h6⟩ := sround_ok (N := N) (by omega) hx hK hI hB (wyf_spread_L4 N (nI x) (f + 1)) (nI i) 8 0 N 0 L μ (by omega) (by omega) hS hL (by omega)
      have h1 : wyf_spread_L20 N (wyf_spread_L4 N (nI x) (f + 1)) (nI x) (nI i) N 0 0 μ = wyf_spread_L4 N (nI x) (f + 1) (nI y) (nI i + 1) μ1 := h1
      rcases h6 with ⟨y1, y2⟩ | ⟨y1, _, y3, y4⟩
      · obtain ⟨L', μ', k1, k2, k3, k4, k5⟩ := ih (i + 1) (f + 1) L1 μ1 (by omega) (by omega) (by omega) h2 h3
        refine ⟨L', μ', ?_, k2, k3, fun w => Nat.le_trans (k4 w) (h4 w), k5⟩
        rw [wyf_spread_L4, if_neg c, if_neg (by decide), h1, nz_s, y1]
        exact k1
      · subst y3
        refine ⟨L1, μ1, ?_, h2, h3, h4, fun a b ha hb hl => y4 a (by omega) ha hl b hb⟩
        rw [wyf_spread_L4, if_neg c, if_neg (by decide), h1, wyf_spread_L4]
        by_cases z : (1000 : Int32) ≤ nI i + 1
        · rw [if_pos z]
        · rw [if_neg z, if_pos (show nI y = 0 by rw [y1]; rfl)]
  exact key 999 0 N L μ (by omega) (by omega) (by omega) hS hL
