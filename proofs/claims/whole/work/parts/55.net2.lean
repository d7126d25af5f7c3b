/-! net, both sides -/
theorem bk1 : ∀ M, M < 256 → ∀ v, v < 8 → nI M ||| ((1 : Int32) <<< (nI v &&& 31)) = nI (M ||| 2 ^ v) ∧ (M ||| 2 ^ v) < 256 := by decide +kernel
theorem bk2 : ∀ M, M < 256 → ∀ w, w < 8 → (nI M >>> (nI w &&& 31)) &&& 1 = if M.testBit w = true then 1 else 0 := by decide +kernel
def mkL (x : Int32) (l : List Nat) : Prop := ∃ M, M < 256 ∧ x = nI M ∧ ∀ w, w < 8 → (M.testBit w = true ↔ w ∈ l)
theorem mkL.bit {x : Int32} {l : List Nat} (h : mkL x l) {w : Nat} (hw : w < 8) : (x >>> (nI w &&& 31)) &&& 1 = if w ∈ l then 1 else 0 := by
  obtain ⟨M, hM, rfl, hb⟩ := h
  rw [bk2 M hM w hw]
  by_cases q : w ∈ l
  · rw [if_pos q, if_pos ((hb w hw).mpr q)]
  · rw [if_neg q, if_neg (fun e => q ((hb w hw).mp e))]
theorem mkL.isIn {x : Int32} {l : List Nat} (h : mkL x l) {w : Nat} (hw : w < 8) : wyf_isIn x (nI w) = if w ∈ l then 1 else 0 := by
  unfold wyf_isIn
  rw [h.bit hw]
  by_cases q : w ∈ l
  · rw [if_pos q, if_pos rfl]
  · rw [if_neg q, if_neg (by decide)]
theorem mkL.add {x : Int32} {l : List Nat} (h : mkL x l) {v : Nat} (hv : v < 8) : mkL (x ||| ((1 : Int32) <<< (nI v &&& 31))) (v :: l) := by
  obtain ⟨M, hM, rfl, hb⟩ := h
  obtain ⟨b1, b2⟩ := bk1 M hM v hv
  refine ⟨M ||| 2 ^ v, b2, b1, fun w hw => ?_⟩
  rw [Nat.testBit_or, Nat.testBit_two_pow, Bool.or_eq_true, decide_eq_true_iff, List.mem_cons]
  rw [hb w hw]
  constructor
  · rintro (e | e)
    · exact Or.inr e
    · exact Or.inl e.symm
  · rintro (e | e)
    · exact Or.inr e.symm
    · exact Or.inl e
theorem mkL0 : mkL 0 [] := ⟨0, by omega, rfl, fun w _ => by rw [Nat.zero_testBit]; exact ⟨fun e => (by cases e), fun e => (by cases e)⟩⟩
def nC (μ0 : jj_M) (L : Nat → Nat) (μ : jj_M) : Prop := (∀ k, k ≠ 43 → μ k = μ0 k) ∧ ∀ v, v < 8 → μ 43 v = nI (L v) ∧ L v ≤ 1000000
theorem near_ok (N : Nat) {x : Int32} {l : List Nat} (hx : mkL x l) {μ : jj_M} {L : Nat → Nat} (hL : ∀ v, v < 8 → μ 43 v = nI (L v) ∧ L v ≤ 1000000) : ∀ (k i f : Nat) (o : Int32), i + k = 8 → k < f → ((o = -1 ∧ ∀ w, w < i → ¬ w ∈ l → 1000000 ≤ L w) ∨ ∃ v, v < i ∧ o = nI v ∧ ¬ v ∈ l ∧ L v < 1000000 ∧ ∀ w, w < i → ¬ w ∈ l → L v ≤ L w) → ∃ r, wyf_nearestOutside_L4 N x μ f o (nI i) = some r ∧ ((r = -1 ∧ ∀ w, w < 8 → ¬ w ∈ l → 1000000 ≤ L w) ∨ ∃ v, v < 8 ∧ r = nI v ∧ ¬ v ∈ l ∧ L v < 1000000 ∧ ∀ w, w < 8 → ¬ w ∈ l → L v ≤ L w) := by
  intro k
  induction k with
  | zero =>
    intro i f o hi hf ho
    obtain ⟨f, rfl⟩ : ∃ m, f = m + 1 := ⟨f - 1, by omega⟩
    have e : i = 8 := by omega
    subst e
    exact ⟨o, by rw [wyf_nearestOutside_L4, if_pos (by decide)], ho⟩
  | succ k ih =>
    intro i f o hi hf ho
    obtain ⟨f, rfl⟩ : ∃ m, f = m + 1 := ⟨f - 1, by omega⟩
    have c : ¬ (8 : Int32) ≤ nI i := by rw [show (8 : Int32) = nI 8 from rfl, nz_le (by omega) (by omega)]; omega
    have g : jj_i (nI i) 8 := nz_in (by omega) (by omega)
    have ki : (nI i).toNatClampNeg = i := nz_clamp (by omega)
    obtain ⟨e1, e2⟩ := hL i (by omega)
    rw [wyf_nearestOutside_L4, if_neg c, hx.isIn (show i < 8 by omega)]
    simp only [eq_true g, ki, e1, nz_s, ↓reduceIte]
    by_cases q : i ∈ l
    · rw [if_pos q, if_neg (show ¬ (1 : Int32) = 0 by decide)]
      refine ih (i + 1) f o (by omega) (by omega) ?_
      rcases ho with ⟨o1, o2⟩ | ⟨v, v1, v2, v3, v4, v5⟩
      · exact Or.inl ⟨o1, fun w hw hn => o2 w (by
          have : w ≠ i := fun e => hn (by rw [e]; exact q)
          omega) hn⟩
      · exact Or.inr ⟨v, by omega, v2, v3, v4, fun w hw hn => v5 w (by
          have : w ≠ i := fun e => hn (by rw [e]; exact q)
          omega) hn⟩
    rw [if_neg q, if_pos rfl]
    by_cases q2 : L i < 1000000
    rotate_left
    · rw [if_pos (by rw [show (1000000 : Int32) = nI 1000000 from rfl, nz_le (by omega) (by omega)]; omega)]
      refine ih (i + 1) f o (by omega) (by omega) ?_
      rcases ho with ⟨o1, o2⟩ | ⟨v, v1, v2, v3, v4, v5⟩
      · refine Or.inl ⟨o1, fun w hw hn => ?_⟩
        by_cases e : w = i
        · rw [e]; omega
        · exact o2 w (by omega) hn
      · refine Or.inr ⟨v, by omega, v2, v3, v4, fun w hw hn => ?_⟩
        by_cases e : w = i
        · rw [e]; omega
        · exact v5 w (by omega) hn
    rw [if_neg (by rw [show (1000000 : Int32) = nI 1000000 from rfl, nz_le (by omega) (by omega)]; omega)]
    rcases ho with ⟨o1, o2⟩ | ⟨v, v1, v2, v3, v4, v5⟩
    · rw [if_pos (show o < 0 by rw [o1]; decide)]
      refine ih (i + 1) f (nI i) (by omega) (by omega) (Or.inr ⟨i, by omega, rfl, q, q2, fun w hw hn => ?_⟩)
      by_cases e : w = i
      · rw [e]; exact Nat.le_refl _
      · have := o2 w (by omega) hn
        omega
    · have g2 : jj_i (nI v) 8 := nz_in (by omega) (by omega)
      have kv : (nI v).toNatClampNeg = v := nz_clamp (by omega)
      obtain ⟨f1, f2⟩ := hL v (by omega)
      subst v2
      rw [if_neg (by rw [show (0 : Int32) = nI 0 from rfl, nz_lt (by omega) (by omega)]; omega), if_pos g2]
      simp only [kv, f1]
      by_cases q3 : L v ≤ L i
      · rw [if_pos ((nz_le (by omega) (by omega)).mpr q3)]
        refine ih (i + 1) f (nI v) (by omega) (by omega) (Or.inr ⟨v, by omega, rfl, v3, v4, fun w hw hn => ?_⟩)
        by_cases e : w = i
        · rw [e]; exact q3
        · exact v5 w (by omega) hn
      · rw [if_neg (fun e => q3 ((nz_le (by omega) (by omega)).mp e))]
        refine ih (i + 1) f (nI i) (by omega) (by omega) (Or.inr ⟨i, by omega, rfl, q, q2, fun w hw hn => ?_⟩)
        by_cases e : w = i
        · rw [e]; exact Nat.le_refl _
        · have := v5 w (by omega) hn
          omega
theorem min_nI {a b : Nat} (ha : a < 2147483648) (hb : b < 2147483648) : jdf_min (nI a) (nI b) = nI (min a b) := by
  unfold jdf_min
  by_cases q : b < a
  · rw [if_pos ((nz_lt hb ha).mpr q)]; congr 1; omega
  · rw [if_neg (fun e => q ((nz_lt hb ha).mp e))]; congr 1; omega
theorem row_ok (N : Nat) {R : Nat → Nat → Nat} {μ0 : jj_M} (hR : ∀ a b, a < 8 → b < 8 → μ0 72 (8 * a + b) = nI (R a b) ∧ R a b ≤ 20) {v : Nat} (hv : v < 8) (K : Int32 → Int32 → Int32 → jj_M → Option (Int32 × jj_M)) (x1 x2 x3 : Int32) : ∀ (k i f : Nat) (L : Nat → Nat) (μ : jj_M), i + k = 8 → k < f → nC μ0 L μ → ∃ L' μ', wyf_leastNet_L69 N K x1 x2 x3 (nI v) f (nI i) μ = K x1 x2 (x3 + 1) μ' ∧ nC μ0 L' μ' ∧ ∀ w, L' w = if i ≤ w ∧ w < 8 ∧ 0 < R v w then min (L w) (R v w) else L w := by
  intro k
  induction k with
  | zero =>
    intro i f L μ hi hf hS
    obtain ⟨f, rfl⟩ : ∃ m, f = m + 1 := ⟨f - 1, by omega⟩
    have e : i = 8 := by omega
    subst e
    exact ⟨L, μ, by rw [wyf_leastNet_L69, if_pos (by decide)], hS, fun w => by rw [if_neg (by omega)]⟩
  | succ k ih =>
    intro i f L μ hi hf hS
    obtain ⟨f, rfl⟩ : ∃ m, f = m + 1 := ⟨f - 1, by omega⟩
    have c : ¬ (8 : Int32) ≤ nI i := by rw [show (8 : Int32) = nI 8 from rfl, nz_le (by omega) (by omega)]; omega
    have i1 : nI v * 8 + nI i = nI (8 * v + i) := (owe_i v i).1
    obtain ⟨r1, r2⟩ := hR v i hv (by omega)
    have r1' : μ 72 (8 * v + i) = nI (R v i) := by rw [hS.1 72 (by decide)]; exact r1
    have g1 : jj_i (nI (8 * v + i)) 64 := nz_in (by omega) (by omega)
    have k1 : (nI (8 * v + i)).toNatClampNeg = 8 * v + i := nz_clamp (by omega)
    have g2 : jj_i (nI i) 8 := nz_in (by omega) (by omega)
    have k2 : (nI i).toNatClampNeg = i := nz_clamp (by omega)
    obtain ⟨l1, l2⟩ := hS.2 i (by omega)
    rw [wyf_leastNet_L69, if_neg c, i1, if_pos g1]
    simp only [k1, r1', eq_true g2, k2, l1, min_nI (show L i < 2147483648 by omega) (show R v i < 2147483648 by omega), nz_s, ↓reduceIte, Option.bind_some]
    by_cases q : R v i = 0
    · rw [q, if_pos (by decide)]
      obtain ⟨L', μ', a1, a2, a3⟩ := ih (i + 1) f L μ (by omega) (by omega) hS
      refine ⟨L', μ', a1, a2, fun w => ?_⟩
      rw [a3 w]
      by_cases e : w = i
      · rw [e, if_neg (by omega), if_neg (by omega)]
      · by_cases z : i + 1 ≤ w ∧ w < 8 ∧ 0 < R v w
        · rw [if_pos z, if_pos (by omega)]
        · rw [if_neg z, if_neg (by omega)]
    · rw [if_neg (by rw [show (0 : Int32) = nI 0 from rfl, nz_le (by omega) (by omega)]; omega)]
      have S2 : nC μ0 (gup L i (min (L i) (R v i))) (jj_u μ 43 i (nI (min (L i) (R v i)))) := by
        refine ⟨fun k hk => by rw [ju_ne hk]; exact hS.1 k hk, fun w hw => ?_⟩
        by_cases e : w = i
        · rw [e, ju_self, gup_s]; exact ⟨rfl, by omega⟩
        · rw [ju_other e, gup_n e]; exact hS.2 w hw
      obtain ⟨L', μ', a1, a2, a3⟩ := ih (i + 1) f _ _ (by omega) (by omega) S2
      refine ⟨L', μ', a1, a2, fun w => ?_⟩
      rw [a3 w]
      by_cases e : w = i
      · subst e
        rw [if_neg (by omega), gup_s, if_pos (by omega)]
      · rw [gup_n e]
        by_cases z : i + 1 ≤ w ∧ w < 8 ∧ 0 < R v w
        · rw [if_pos z, if_pos (by omega)]
        · rw [if_neg z, if_neg (by omega)]
def nR (R : Nat → Nat → Nat) (l : List Nat) (L : Nat → Nat) : Prop := ∀ v, v < 8 → ¬ v ∈ l → (∀ u, u ∈ l → 0 < R u v → L v ≤ R u v) ∧ (L v < 1000000 → ∃ u, u ∈ l ∧ R u v = L v ∧ 0 < L v)
theorem nR.add {R : Nat → Nat → Nat} {l : List Nat} {L L' : Nat → Nat} (h : nR R l L) {v : Nat} (e : ∀ w, L' w = if 0 ≤ w ∧ w < 8 ∧ 0 < R v w then min (L w) (R v w) else L w) : nR R (v :: l) L' := by
  intro y hy hn
  have ny : ¬ y ∈ l := fun z => hn (List.mem_cons_of_mem _ z)
  obtain ⟨h1, h2⟩ := h y hy ny
  refine ⟨fun u hu hr => ?_, fun hl => ?_⟩
  · rw [e y]
    rcases List.mem_cons.mp hu with q | q
    · rw [q] at hr ⊢
      rw [if_pos (by omega)]
      omega
    · have := h1 u q hr
      split <;> omega
  · rw [e y] at hl ⊢
    by_cases z : 0 ≤ y ∧ y < 8 ∧ 0 < R v y
    · rw [if_pos z] at hl ⊢
      by_cases q : L y ≤ R v y
      · obtain ⟨u, u1, u2, u3⟩ := h2 (by omega)
        exact ⟨u, List.mem_cons_of_mem _ u1, by omega, by omega⟩
      · exact ⟨v, List.mem_cons_self, by omega, by omega⟩
    · rw [if_neg z] at hl ⊢
      obtain ⟨u, u1, u2, u3⟩ := h2 hl
      exact ⟨u, List.mem_cons_of_mem _ u1, u2, u3⟩
theorem prim.add {R : Nat → Nat → Nat} {l : List Nat} {s v w : Nat} (h : prim R l s) (hv : v < 8) (hn : ¬ v ∈ l) (hx : ∃ x, x ∈ l ∧ R x v = w) (hw : 0 < w) (hm : ∀ x, x ∈ l → ∀ y, y < 8 → ¬ y ∈ l → 0 < R x y → w ≤ R x y) : prim R (v :: l) (s + w) := by
  cases l with
  | nil => exact absurd h id
  | cons u l => exact ⟨s, w, h, rfl, hv, hn, hx, hw, hm⟩
def nStuck (R : Nat → Nat → Nat) : Prop := ∃ l s, prim R l s ∧ l.length < 8 ∧ ∀ x, x ∈ l → ∀ y, y < 8 → ¬ y ∈ l → ¬ 0 < R x y
def nDone (R : Nat → Nat → Nat) (s : Nat) : Prop := ∃ l, prim R l s ∧ l.length = 8
theorem net_c {N : Nat} (hN : 10 < N) {R : Nat → Nat → Nat} {μ0 : jj_M} (hR : ∀ a b, a < 8 → b < 8 → μ0 72 (8 * a + b) = nI (R a b) ∧ R a b ≤ 20) : ∀ (k i f s : Nat) (l : List Nat) (x : Int32) (L : Nat → Nat) (μ : jj_M), i + k = 8 → k < f → l.length = i → prim R l s → mkL x l → nC μ0 L μ → nR R l L → ∃ r m, wyf_leastNet_L28 N f x (nI s) (nI i) μ = some (r, m) ∧ (∀ k, k ≠ 43 → m k = μ0 k) ∧ ((r = -1 ∧ nStuck R) ∨ ∃ t, r = nI t ∧ t ≤ 1000 ∧ nDone R t) := by
  intro k
  induction k with
  | zero =>
    intro i f s l x L μ hi hf hl hp hx hS hL
    obtain ⟨f, rfl⟩ : ∃ m, f = m + 1 := ⟨f - 1, by omega⟩
    have e : i = 8 := by omega
    subst e
    have b := (prim_b (fun a b ha hb => (hR a b ha hb).2) l s hp).2.2.2
    exact ⟨nI s, μ, by rw [wyf_leastNet_L28, if_pos (by decide)], hS.1, Or.inr ⟨s, rfl, by omega, l, hp, hl⟩⟩
  | succ k ih =>
    intro i f s l x L μ hi hf hl hp hx hS hL
    obtain ⟨f, rfl⟩ : ∃ m, f = m + 1 := ⟨f - 1, by omega⟩
    have c : ¬ (8 : Int32) ≤ nI i := by rw [show (8 : Int32) = nI 8 from rfl, nz_le (by omega) (by omega)]; omega
    obtain ⟨r, r1, r2⟩ := near_ok N hx hS.2 8 0 N (-1) (by omega) (by omega) (Or.inl ⟨rfl, fun w hw => by omega⟩)
    have r1 : wyf_nearestOutside N x μ = some r := r1
    rw [wyf_leastNet_L28, if_neg c, r1, Option.bind_some]
    rcases r2 with ⟨e1, e2⟩ | ⟨v, v1, v2, v3, v4, v5⟩
    · rw [e1, if_neg (by decide)]
      refine ⟨-1, μ, rfl, hS.1, Or.inl ⟨rfl, l, s, hp, by omega, fun a ha y hy hn hr => ?_⟩⟩
      have := (hL y hy hn).1 a ha hr
      have := e2 y hy hn
      have := (hR a y ((prim_b (fun a b ha hb => (hR a b ha hb).2) l s hp).1 a ha) hy).2
      omega
    · obtain ⟨f1, f2⟩ := hS.2 v v1
      have kv : (nI v).toNatClampNeg = v := nz_clamp (by omega)
      rw [v2, if_pos (nI_nn (by omega)), if_pos (nz_in v1 (by omega))]
      simp only [kv, f1, nz_add]
      obtain ⟨L', μ', a1, a2, a3⟩ := row_ok N hR v1 (wyf_leastNet_L28 N f) (x ||| ((1 : Int32) <<< (nI v &&& 31))) (nI (s + L v)) (nI i) 8 0 N L μ (by omega) (by omega) hS
      have a1 : wyf_leastNet_L69 N (wyf_leastNet_L28 N f) (x ||| ((1 : Int32) <<< (nI v &&& 31))) (nI (s + L v)) (nI i) (nI v) N 0 μ = wyf_leastNet_L28 N f (x ||| ((1 : Int32) <<< (nI v &&& 31))) (nI (s + L v)) (nI i + 1) μ' := a1
      rw [a1, nz_s]
      obtain ⟨u, u1, u2, u3⟩ := (hL v v1 v3).2 v4
      exact ih (i + 1) f (s + L v) (v :: l) _ L' μ' (by omega) (by omega) (by rw [List.length_cons]; omega) (hp.add v1 v3 ⟨u, u1, u2⟩ u3 (fun a ha y hy hn hr => by
        have := (hL y hy hn).1 a ha hr
        have := v5 y hy hn
        omega)) (hx.add v1) a2 (hL.add a3)
theorem leastNet_ok {N : Nat} (hN : 20 < N) {R : Nat → Nat → Nat} {μ : jj_M} (hR : ∀ a b, a < 8 → b < 8 → μ 3 (8 * a + b) = nI (R a b) ∧ R a b ≤ 20) : ∃ r m, wyf_leastNet N μ = some (r, m) ∧ (∀ k, k ≠ 43 → k ≠ 72 → m k = μ k) ∧ ((r = -1 ∧ nStuck R) ∨ ∃ t, r = nI t ∧ t ≤ 1000 ∧ nDone R t) := by
  obtain ⟨Y, y1, y2, y3⟩ := look_ok μ
  have hR : ∀ a b, a < 8 → b < 8 → Y 72 (8 * a + b) = nI (R a b) ∧ R a b ≤ 20 := fun a b ha hb => by rw [y3 (8 * a + b) (by omega)]; exact hR a b ha hb
  obtain ⟨F, f1, f2, f3, _⟩ := fill_ok (N := N) (p := 43) (n0 := 8) (v := 1000000) (by omega) 8 0 N Y (by omega) (by omega)
  have f1 : jdf_fill N 43 8 1000000 Y = some F := f1
  obtain ⟨L, hL⟩ : ∃ L : Nat → Nat, L = fun w => if w = 0 then 0 else 1000000 := ⟨_, rfl⟩
  have S0 : nC Y L (jj_u F 43 0 0) := by
    refine ⟨fun k hk => by rw [ju_ne hk, f2 k hk], fun w hw => ?_⟩
    rw [hL]
    by_cases q : w = 0
    · rw [q, ju_self]; simp only [↓reduceIte]; exact ⟨rfl, by omega⟩
    · rw [ju_other q, f3 w (by omega) hw]; simp only [q, ↓reduceIte]; exact ⟨rfl, Nat.le_refl _⟩
  obtain ⟨f, rfl⟩ : ∃ m, N = m + 1 := ⟨N - 1, by omega⟩
  obtain ⟨r, r1, r2⟩ := near_ok (f + 1) mkL0 S0.2 8 0 (f + 1) (-1) (by omega) (by omega) (Or.inl ⟨rfl, fun w hw => by omega⟩)
  have r1 : wyf_nearestOutside (f + 1) 0 (jj_u F 43 0 0) = some r := r1
  have L0 : L 0 = 0 := by rw [hL]; simp only [↓reduceIte]
  rcases r2 with ⟨_, e2⟩ | ⟨v, v1, v2, v3, v4, v5⟩
  · have := e2 0 (by omega) (by simp)
    omega
  have v0 : v = 0 := by
    refine Decidable.byContradiction (fun q => ?_)
    rw [hL] at v4
    simp only [q, ↓reduceIte] at v4
    omega
  subst v0
  obtain ⟨L', μ', a1, a2, a3⟩ := row_ok (f + 1) hR (show 0 < 8 by omega) (wyf_leastNet_L28 (f + 1) f) ((0 : Int32) ||| ((1 : Int32) <<< (nI 0 &&& 31))) (nI 0) 0 8 0 (f + 1) L (jj_u F 43 0 0) (by omega) (by omega) S0
  have a1 : wyf_leastNet_L69 (f + 1) (wyf_leastNet_L28 (f + 1) f) ((0 : Int32) ||| ((1 : Int32) <<< (nI 0 &&& 31))) (nI 0) 0 (nI 0) (f + 1) 0 (jj_u F 43 0 0) = _ := a1
  have nR0 : nR R [0] L' := by
    intro y hy hn
    have y0 : ¬ y = 0 := fun e => hn (List.mem_singleton.mpr e)
    have Ly : L y = 1000000 := by rw [hL]; simp only [y0, ↓reduceIte]
    have r20 := (hR 0 y (by omega) hy).2
    have e := a3 y
    refine ⟨fun u hu hr => ?_, fun hl => ?_⟩
    · rw [List.mem_singleton.mp hu] at hr ⊢
      rw [e, if_pos (by omega)]
      omega
    · by_cases z : 0 ≤ y ∧ y < 8 ∧ 0 < R 0 y
      · rw [if_pos z] at e
        exact ⟨0, List.mem_singleton.mpr rfl, by omega, by omega⟩
      · rw [if_neg z] at e
        omega
  have mk1 : mkL ((0 : Int32) ||| ((1 : Int32) <<< (nI 0 &&& 31))) [0] := mkL0.add (by omega)
  obtain ⟨r', m, b1, b2, b3⟩ := net_c (N := f + 1) (by omega) hR 7 1 f 0 [0] _ L' μ' (by omega) (by omega) rfl ⟨rfl, rfl⟩ mk1 a2 nR0
  refine ⟨r', m, ?_, fun k h1 h2 => by rw [b2 k h1, y2 k h2], b3⟩
  unfold wyf_leastNet
  rw [y1, Option.bind_some, f1, Option.bind_some, wyf_leastNet_L28, if_neg (by decide), r1, Option.bind_some, v2, if_pos (by decide), if_pos (by decide)]
  have k0 : (nI 0).toNatClampNeg = 0 := by decide
  have z0 : (0 : Int32) + jj_u F 43 0 0 43 0 = nI 0 := by rw [ju_self]; rfl
  simp only [k0, z0]
  have z00 : nI 0 = (0 : Int32) := rfl
  have a1' : wyf_leastNet_L69 (f + 1) (wyf_leastNet_L28 (f + 1) f) ((0 : Int32) ||| ((1 : Int32) <<< (nI 0 &&& 31))) (nI 0) 0 (nI 0) (f + 1) 0 (jj_u F 43 0 0) = wyf_leastNet_L28 (f + 1) f ((0 : Int32) ||| ((1 : Int32) <<< (nI 0 &&& 31))) (nI 0) (nI 1) μ' := a1
  rw [a1']
  exact b1
/-- the best road out so far -/
def nBest (R : Nat → Nat → Nat) (l : List Nat) (j : Nat) (x4 x5 : Int32) : Prop := (x4 = -1 ∧ x5 = 1000000 ∧ ∀ i, i < j → (i / 8) ∈ l → ¬ (i % 8) ∈ l → ¬ 0 < R (i / 8) (i % 8)) ∨ ∃ v w, v < 8 ∧ x4 = nI v ∧ x5 = nI w ∧ w ≤ 20 ∧ ¬ v ∈ l ∧ (∃ u, u ∈ l ∧ R u v = w) ∧ 0 < w ∧ ∀ i, i < j → (i / 8) ∈ l → ¬ (i % 8) ∈ l → 0 < R (i / 8) (i % 8) → w ≤ R (i / 8) (i % 8)
theorem best_ok (N : Nat) {R : Nat → Nat → Nat} {μ : jj_M} (hR : ∀ a b, a < 8 → b < 8 → μ 61 (8 + (8 * a + b)) = nI (R a b) ∧ R a b ≤ 20) {l : List Nat} {x1 : Int32} (hx : mkL x1 l) (K : Int32 → Int32 → Int32 → Option (Int32 × jj_M)) (x2 x3 : Int32) : ∀ (k j f : Nat) (x4 x5 : Int32), j + k = 64 → k < f → nBest R l j x4 x5 → ∃ y4 y5, mdf_net_L22 N K x1 x2 x3 μ f x4 x5 (nI j) = (if 0 ≤ y4 then K (x1 ||| ((1 : Int32) <<< (y4 &&& 31))) (x2 + y5) (x3 + 1) else (mdf_errs (-1000000002) μ).bind fun q3 => some ((q3.1, q3.2))) ∧ nBest R l 64 y4 y5 := by
  intro k
  induction k with
  | zero =>
    intro j f x4 x5 hj hf hb
    obtain ⟨f, rfl⟩ : ∃ m, f = m + 1 := ⟨f - 1, by omega⟩
    have e : j = 64 := by omega
    subst e
    exact ⟨x4, x5, by rw [mdf_net_L22, if_pos (by decide)], hb⟩
  | succ k ih =>
    intro j f x4 x5 hj hf hb
    obtain ⟨f, rfl⟩ : ∃ m, f = m + 1 := ⟨f - 1, by omega⟩
    have c : ¬ (64 : Int32) ≤ nI j := by rw [show (64 : Int32) = nI 64 from rfl, nz_le (by omega) (by omega)]; omega
    obtain ⟨u, hu⟩ : ∃ u, u = j / 8 := ⟨_, rfl⟩
    obtain ⟨v, hv⟩ : ∃ v, v = j % 8 := ⟨_, rfl⟩
    have hu8 : u < 8 := by omega
    have hv8 : v < 8 := by omega
    have huv : j = 8 * u + v := by omega
    have e1 : nI j / 8 = nI u := by rw [show (8 : Int32) = nI 8 from rfl, nz_div (by omega) (by omega), hu]
    have e2 : nI j - nI u * 8 = nI v := by rw [← e1, show (8 : Int32) = nI 8 from rfl, nz_rem (by omega) (by omega), hv]
    have e3 : (8 : Int32) + nI j = nI (8 + j) := by rw [show (8 : Int32) = nI 8 from rfl, nz_add]
    have g3 : jj_i (nI (8 + j)) 351 := nz_in (by omega) (by omega)
    have k3 : (nI (8 + j)).toNatClampNeg = 8 + j := nz_clamp (by omega)
    obtain ⟨r1, r2⟩ := hR u v hu8 hv8
    have r1' : μ 61 (8 + j) = nI (R u v) := by rw [huv]; exact r1
    -- no road out here
    have stay : (u ∈ l → ¬ v ∈ l → 0 < R u v → ∃ w, x5 = nI w ∧ ¬ x4 = -1 ∧ w ≤ R u v ∧ w ≤ 20) → ∃ y4 y5, mdf_net_L22 N K x1 x2 x3 μ f x4 x5 (nI (j + 1)) = (if 0 ≤ y4 then K (x1 ||| ((1 : Int32) <<< (y4 &&& 31))) (x2 + y5) (x3 + 1) else (mdf_errs (-1000000002) μ).bind fun q3 => some ((q3.1, q3.2))) ∧ nBest R l 64 y4 y5 := by
      intro hn
      refine ih (j + 1) f x4 x5 (by omega) (by omega) ?_
      rcases hb with ⟨b1, b2, b3⟩ | ⟨v', w, c1, c2, c3, c4, c5, c6, c7, c8⟩
      · refine Or.inl ⟨b1, b2, fun i hi hl hnl hr => ?_⟩
        by_cases e : i = j
        · rw [e, ← hu, ← hv] at hr
          rw [e, ← hu] at hl
          rw [e, ← hv] at hnl
          obtain ⟨w, _, q, _⟩ := hn hl hnl hr
          exact q b1
        · exact b3 i (by omega) hl hnl hr
      · refine Or.inr ⟨v', w, c1, c2, c3, c4, c5, c6, c7, fun i hi hl hnl hr => ?_⟩
        by_cases e : i = j
        · rw [e, ← hu, ← hv] at hr ⊢
          rw [e, ← hu] at hl
          rw [e, ← hv] at hnl
          obtain ⟨w', q1, _, q2, q3⟩ := hn hl hnl hr
          rw [c3] at q1
          have := nz_inj (by omega) (by omega) q1
          omega
        · exact c8 i (by omega) hl hnl hr
    have B0 : mdf_net_B72 N K (mdf_net_L22 N K x1 x2 x3 μ f) x1 x2 x3 x4 x5 (nI j) 0 μ = mdf_net_L22 N K x1 x2 x3 μ f x4 x5 (nI (j + 1)) := by
      unfold mdf_net_B72
      rw [if_pos rfl, nz_s]
    rw [mdf_net_L22, if_neg c, e1, e2, hx.bit hu8, hx.bit hv8]
    by_cases q1 : u ∈ l
    rotate_left
    · rw [if_neg q1, if_neg (show ¬ (0 : Int32) = 1 by decide), B0]
      exact stay (fun e => absurd e q1)
    rw [if_pos q1, if_pos rfl]
    by_cases q2 : v ∈ l
    · rw [if_pos q2, if_neg (show ¬ (1 : Int32) = 0 by decide), B0]
      exact stay (fun _ e => absurd q2 e)
    rw [if_neg q2, if_pos rfl, e3, if_pos g3]
    simp only [k3, r1']
    by_cases q3 : R u v = 0
    · rw [q3, if_pos (by decide), B0]
      exact stay (fun _ _ e => by omega)
    rw [if_neg (by rw [show (0 : Int32) = nI 0 from rfl, nz_le (by omega) (by omega)]; omega)]
    unfold mdf_net_B72
    rw [if_neg (show ¬ (1 : Int32) = 0 by decide), e3, if_pos g3]
    simp only [k3, r1', eq_true g3, e1, e2, nz_s, ↓reduceIte]
    have take : (∀ i, i < j → (i / 8) ∈ l → ¬ (i % 8) ∈ l → 0 < R (i / 8) (i % 8) → R u v ≤ R (i / 8) (i % 8)) → ∃ y4 y5, mdf_net_L22 N K x1 x2 x3 μ f (nI v) (nI (R u v)) (nI (j + 1)) = (if 0 ≤ y4 then K (x1 ||| ((1 : Int32) <<< (y4 &&& 31))) (x2 + y5) (x3 + 1) else (mdf_errs (-1000000002) μ).bind fun q3 => some ((q3.1, q3.2))) ∧ nBest R l 64 y4 y5 := by
      intro hn
      refine ih (j + 1) f (nI v) (nI (R u v)) (by omega) (by omega) (Or.inr ⟨v, R u v, hv8, rfl, rfl, r2, q2, ⟨u, q1, rfl⟩, by omega, fun i hi hl hnl hr => ?_⟩)
      by_cases e : i = j
      · rw [e, ← hu, ← hv]; exact Nat.le_refl _
      · exact hn i (by omega) hl hnl hr
    rcases hb with ⟨b1, b2, b3⟩ | ⟨v', w, c1, c2, c3, c4, c5, c6, c7, c8⟩
    · rw [if_neg (by rw [b2, show (1000000 : Int32) = nI 1000000 from rfl, nz_le (by omega) (by omega)]; omega)]
      exact take (fun i hi hl hnl hr => absurd hr (b3 i hi hl hnl))
    · by_cases q4 : w ≤ R u v
      · rw [if_pos (by rw [c3, nz_le (by omega) (by omega)]; exact q4)]
        refine stay (fun _ _ _ => ⟨w, c3, ?_, q4, c4⟩)
        rw [c2]
        intro e
        have : (nI v').toInt = -1 := by rw [e]; decide
        rw [nz_toInt (by omega)] at this
        omega
      · rw [if_neg (by rw [c3, nz_le (by omega) (by omega)]; exact q4)]
        exact take (fun i hi hl hnl hr => by have := c8 i hi hl hnl hr; omega)
theorem net_m {N : Nat} (hN : 100 < N) {R : Nat → Nat → Nat} {μ : jj_M} (hR : ∀ a b, a < 8 → b < 8 → μ 61 (8 + (8 * a + b)) = nI (R a b) ∧ R a b ≤ 20) : ∀ (k i f s : Nat) (l : List Nat) (x : Int32), i + k = 8 → k < f → l.length = i → prim R l s → mkL x l → (mdf_net_L6 N μ f x (nI s) (nI i) = ((mdf_errs (-1000000002) μ).bind fun q3 => some ((q3.1, q3.2))) ∧ nStuck R) ∨ ∃ t, mdf_net_L6 N μ f x (nI s) (nI i) = some (nI t, μ) ∧ nDone R t := by
  intro k
  induction k with
  | zero =>
    intro i f s l x hi hf hl hp hx
    obtain ⟨f, rfl⟩ : ∃ m, f = m + 1 := ⟨f - 1, by omega⟩
    have e : i = 8 := by omega
    subst e
    exact Or.inr ⟨s, by rw [mdf_net_L6, if_pos (by decide)], l, hp, hl⟩
  | succ k ih =>
    intro i f s l x hi hf hl hp hx
    obtain ⟨f, rfl⟩ : ∃ m, f = m + 1 := ⟨f - 1, by omega⟩
    have c : ¬ (8 : Int32) ≤ nI i := by rw [show (8 : Int32) = nI 8 from rfl, nz_le (by omega) (by omega)]; omega
    obtain ⟨y4, y5, a1, a2⟩ := best_ok N hR hx (mdf_net_L6 N μ f) (nI s) (nI i) 64 0 N (-1) 1000000 (by omega) (by omega) (Or.inl ⟨rfl, rfl, fun i hi => by omega⟩)
    have a1 : mdf_net_L22 N (mdf_net_L6 N μ f) x (nI s) (nI i) μ N (-1) 1000000 0 = _ := a1
    rw [mdf_net_L6, if_neg c, a1]
    have lb := (prim_b (fun a b ha hb => (hR a b ha hb).2) l s hp).1
    rcases a2 with ⟨b1, b2, b3⟩ | ⟨v, w, c1, c2, c3, c4, c5, c6, c7, c8⟩
    · rw [b1, if_neg (by decide)]
      refine Or.inl ⟨rfl, l, s, hp, by omega, fun a ha y hy hn => ?_⟩
      have ha8 := lb a ha
      have := b3 (8 * a + y) (by omega)
      rw [show (8 * a + y) / 8 = a by omega, show (8 * a + y) % 8 = y by omega] at this
      exact this ha hn
    · rw [c2, c3, if_pos (nI_nn (by omega)), nz_add, nz_s]
      refine ih (i + 1) f (s + w) (v :: l) _ (by omega) (by omega) (by rw [List.length_cons]; omega) (hp.add c1 c5 c6 c7 (fun a ha y hy hn hr => ?_)) (hx.add c1)
      have ha8 := lb a ha
      have := c8 (8 * a + y) (by omega)
      rw [show (8 * a + y) / 8 = a by omega, show (8 * a + y) % 8 = y by omega] at this
      exact this ha hn hr
theorem st_net {μ : jj_M} (h : jI μ) : ∃ (r : Int32) (μ1 : jj_M) (μ2 : jj_M), wnf_net jz_N μ = some (r, μ1) ∧ mdf_net jz_N μ1 = some (r, μ2) ∧ jI μ2 := by
  have big := jz_ge
  obtain ⟨R, hRd⟩ : ∃ R, R = wRd (μ 61) := ⟨_, rfl⟩
  have h20 : ∀ a b, a < 8 → b < 8 → R a b ≤ 20 := fun a b ha hb => by rw [hRd]; exact (wRd_ok h ha hb).2.2
  have hsy : ∀ a b, a < 8 → b < 8 → R a b = R b a := fun a b ha hb => by
    rw [hRd]
    unfold wRd
    rw [h.S.2.1 a b ha hb]
  obtain ⟨r, m, a1, a2, a3⟩ := leastNet_ok (N := jz_N) (by omega) (R := R) (μ := μ) (fun a b ha hb => by rw [hRd]; exact ⟨(wRd_ok h ha hb).1, (wRd_ok h ha hb).2.2⟩)
  have th : jTh μ m := ⟨fun k hk _ => a2 k (fun e => hk (by unfold jFree; omega)) (fun e => hk (by unfold jFree; omega)), fun j _ => by rw [a2 60 (by decide) (by decide)]⟩
  have Im := th.I h
  have M : ∀ A : jj_M, A 61 = μ 61 → (mdf_net jz_N A = ((mdf_errs (-1000000002) A).bind fun q3 => some ((q3.1, q3.2))) ∧ nStuck R) ∨ ∃ t, mdf_net jz_N A = some (nI t, A) ∧ nDone R t := by
    intro A eA
    have mk1 : mkL 1 [0] := mkL0.add (v := 0) (by omega)
    have q := net_m (N := jz_N) (by omega) (R := R) (μ := A) (fun a b ha hb => by rw [hRd, eA]; exact (wRd_ok h ha hb).2) 7 1 jz_N 0 [0] 1 (by omega) (by omega) rfl ⟨rfl, rfl⟩ mk1
    unfold mdf_net
    exact q
  unfold wnf_net
  rcases a3 with ⟨e1, l, s, p1, p2, p3⟩ | ⟨t, e1, e2, l, p1, p2⟩
  · obtain ⟨m1, m2, a, b, c⟩ := err2 Im
    have m61 : m1 61 = μ 61 := by rw [err_61 (e := 2) (by omega) a 61 (by decide), a2 61 (by decide) (by decide)]
    refine ⟨-1000000002, m1, m2, ?_, ?_, c⟩
    · rw [a1, Option.bind_some]
      simp only []
      rw [e1, if_neg (by decide), a]; rfl
    · rcases M m1 m61 with ⟨q, _⟩ | ⟨t, q, l', p1', p2'⟩
      · rw [q, b]; rfl
      · exact absurd (prim_no h20 (prim_b h20 l s p1).2.2.1 p2 p3 p1' p2') id
  · have m61 : m 61 = μ 61 := a2 61 (by decide) (by decide)
    refine ⟨nI t, m, m, ?_, ?_, Im⟩
    · rw [a1, Option.bind_some]
      simp only []
      rw [e1, if_pos (nI_nn (by omega))]
    · rcases M m m61 with ⟨_, l', s', p1', p2', p3'⟩ | ⟨t', q, l', p1', p2'⟩
      · exact absurd (prim_no h20 (prim_b h20 l' s' p1').2.2.1 p2' p3' p1 p2) id
      · rw [q, prim_eq h20 hsy p1 p1' p2 p2']
