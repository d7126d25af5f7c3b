/-! ===== shortest ===== -/
def cntN : Nat → (Nat → Bool) → Nat
  | 0, _ => 0
  | n + 1, p => cntN n p + (if p n = true then 1 else 0)
theorem cntN_le {p q : Nat → Bool} : ∀ n, (∀ i, i < n → p i = true → q i = true) → cntN n p ≤ cntN n q := by
  intro n
  induction n with
  | zero => intro _; exact Nat.le_refl _
  | succ n ih =>
    intro h
    have a := ih (fun i hi => h i (by omega))
    rw [cntN, cntN]
    by_cases x : p n = true
    · rw [if_pos x, if_pos (h n (by omega) x)]; omega
    · rw [if_neg x]
      omega
theorem cntN_lt {p q : Nat → Bool} {u : Nat} : ∀ n, (∀ i, i < n → p i = true → q i = true) → u < n → q u = true → ¬ p u = true → cntN n p + 1 ≤ cntN n q := by
  intro n
  induction n with
  | zero => intro _ h; omega
  | succ n ih =>
    intro h hu h1 h2
    rw [cntN, cntN]
    by_cases e : u = n
    · subst e
      have a := cntN_le u (fun i hi => h i (by omega))
      rw [if_neg h2, if_pos h1]
      omega
    · have a := ih (fun i hi => h i (by omega)) (by omega) h1 h2
      by_cases x : p n = true
      · rw [if_pos x, if_pos (h n (by omega) x)]; omega
      · rw [if_neg x]; omega
theorem cntN_b (p : Nat → Bool) : ∀ n, cntN n p ≤ n := by
  intro n
  induction n with
  | zero => exact Nat.le_refl _
  | succ n ih =>
    rw [cntN]
    split <;> omega
theorem cntN_pos {p : Nat → Bool} {u : Nat} : ∀ n, u < n → p u = true → 1 ≤ cntN n p := by
  intro n
  induction n with
  | zero => intro h; omega
  | succ n ih =>
    intro h hp
    rw [cntN]
    by_cases e : u = n
    · subst e; rw [if_pos hp]; omega
    · have := ih (by omega) hp
      omega
/-- lengths of walks -/
def gW (R : Nat → Nat → Nat) (a w d : Nat) : Prop := ∀ P : Nat → Nat → Prop, P a 0 → (∀ u d v, P u d → v < 8 → 0 < R u v → P v (d + R u v)) → P w d
theorem gW.st {R : Nat → Nat → Nat} {a : Nat} : gW R a a 0 := fun _ h _ => h
theorem gW.go {R : Nat → Nat → Nat} {a u d v : Nat} (h : gW R a u d) (hv : v < 8) (hr : 0 < R u v) : gW R a v (d + R u v) := fun P h1 h2 => h2 u d v (h P h1 h2) hv hr
theorem gW.last {R : Nat → Nat → Nat} {a w d : Nat} (h : gW R a w d) : (w = a ∧ d = 0) ∨ ∃ u d', gW R a u d' ∧ 0 < R u w ∧ d = d' + R u w ∧ w < 8 := by
  have := h (fun w d => gW R a w d ∧ ((w = a ∧ d = 0) ∨ ∃ u d', gW R a u d' ∧ 0 < R u w ∧ d = d' + R u w ∧ w < 8)) ⟨gW.st, Or.inl ⟨rfl, rfl⟩⟩ (fun u d v hu hv hr => ⟨hu.1.go hv hr, Or.inr ⟨u, d, hu.1, hr, rfl, hv⟩⟩)
  exact this.2
theorem gW.b8 {R : Nat → Nat → Nat} {a w d : Nat} (h : gW R a w d) (ha : a < 8) : w < 8 := h (fun w _ => w < 8) ha (fun _ _ _ _ hv _ => hv)
/-- distances: closed and walked -/
def gDist (R : Nat → Nat → Nat) (a : Nat) (D : Nat → Nat) : Prop := D a = 0 ∧ (∀ w, w < 8 → D w ≤ 1000000) ∧ (∀ w, w < 8 → D w < 1000000 → gW R a w (D w)) ∧ ∀ u v, u < 8 → v < 8 → D u < 1000000 → 0 < R u v → D u + R u v ≤ 999999 → D v ≤ D u + R u v
theorem gDist.le {R : Nat → Nat → Nat} {a : Nat} {D : Nat → Nat} (h : gDist R a D) (ha : a < 8) {w d : Nat} (hw : gW R a w d) : d ≤ 999999 → D w ≤ d := by
  obtain ⟨h0, h1, h2, h3⟩ := h
  have := hw (fun w d => w < 8 ∧ (d ≤ 999999 → D w ≤ d)) ⟨ha, fun _ => by omega⟩ (fun u d v hu hv hr => ⟨hv, fun hd => by
    have a := hu.2 (by omega)
    have b := h3 u v hu.1 hv (by omega) hr (by omega)
    omega⟩)
  exact this.2
/-- rounds over all roads come to the distances -/
theorem gDist.rank {R : Nat → Nat → Nat} {a : Nat} {D : Nat → Nat} (h : gDist R a D) (ha : a < 8) {w : Nat} (hw : w < 8) (hd : D w < 1000000) (ne : w ≠ a) : ∃ u, u < 8 ∧ 0 < R u w ∧ D w = D u + R u w ∧ D u < D w ∧ cntN 8 (fun x => decide (D x < D u)) + 1 ≤ cntN 8 (fun x => decide (D x < D w)) := by
  rcases (h.2.2.1 w hw hd).last with ⟨e, _⟩ | ⟨u, d', hu, hr, e, _⟩
  · exact absurd e ne
  have hu8 := hu.b8 ha
  have le := h.le ha hu (by omega)
  have le2 := h.2.2.2 u w hu8 hw (by omega) hr (by omega)
  have lt : D u < D w := by omega
  refine ⟨u, hu8, hr, by omega, lt, cntN_lt 8 (u := u) (fun i _ hi => ?_) hu8 (decide_eq_true lt) (fun e => ?_)⟩
  · exact decide_eq_true (Nat.lt_trans (of_decide_eq_true hi) lt)
  · have := of_decide_eq_true e
    omega
def wRd (S : Nat → Int32) (a b : Nat) : Nat := (S (8 + (8 * a + b))).toNatClampNeg
theorem wRd_ok {μ : jj_M} (h : jI μ) {a b : Nat} (ha : a < 8) (hb : b < 8) : μ 3 (8 * a + b) = nI (wRd (μ 61) a b) ∧ μ 61 (8 + (8 * a + b)) = nI (wRd (μ 61) a b) ∧ wRd (μ 61) a b ≤ 20 := by
  obtain ⟨e, l, hl, el⟩ := h.rd ha hb
  have q : wRd (μ 61) a b = l := by
    unfold wRd
    rw [el, nz_clamp (by omega)]
  rw [q, e]
  exact ⟨el, el, hl⟩
theorem isIn_01 (m : Int32) (w : Nat) : wyf_isIn m (nI w) = if decide (wyf_isIn m (nI w) = 1) = true then 1 else 0 := by
  by_cases q : wyf_isIn m (nI w) = 1
  · rw [decide_eq_true q, if_pos rfl]; exact q
  · rw [decide_eq_false q, if_neg (by decide)]
    unfold wyf_isIn at q ⊢
    by_cases z : (m >>> (nI w &&& 31)) &&& 1 = 1
    · rw [if_pos z] at q; exact absurd rfl q
    · rw [if_neg z]
theorem cost_c (N : Nat) (x1 x2 : Int32) : ∀ (k i f : Nat) (μ : jj_M), i + k = 21 → ∃ m, wyf_shortestWay_L14 N x1 x2 (f + k) (nI i) μ = wyf_shortestWay_L14 N x1 x2 f (nI 21) m ∧ (∀ a, a ≠ 42 → m a = μ a) ∧ ∀ l, m 42 l = if i ≤ l ∧ l < 21 then nI l else μ 42 l := by
  intro k
  induction k with
  | zero =>
    intro i f μ hi
    have e : i = 21 := by omega
    subst e
    exact ⟨μ, rfl, fun _ _ => rfl, fun l => by rw [if_neg (by omega)]⟩
  | succ k ih =>
    intro i f μ hi
    have c : ¬ (20 : Int32) < nI i := by rw [show (20 : Int32) = nI 20 from rfl, nz_lt (by omega) (by omega)]; omega
    have g : jj_i (nI i) 21 := nz_in (by omega) (by omega)
    have ki : (nI i).toNatClampNeg = i := nz_clamp (by omega)
    obtain ⟨m, m1, m2, m3⟩ := ih (i + 1) f (jj_u μ 42 i (nI i)) (by omega)
    refine ⟨m, ?_, fun a ha => by rw [m2 a ha, ju_ne ha], fun l => ?_⟩
    · rw [show f + (k + 1) = (f + k) + 1 by omega, wyf_shortestWay_L14, if_neg c, if_pos g]
      simp only [ki, nz_s]
      exact m1
    · rw [m3 l]
      by_cases q : i + 1 ≤ l ∧ l < 21
      · rw [if_pos q, if_pos (by omega)]
      · rw [if_neg q]
        by_cases e : l = i
        · rw [e, ju_self, if_pos (by omega)]
        · rw [ju_other e, if_neg (by omega)]
theorem short_c {μ : jj_M} (h : jI μ) {a b : Nat} (ha : a < 8) (hb : b < 8) : ∃ D m, gDist (wRd (μ 61)) a D ∧ wyf_shortestWay jz_N (nI a) (nI b) μ = some ((if D b < 1000000 then nI (D b) else -1), m) ∧ ∀ k, k ≠ 41 → k ≠ 42 → k ≠ 43 → k ≠ 72 → m k = μ k := by
  have big := jz_ge
  obtain ⟨F, eF⟩ : ∃ F, jz_N = (F + 1) + 21 := ⟨jz_N - 22, by omega⟩
  obtain ⟨Y, y1, y2, y3⟩ := look_ok μ
  obtain ⟨A, a1, a2, a3⟩ := cost_c jz_N (nI a) (nI b) 21 0 (F + 1) (jj_u Y 41 1 999999) (by omega)
  rw [← eF] at a1
  obtain ⟨Fl, f1, f2, f3, _⟩ := fill_ok (N := jz_N) (p := 43) (n0 := 8) (v := 1000000) (by omega) 8 0 jz_N A (by omega) (by omega)
  have f1 : jdf_fill jz_N 43 8 1000000 A = some Fl := f1
  obtain ⟨L0, hL0⟩ : ∃ L0 : Nat → Nat, L0 = fun w => if w = a then 0 else 1000000 := ⟨_, rfl⟩
  obtain ⟨M0, hM0⟩ : ∃ M0, M0 = jj_u Fl 43 a 0 := ⟨_, rfl⟩
  have S0 : spS Fl L0 M0 := by
    rw [hM0]
    refine ⟨fun k hk => ju_ne hk, fun w hw => ?_⟩
    rw [hL0]
    by_cases q : w = a
    · rw [q, ju_self]
      simp only [↓reduceIte]
      exact ⟨rfl, by omega⟩
    · rw [ju_other q, f3 w (by omega) hw]
      simp only [q, ↓reduceIte]
      exact ⟨rfl, Nat.le_refl _⟩
  have K : spK (wRd (μ 61)) (fun l => l) 999999 (fun w => decide (wyf_isIn (Fl 41 0) (nI w) = 1)) Fl := by
    refine ⟨fun u v hu hv => ?_, fun l h1 h2 => ?_, ?_, by omega, fun w hw => isIn_01 _ w⟩
    · obtain ⟨e1, e2, e3⟩ := wRd_ok h hu hv
      rw [f2 72 (by decide), a2 72 (by decide), ju_ne (by decide), y3 (8 * u + v) (by omega)]
      exact ⟨e1, e3⟩
    · rw [f2 42 (by decide), a3 l, if_pos (by omega)]
      exact ⟨rfl, by show l ≤ 1000; omega⟩
    · rw [f2 41 (by decide), a2 41 (by decide), ju_self]; rfl
  obtain ⟨I, hI⟩ : ∃ I : (Nat → Nat) → Prop, I = fun L => (∀ w, w < 8 → L w < 1000000 → L w + 20 ≤ 20 * cntN 8 (fun x => decide (L x < 1000000)) ∧ gW (wRd (μ 61)) a w (L w)) := ⟨_, rfl⟩
  have I0 : I L0 := by
    rw [hI]
    intro w hw hl
    have e : w = a := by
      rw [hL0] at hl
      by_cases q : w = a
      · exact q
      · simp only [q, ↓reduceIte] at hl
        omega
    have z : L0 w = 0 := by rw [hL0, e]; simp only [↓reduceIte]
    have p := cntN_pos (p := fun x => decide (L0 x < 1000000)) 8 hw (decide_eq_true (by omega))
    rw [z, e]
    exact ⟨by omega, gW.st⟩
  have I2 : spI (wRd (μ 61)) (fun l => l) 999999 (fun w => decide (wyf_isIn (Fl 41 0) (nI w) = 1)) 0 I := by
    intro L u v hL hu hv hl hr hle hlt
    have ev : spV (fun l => l) (fun w => decide (wyf_isIn (Fl 41 0) (nI w) = 1)) 0 (L u) v (wRd (μ 61) u v) = L u + wRd (μ 61) u v := by
      unfold spV
      rw [if_neg (fun e => by have := e.1; omega)]
    rw [ev] at hlt ⊢
    rw [hI] at hL ⊢
    have hle : L u + wRd (μ 61) u v ≤ 999999 := hle
    obtain ⟨b1, b2⟩ := hL u hu hl
    have r20 := (wRd_ok h hu hv).2.2
    intro w hw hlw
    have mono := cntN_le (p := fun x => decide (L x < 1000000)) (q := fun x => decide (gup L v (L u + wRd (μ 61) u v) x < 1000000)) 8 (fun i _ hi => by
      refine decide_eq_true ?_
      have := of_decide_eq_true hi
      unfold gup
      split
      · omega
      · exact this)
    by_cases q : w = v
    · subst q
      rw [gup_s]
      refine ⟨?_, b2.go hw hr⟩
      by_cases z : L w < 1000000
      · have := (hL w hw z).1
        omega
      · have st := cntN_lt (p := fun x => decide (L x < 1000000)) (q := fun x => decide (gup L w (L u + wRd (μ 61) u w) x < 1000000)) (u := w) 8 (fun i _ hi => by
          refine decide_eq_true ?_
          have := of_decide_eq_true hi
          unfold gup
          split
          · omega
          · exact this) hw (decide_eq_true (by rw [gup_s]; omega)) (fun e => z (of_decide_eq_true e))
        omega
    · rw [gup_n q] at hlw ⊢
      obtain ⟨c1, c2⟩ := hL w hw hlw
      exact ⟨by omega, c2⟩
  have IB : ∀ L, I L → ∀ w, w < 8 → L w < 1000000 → L w ≤ 140 := by
    intro L hL w hw hl
    rw [hI] at hL
    have := (hL w hw hl).1
    have := cntN_b (fun x => decide (L x < 1000000)) 8
    omega
  have P0 : gPhi 140 L0 < 1000 := by
    have b : ∀ w, min (L0 w) (140 + 1) ≤ 141 := fun w => by omega
    have z : ∀ w, w = a → min (L0 w) (140 + 1) = 0 := fun w e => by
      have : L0 w = 0 := by rw [hL0, e]; simp only [↓reduceIte]
      omega
    unfold gPhi
    have b0 := b 0
    have b1 := b 1
    have b2 := b 2
    have b3 := b 3
    have b4 := b 4
    have b5 := b 5
    have b6 := b 6
    have b7 := b 7
    have z0 := z 0
    have z1 := z 1
    have z2 := z 2
    have z3 := z 3
    have z4 := z 4
    have z5 := z 5
    have z6 := z 6
    have z7 := z 7
    omega
  obtain ⟨D, m, d1, d2, d3, d4, d5⟩ := spread_ok (N := jz_N) (by omega) (by omega : 0 ≤ 1) K I2 IB S0 I0 P0
  have d1 : wyf_spread jz_N 0 M0 = some m := d1
  have D0 : D a = 0 := by
    have := d4 a
    rw [hL0] at this
    simp only [↓reduceIte] at this
    omega
  have dist : gDist (wRd (μ 61)) a D := by
    refine ⟨D0, fun w hw => (d2.2 w hw).2, fun w hw hl => ?_, fun u v hu hv hl hr hle => ?_⟩
    · rw [hI] at d3
      exact (d3 w hw hl).2
    · have := d5 u v hu hv hl hr hle
      unfold spV at this
      rwa [if_neg (fun e => by have := e.1; omega)] at this
  refine ⟨D, m, dist, ?_, fun k h1 h2 h3 h4 => by rw [d2.1 k h3, f2 k h3, a2 k h2, ju_ne h1, y2 k h4]⟩
  have gA : jj_i (nI a) 8 := nz_in (by omega) (by omega)
  have kA : (nI a).toNatClampNeg = a := nz_clamp (by omega)
  have gB : jj_i (nI b) 8 := nz_in (by omega) (by omega)
  have kB : (nI b).toNatClampNeg = b := nz_clamp (by omega)
  obtain ⟨e1, e2⟩ := d2.2 b hb
  unfold wyf_shortestWay
  rw [y1, Option.bind_some]
  have a1 : wyf_shortestWay_L14 jz_N (nI a) (nI b) jz_N 0 (jj_u Y 41 1 999999) = _ := a1
  rw [a1, wyf_shortestWay_L14, if_pos (by decide), f1, Option.bind_some, if_pos gA, kA, ← hM0, d1, Option.bind_some, if_pos gB]
  simp only [kB, e1, eq_true gB, ↓reduceIte]
  by_cases q : D b < 1000000
  · rw [if_neg (by rw [show (1000000 : Int32) = nI 1000000 from rfl, nz_le (by omega) (by omega)]; omega), if_pos q]
  · rw [if_pos (by rw [show (1000000 : Int32) = nI 1000000 from rfl, nz_le (by omega) (by omega)]; omega), if_neg q]
/-! the reference's rounds -/
def msS (μ0 : jj_M) (T : Nat → Nat) (μ : jj_M) : Prop := (∀ k, k ≠ 65 → μ k = μ0 k) ∧ ∀ w, w < 8 → μ 65 w = nI (T w) ∧ T w ≤ 1000000
theorem mround_ok {N : Nat} {μ0 : jj_M} (h : ∀ u v, u < 8 → v < 8 → μ0 61 (8 + (8 * u + v)) = nI (wRd (μ0 61) u v) ∧ wRd (μ0 61) u v ≤ 20) {a : Nat} (ha : a < 8) (K : Int32 → jj_M → Option (Int32 × jj_M)) (x2 x3 : Int32) :
    ∀ (k i f : Nat) (T : Nat → Nat) (μ : jj_M), i + k = 64 → k < f → msS μ0 T μ → (∀ w, w < 8 → T w < 1000000 → gW (wRd (μ0 61)) a w (T w)) → ∃ T' μ', mdf_shortest_L63 N K x2 x3 f (nI i) μ = K (x3 + 1) μ' ∧ msS μ0 T' μ' ∧ (∀ w, w < 8 → T' w < 1000000 → gW (wRd (μ0 61)) a w (T' w)) ∧ (∀ w, T' w ≤ T w) ∧ ∀ j, i ≤ j → j < 64 → 0 < wRd (μ0 61) (j / 8) (j % 8) → T' (j % 8) ≤ T (j / 8) + wRd (μ0 61) (j / 8) (j % 8) := by
  intro k
  induction k with
  | zero =>
    intro i f T μ hi hf hS hT
    obtain ⟨f, rfl⟩ : ∃ m, f = m + 1 := ⟨f - 1, by omega⟩
    have e : i = 64 := by omega
    subst e
    exact ⟨T, μ, by rw [mdf_shortest_L63, if_pos (by decide)], hS, hT, fun _ => Nat.le_refl _, fun j h1 h2 => by omega⟩
  | succ k ih =>
    intro i f T μ hi hf hS hT
    obtain ⟨f, rfl⟩ : ∃ m, f = m + 1 := ⟨f - 1, by omega⟩
    have c : ¬ (64 : Int32) ≤ nI i := by rw [show (64 : Int32) = nI 64 from rfl, nz_le (by omega) (by omega)]; omega
    obtain ⟨u, hu⟩ : ∃ u, u = i / 8 := ⟨_, rfl⟩
    obtain ⟨v, hv⟩ : ∃ v, v = i % 8 := ⟨_, rfl⟩
    have hu8 : u < 8 := by omega
    have hv8 : v < 8 := by omega
    have huv : i = 8 * u + v := by omega
    have e1 : nI i / 8 = nI u := by rw [show (8 : Int32) = nI 8 from rfl, nz_div (by omega) (by omega), hu]
    have e2 : nI i - nI u * 8 = nI v := by rw [← e1, show (8 : Int32) = nI 8 from rfl, nz_rem (by omega) (by omega), hv]
    have e3 : (8 : Int32) + nI i = nI (8 + i) := by rw [show (8 : Int32) = nI 8 from rfl, nz_add]
    have g1 : jj_i (nI u) 296 := nz_in (by omega) (by omega)
    have k1 : (nI u).toNatClampNeg = u := nz_clamp (by omega)
    have g2 : jj_i (nI v) 296 := nz_in (by omega) (by omega)
    have k2 : (nI v).toNatClampNeg = v := nz_clamp (by omega)
    have g3 : jj_i (nI (8 + i)) 351 := nz_in (by omega) (by omega)
    have k3 : (nI (8 + i)).toNatClampNeg = 8 + i := nz_clamp (by omega)
    obtain ⟨r1, r2⟩ := h u v hu8 hv8
    have r1' : μ 61 (8 + i) = nI (wRd (μ0 61) u v) := by rw [hS.1 61 (by decide), huv]; exact r1
    obtain ⟨tu, tu2⟩ := hS.2 u hu8
    obtain ⟨tv, tv2⟩ := hS.2 v hv8
    -- what stays
    have stay : (0 < wRd (μ0 61) u v → T v ≤ T u + wRd (μ0 61) u v) → ∃ T' μ', mdf_shortest_L63 N K x2 x3 f (nI (i + 1)) (jj_u μ 65 v (nI (T v))) = K (x3 + 1) μ' ∧ msS μ0 T' μ' ∧ (∀ w, w < 8 → T' w < 1000000 → gW (wRd (μ0 61)) a w (T' w)) ∧ (∀ w, T' w ≤ T w) ∧ ∀ j, i ≤ j → j < 64 → 0 < wRd (μ0 61) (j / 8) (j % 8) → T' (j % 8) ≤ T (j / 8) + wRd (μ0 61) (j / 8) (j % 8) := by
      intro hn
      rw [ju_same tv]
      obtain ⟨T', μ', k1, k2, k3, k4, k5⟩ := ih (i + 1) f T μ (by omega) (by omega) hS hT
      refine ⟨T', μ', k1, k2, k3, k4, fun j h1 h2 hr => ?_⟩
      by_cases e : j = i
      · rw [e, ← hu, ← hv] at hr ⊢
        exact Nat.le_trans (k4 v) (hn hr)
      · exact k5 j (by omega) h2 hr
    rw [mdf_shortest_L63, if_neg c]
    simp only [e1, e2, e3, eq_true g1, eq_true g2, eq_true g3, k1, k2, k3, r1', tu, tv, nz_add, ↓reduceIte, Option.bind_some]
    rw [nz_s i]
    by_cases q : wRd (μ0 61) u v = 0
    · rw [q, if_pos (by decide)]
      exact stay (fun e => by omega)
    rw [if_neg (by rw [show (0 : Int32) = nI 0 from rfl, nz_le (by omega) (by omega)]; omega)]
    by_cases q2 : T v ≤ T u + wRd (μ0 61) u v
    · rw [if_pos ((nz_le (by omega) (by omega)).mpr q2)]
      exact stay (fun _ => q2)
    rw [if_neg (fun e => q2 ((nz_le (by omega) (by omega)).mp e))]
    have S2 : msS μ0 (gup T v (T u + wRd (μ0 61) u v)) (jj_u μ 65 v (nI (T u + wRd (μ0 61) u v))) := by
      refine ⟨fun k hk => by rw [ju_ne hk]; exact hS.1 k hk, fun w hw => ?_⟩
      by_cases e : w = v
      · rw [e, ju_self, gup_s]; exact ⟨rfl, by omega⟩
      · rw [ju_other e, gup_n e]; exact hS.2 w hw
    have T2 : ∀ w, w < 8 → gup T v (T u + wRd (μ0 61) u v) w < 1000000 → gW (wRd (μ0 61)) a w (gup T v (T u + wRd (μ0 61) u v) w) := by
      intro w hw hl
      by_cases e : w = v
      · rw [e, gup_s]
        exact (hT u hu8 (by omega)).go hv8 (by omega)
      · rw [gup_n e] at hl ⊢
        exact hT w hw hl
    have le2 : ∀ w, gup T v (T u + wRd (μ0 61) u v) w ≤ T w := by
      intro w
      unfold gup
      split
      · rename_i e; rw [e]; omega
      · exact Nat.le_refl _
    obtain ⟨T', μ', k1, k2, k3, k4, k5⟩ := ih (i + 1) f _ _ (by omega) (by omega) S2 T2
    refine ⟨T', μ', k1, k2, k3, fun w => Nat.le_trans (k4 w) (le2 w), fun j h1 h2 hr => ?_⟩
    by_cases e : j = i
    · rw [e, ← hu, ← hv]
      have := k4 v
      rw [gup_s] at this
      exact this
    · have := k5 j (by omega) h2 hr
      have := le2 (j / 8)
      omega
theorem mrounds_ok {N : Nat} (hN : 100 < N) {μ0 : jj_M} (h : ∀ u v, u < 8 → v < 8 → μ0 61 (8 + (8 * u + v)) = nI (wRd (μ0 61) u v) ∧ wRd (μ0 61) u v ≤ 20) {a : Nat} (ha : a < 8) {D : Nat → Nat} (hD : gDist (wRd (μ0 61)) a D) (x2 : Int32) :
    ∀ (k i f : Nat) (T : Nat → Nat) (μ : jj_M), i + k = 8 → msS μ0 T μ → (∀ w, w < 8 → T w < 1000000 → gW (wRd (μ0 61)) a w (T w)) → (∀ w, w < 8 → D w < 1000000 → cntN 8 (fun x => decide (D x < D w)) ≤ i → T w ≤ D w) → ∃ T' μ', mdf_shortest_L54 N x2 (f + k) (nI i) μ = mdf_shortest_L54 N x2 f (nI 8) μ' ∧ msS μ0 T' μ' ∧ (∀ w, w < 8 → T' w < 1000000 → gW (wRd (μ0 61)) a w (T' w)) ∧ (∀ w, w < 8 → D w < 1000000 → cntN 8 (fun x => decide (D x < D w)) ≤ 8 → T' w ≤ D w) := by
  intro k
  induction k with
  | zero =>
    intro i f T μ hi hS hT hR
    have e : i = 8 := by omega
    subst e
    exact ⟨T, μ, rfl, hS, hT, hR⟩
  | succ k ih =>
    intro i f T μ hi hS hT hR
    have c : ¬ (8 : Int32) ≤ nI i := by rw [show (8 : Int32) = nI 8 from rfl, nz_le (by omega) (by omega)]; omega
    obtain ⟨T1, μ1, k1, k2, k3, k4, k5⟩ := mround_ok (N := N) h ha (mdf_shortest_L54 N x2 (f + k)) x2 (nI i) 64 0 N T μ (by omega) (by omega) hS hT
    have k1 : mdf_shortest_L63 N (mdf_shortest_L54 N x2 (f + k)) x2 (nI i) N 0 μ = _ := k1
    have R2 : ∀ w, w < 8 → D w < 1000000 → cntN 8 (fun x => decide (D x < D w)) ≤ i + 1 → T1 w ≤ D w := by
      intro w hw hl hr
      by_cases e : w = a
      · have z := hR w hw hl
        rw [e, hD.1]
        have r0 : cntN 8 (fun x => decide (D x < D a)) ≤ i := by
          have : cntN 8 (fun x => decide (D x < D a)) ≤ cntN 8 (fun _ => false) := cntN_le 8 (fun j _ hj => by
            have := of_decide_eq_true hj
            rw [hD.1] at this
            omega)
          have z0 : cntN 8 (fun _ => false) = 0 := by decide
          omega
        rw [e] at z
        have := z r0
        rw [hD.1] at this
        exact Nat.le_trans (k4 a) this
      · obtain ⟨u, hu, hru, e1, e2, e3⟩ := hD.rank ha hw hl e
        have tu := hR u hu (by omega) (by omega)
        have := k5 (8 * u + w) (by omega) (by omega) (by rw [show (8 * u + w) / 8 = u by omega, show (8 * u + w) % 8 = w by omega]; exact hru)
        rw [show (8 * u + w) / 8 = u by omega, show (8 * u + w) % 8 = w by omega] at this
        omega
    obtain ⟨T', μ', l1, l2, l3, l4⟩ := ih (i + 1) f T1 μ1 (by omega) k2 k3 R2
    refine ⟨T', μ', ?_, l2, l3, l4⟩
    rw [show f + (k + 1) = (f + k) + 1 by omega, mdf_shortest_L54, if_neg c, k1, nz_s]
    exact l1
theorem mfill_ok (N : Nat) {a : Nat} (ha : a < 8) (x2 : Int32) : ∀ (k i f : Nat) (μ : jj_M), i + k = 8 → k < f → ∃ m, mdf_shortest_L23 N (nI a) x2 f (nI i) μ = mdf_shortest_L54 N x2 N 0 m ∧ (∀ k, k ≠ 65 → m k = μ k) ∧ ∀ w, m 65 w = if i ≤ w ∧ w < 8 then (if w = a then 0 else 1000000) else μ 65 w := by
  intro k
  induction k with
  | zero =>
    intro i f μ hi hf
    obtain ⟨f, rfl⟩ : ∃ m, f = m + 1 := ⟨f - 1, by omega⟩
    have e : i = 8 := by omega
    subst e
    exact ⟨μ, by rw [mdf_shortest_L23, if_pos (by decide)], fun _ _ => rfl, fun w => by rw [if_neg (by omega)]⟩
  | succ k ih =>
    intro i f μ hi hf
    obtain ⟨f, rfl⟩ : ∃ m, f = m + 1 := ⟨f - 1, by omega⟩
    have c : ¬ (8 : Int32) ≤ nI i := by rw [show (8 : Int32) = nI 8 from rfl, nz_le (by omega) (by omega)]; omega
    have g : jj_i (nI i) 296 := nz_in (by omega) (by omega)
    have ki : (nI i).toNatClampNeg = i := nz_clamp (by omega)
    obtain ⟨v, hv⟩ : ∃ v : Int32, v = if i = a then 0 else 1000000 := ⟨_, rfl⟩
    obtain ⟨m, m1, m2, m3⟩ := ih (i + 1) f (jj_u μ 65 i v) (by omega) (by omega)
    refine ⟨m, ?_, fun k hk => by rw [m2 k hk, ju_ne hk], fun w => ?_⟩
    · rw [mdf_shortest_L23, if_neg c]
      simp only [eq_true g, ki, nz_s, ↓reduceIte]
      by_cases q : i = a
      · rw [if_pos q] at hv
        rw [hv] at m1
        rw [if_pos (show nI i = nI a by rw [q])]
        exact m1
      · rw [if_neg q] at hv
        rw [hv] at m1
        rw [if_neg (nI_ne (by omega) (by omega) q)]
        exact m1
    · rw [m3 w]
      by_cases q : i + 1 ≤ w ∧ w < 8
      · rw [if_pos q, if_pos (show i ≤ w ∧ w < 8 by omega)]
      · rw [if_neg q]
        by_cases e : w = i
        · rw [e, ju_self, if_pos (show i ≤ i ∧ i < 8 by omega), hv]
        · rw [ju_other e, if_neg (by omega)]
theorem st_shortest {μ : jj_M} (h : jI μ) (x1 x2 : Int32) : ∃ (r : Int32) (μ1 : jj_M) (μ2 : jj_M), wnf_shortest jz_N x1 x2 μ = some (r, μ1) ∧ mdf_shortest jz_N x1 x2 μ1 = some (r, μ2) ∧ jI μ2 := by
  have big := jz_ge
  unfold wnf_shortest mdf_shortest
  rw [nz_isWell, nz_isWell]
  by_cases c1 : wnf_isWell x1 = 0
  · obtain ⟨m1, m2, a, b, c⟩ := err1 h
    exact ⟨-1000000001, m1, m2, by simp only [c1, a, ↓reduceIte, Option.bind_some], by simp only [c1, b, ↓reduceIte, Option.bind_some], c⟩
  by_cases c2 : wnf_isWell x2 = 0
  · obtain ⟨m1, m2, a, b, c⟩ := err1 h
    exact ⟨-1000000001, m1, m2, by simp only [c1, c2, a, ↓reduceIte, Option.bind_some], by simp only [c1, c2, b, ↓reduceIte, Option.bind_some], c⟩
  obtain ⟨a, ha, rfl⟩ := nz_well c1
  obtain ⟨b, hb, rfl⟩ := nz_well c2
  obtain ⟨D, m, hD, m1, m2⟩ := short_c h ha hb
  have th : jTh μ m := ⟨fun k hk _ => m2 k (fun e => hk (by unfold jFree; omega)) (fun e => hk (by unfold jFree; omega)) (fun e => hk (by unfold jFree; omega)) (fun e => hk (by unfold jFree; omega)), fun j _ => by rw [m2 60 (by decide) (by decide) (by decide) (by decide)]⟩
  have Im := th.I h
  -- the class refuses, or not
  obtain ⟨A, hA⟩ : ∃ A, (if D b < 1000000 then A = m else wnf_refuse 2 m = some (-1000000002, A)) ∧ (∀ k, k ≠ 59 → A k = m k) := by
    by_cases q : D b < 1000000
    · exact ⟨m, by rw [if_pos q], fun _ _ => rfl⟩
    · obtain ⟨q1, q2, a1, _, _⟩ := err2 Im
      exact ⟨q1, by rw [if_neg q]; exact a1, err_61 (e := 2) (by omega) a1⟩
  obtain ⟨hA1, hA2⟩ := hA
  have A61 : A 61 = μ 61 := by rw [hA2 61 (by decide), m2 61 (by decide) (by decide) (by decide) (by decide)]
  obtain ⟨Z, z1, z2, z3⟩ := mfill_ok jz_N ha (nI b) 8 0 jz_N A (by omega) (by omega)
  obtain ⟨F, eF⟩ : ∃ F, jz_N = (F + 1) + 8 := ⟨jz_N - 9, by omega⟩
  have Z61 : Z 61 = μ 61 := by rw [z2 61 (by decide), A61]
  have hS0 : msS Z (fun w => if w = a then 0 else 1000000) Z := by
    refine ⟨fun _ _ => rfl, fun w hw => ?_⟩
    rw [z3 w, if_pos (by omega)]
    by_cases q : w = a
    · simp only [q, ↓reduceIte]; exact ⟨rfl, by omega⟩
    · simp only [q, ↓reduceIte]; exact ⟨rfl, Nat.le_refl _⟩
  obtain ⟨T, M, t1, t2, t3, t4⟩ := mrounds_ok (N := jz_N) (by omega) (μ0 := Z) (fun u v hu hv => by rw [Z61]; exact (wRd_ok h hu hv).2) ha (by rw [Z61]; exact hD) (nI b) 8 0 (F + 1) (fun w => if w = a then 0 else 1000000) Z (by omega) hS0 (fun w hw hl => by
      by_cases q : w = a
      · simp only [q, ↓reduceIte]; exact gW.st
      · simp only [q, ↓reduceIte] at hl; omega) (fun w hw hl hr => by
      by_cases q : w = a
      · simp only [q, ↓reduceIte]; omega
      · obtain ⟨u, _, _, _, _, e3⟩ := hD.rank ha hw hl q
        omega)
  rw [← eF] at t1
  have t1 : mdf_shortest_L54 jz_N (nI b) jz_N 0 Z = _ := t1
  obtain ⟨tb, tb2⟩ := t2.2 b hb
  have eT : T b = D b := by
    by_cases q : D b < 1000000
    · have le := t4 b hb q (cntN_b _ 8)
      have g := t3 b hb (by omega)
      rw [Z61] at g
      have := hD.le ha g (by omega)
      omega
    · have d6 := hD.2.1 b hb
      by_cases q2 : T b < 1000000
      · have g := t3 b hb q2
        rw [Z61] at g
        have := hD.le ha g (by omega)
        omega
      · omega
  have gB : jj_i (nI b) 296 := nz_in (by omega) (by omega)
  have kB : (nI b).toNatClampNeg = b := nz_clamp (by omega)
  have MA : ∀ k, k ≠ 65 → M k = A k := fun k hk => by rw [t2.1 k hk, z2 k hk]
  have z1 : mdf_shortest_L23 jz_N (nI a) (nI b) jz_N 0 A = _ := z1
  by_cases q : D b < 1000000
  · rw [if_pos q] at m1 hA1
    refine ⟨nI (D b), m, M, ?_, ?_, ?_⟩
    · rw [if_neg c1, if_neg c2, m1, Option.bind_some, if_pos (nI_nn (by omega))]
    · rw [← hA1, if_neg c1, if_neg c2, z1, t1, mdf_shortest_L54, if_pos (by decide), if_pos gB, if_neg (by rw [kB, tb, show (1000000 : Int32) = nI 1000000 from rfl, nz_le (by omega) (by omega)]; omega), if_pos gB, kB, tb, eT]
    · refine jTh.I (μ := m) ⟨fun k hk _ => ?_, fun j _ => ?_⟩ Im
      · rw [MA k (fun e => hk (by unfold jFree; omega)), hA1]
      · rw [MA 60 (by decide), hA1]
  · rw [if_neg q] at m1 hA1
    obtain ⟨q1, q2, a1, b1, cI⟩ := err2 Im
    have e : q1 = A := by
      rw [hA1] at a1
      exact (Prod.mk.inj (Option.some.inj a1)).2.symm
    subst e
    have M64 : M 64 = q1 64 := MA 64 (by decide)
    have er := errs_ok (e := 2) (by omega) M
    have er2 := errs_ok (e := 2) (by omega) q1
    have er2' : mdf_errs (-1000000002) q1 = some (-1000000002, jj_u q1 64 2 (q1 64 2 + 1)) := er2
    have e2 : q2 = jj_u q1 64 2 (q1 64 2 + 1) := by
      rw [er2'] at b1
      exact (Prod.mk.inj (Option.some.inj b1)).2.symm
    refine ⟨-1000000002, q1, jj_u M 64 2 (M 64 2 + 1), ?_, ?_, ?_⟩
    · rw [if_neg c1, if_neg c2, m1, Option.bind_some, if_neg (show ¬ (0 : Int32) ≤ -1 by decide), a1, Option.bind_some]
    · rw [if_neg c1, if_neg c2, z1, t1, mdf_shortest_L54, if_pos (by decide), if_pos gB, if_pos (by rw [kB, tb, show (1000000 : Int32) = nI 1000000 from rfl, nz_le (by omega) (by omega)]; omega)]
      rw [show mdf_errs (-1000000002) M = some (-1000000002, jj_u M 64 2 (M 64 2 + 1)) from er, Option.bind_some]
    · refine jTh.I (μ := q2) ⟨fun k hk _ => ?_, fun j _ => ?_⟩ cI
      · rw [e2, M64]
        by_cases z : k = 64
        · rw [z, ju_rowS, ju_rowS, M64]
        · rw [ju_ne z, ju_ne z, MA k (fun e => hk (by unfold jFree; omega))]
      · rw [e2, ju_ne (by decide), ju_ne (by decide), MA 60 (by decide)]
