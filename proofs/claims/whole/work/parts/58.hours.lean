/-! ===== the class: whom one can reach, the soonest, the fewest drinks ===== -/
theorem Rch.t36 {R : Nat → Nat → Nat} {C : Nat → Nat} {lim : Nat} {dr : Nat → Bool} {s t0 w t h k : Nat} (x : Rch R C lim dr s t0 w t h k) (h1 : t0 ≤ 36) (h2 : lim ≤ 36) : t ≤ 36 := x (fun _ t _ _ => t ≤ 36) h1 (fun _ _ _ _ _ _ => Nat.zero_le _) (fun _ _ _ _ _ _ _ _ hl => by omega)
theorem nI_and (a b : Nat) : nI a &&& nI b = nI (a &&& b) := by
  apply Int32.toBitVec_inj.mp
  rw [Int32.toBitVec_and]
  show BitVec.ofNat 32 a &&& BitVec.ofNat 32 b = BitVec.ofNat 32 (a &&& b)
  rw [BitVec.ofNat_and]
theorem mkL.and {x y : Int32} {l1 l2 : List Nat} (h1 : mkL x l1) (h2 : mkL y l2) : ∃ l, mkL (x &&& y) l ∧ ∀ w, w < 8 → (w ∈ l ↔ w ∈ l1 ∧ w ∈ l2) := by
  obtain ⟨M1, a1, rfl, a3⟩ := h1
  obtain ⟨M2, b1, rfl, b3⟩ := h2
  have key : ∀ w, w < 8 → ((M1 &&& M2).testBit w = true ↔ w ∈ (List.range 8).filter (fun w => (M1 &&& M2).testBit w)) := fun w hw => by
    rw [List.mem_filter, List.mem_range]
    exact ⟨fun e => ⟨hw, e⟩, fun e => e.2⟩
  refine ⟨(List.range 8).filter (fun w => (M1 &&& M2).testBit w), ⟨M1 &&& M2, Nat.lt_of_le_of_lt Nat.and_le_left a1, nI_and _ _, key⟩, fun w hw => ?_⟩
  rw [← key w hw, Nat.testBit_and, Bool.and_eq_true, a3 w hw, b3 w hw]
theorem rmask_ok (N : Nat) {L : Nat → Nat} {μ : jj_M} (hL : ∀ w, w < 8 → μ 43 w = nI (L w) ∧ L w ≤ 1000000) : ∀ (k i f : Nat) (x : Int32) (l : List Nat), i + k = 8 → k < f → mkL x l → (∀ w, w ∈ l ↔ w < i ∧ L w < 1000000) → ∃ r l', wyf_reached_L14 N μ f x (nI i) = some (r, μ) ∧ mkL r l' ∧ ∀ w, w ∈ l' ↔ w < 8 ∧ L w < 1000000 := by
  intro k
  induction k with
  | zero =>
    intro i f x l hi hf hx hl
    obtain ⟨f, rfl⟩ : ∃ m, f = m + 1 := ⟨f - 1, by omega⟩
    have e : i = 8 := by omega
    subst e
    exact ⟨x, l, by rw [wyf_reached_L14, if_pos (by decide)], hx, hl⟩
  | succ k ih =>
    intro i f x l hi hf hx hl
    obtain ⟨f, rfl⟩ : ∃ m, f = m + 1 := ⟨f - 1, by omega⟩
    have c : ¬ (8 : Int32) ≤ nI i := by rw [show (8 : Int32) = nI 8 from rfl, nz_le (by omega) (by omega)]; omega
    have g : jj_i (nI i) 8 := nz_in (by omega) (by omega)
    have ki : (nI i).toNatClampNeg = i := nz_clamp (by omega)
    obtain ⟨l1, l2⟩ := hL i (by omega)
    rw [wyf_reached_L14, if_neg c, if_pos g]
    simp only [ki, l1, nz_s]
    by_cases q : L i < 1000000
    · rw [if_neg (by rw [show (1000000 : Int32) = nI 1000000 from rfl, nz_le (by omega) (by omega)]; omega)]
      refine ih (i + 1) f _ (i :: l) (by omega) (by omega) (hx.add (by omega)) (fun w => ?_)
      rw [List.mem_cons, hl w]
      constructor
      · rintro (a | ⟨a, b⟩)
        · rw [a]; exact ⟨by omega, q⟩
        · exact ⟨by omega, b⟩
      · rintro ⟨a, b⟩
        by_cases z : w = i
        · exact Or.inl z
        · exact Or.inr ⟨by omega, b⟩
    · rw [if_pos (by rw [show (1000000 : Int32) = nI 1000000 from rfl, nz_le (by omega) (by omega)]; omega)]
      refine ih (i + 1) f x l (by omega) (by omega) hx (fun w => ?_)
      rw [hl w]
      constructor
      · rintro ⟨a, b⟩; exact ⟨by omega, b⟩
      · rintro ⟨a, b⟩
        refine ⟨?_, b⟩
        have : w ≠ i := fun e => q (by rw [← e]; exact b)
        omega
theorem gPhi_b {B : Nat} (L : Nat → Nat) : gPhi B L ≤ 8 * (B + 1) := by
  unfold gPhi
  omega
section
variable {R : Nat → Nat → Nat} {C : Nat → Nat} {lim : Nat} {dr : Nat → Bool} {s t0 : Nat}
theorem reached_ok {N : Nat} (hN : 2000 < N) {μ0 : jj_M} (hK : spK R C lim dr μ0) (hlim : lim ≤ 36) (ht0 : t0 ≤ 36) (hs8 : s < 8) {L : Nat → Nat} {μ : jj_M} (hS : spS μ0 L μ) (hL : ∀ w, w < 8 → L w < 1000000 → L w ≤ 36 ∧ ∃ h k, Rch R C lim dr s t0 w (L w) h k) (hs : L s ≤ t0) : ∃ r m l, wyf_reached N μ = some (r, m) ∧ (∀ k, k ≠ 43 → m k = μ0 k) ∧ mkL r l ∧ ∀ w, w < 8 → (w ∈ l ↔ ∃ t h k, Rch R C lim dr s t0 w t h k) := by
  obtain ⟨y, L1, μ1, a1, a2, a3, _, _⟩ := dwp_ok (N := N) (by omega) hK hS
  obtain ⟨I, hI⟩ : ∃ I : (Nat → Nat) → Prop, I = fun L => ∀ w, w < 8 → L w < 1000000 → L w ≤ 36 ∧ (∃ h k, Rch R C lim dr s t0 w (L w) h k) ∧ (dr w = true → L w = 0) := ⟨_, rfl⟩
  have I1 : I L1 := by
    rw [hI]
    intro w hw hl
    rw [a3 w hw] at hl ⊢
    by_cases q : dr w = true ∧ L w < 1000000
    · rw [if_pos q]
      obtain ⟨_, h, k, x⟩ := hL w hw q.2
      exact ⟨by omega, ⟨h, k + 1, x.dk q.1⟩, fun _ => rfl⟩
    · rw [if_neg q] at hl ⊢
      obtain ⟨b, x⟩ := hL w hw hl
      exact ⟨b, x, fun e => absurd ⟨e, hl⟩ q⟩
  have I2 : spI R C lim dr 1 I := by
    intro L u v hL hu hv hl hr hle hlt
    rw [hI] at hL ⊢
    obtain ⟨_, ⟨h, k, x⟩, _⟩ := hL u hu hl
    have x2 := x.go hv hr hle
    intro w hw hlw
    by_cases q : w = v
    · subst q
      rw [gup_s]
      unfold spV
      by_cases d : dr w = true
      · rw [if_pos ⟨rfl, d⟩]
        exact ⟨by omega, ⟨_, _, x2.dk d⟩, fun _ => rfl⟩
      · rw [if_neg (fun e => d e.2)]
        exact ⟨by omega, ⟨_, _, x2⟩, fun e => absurd e d⟩
    · rw [gup_n q] at hlw ⊢
      exact hL w hw hlw
  obtain ⟨L2, m, b1, b2, b3, b4, b5⟩ := spread_ok (N := N) hN (by omega : 1 ≤ 1) hK I2 (B := 36) (fun L hL w hw hl => by rw [hI] at hL; exact (hL w hw hl).1) a2 I1 (by have := gPhi_b (B := 36) L1; omega)
  have b1 : wyf_spread N 1 μ1 = some m := b1
  obtain ⟨r, l, c1, c2, c3⟩ := rmask_ok N b2.2 8 0 N 0 [] (by omega) (by omega) mkL0 (fun w => ⟨fun e => (by cases e), fun e => by omega⟩)
  have c1 : wyf_reached_L14 N m N 0 0 = some (r, m) := c1
  rw [hI] at b3
  have comp : ∀ w t h k, Rch R C lim dr s t0 w t h k → w < 8 ∧ t ≤ 36 ∧ L2 w ≤ t := by
    intro w t h k x
    refine x (fun w t _ _ => w < 8 ∧ t ≤ 36 ∧ L2 w ≤ t) ⟨hs8, ht0, ?_⟩ ?_ ?_
    · have := b4 s
      have e := a3 s hs8
      have : L1 s ≤ L s := by rw [e]; split <;> omega
      omega
    · rintro w t _ _ ⟨x1, x2, x3⟩ hd
      exact ⟨x1, by omega, by rw [(b3 w x1 (by omega)).2.2 hd]; omega⟩
    · rintro w t _ _ v ⟨x1, x2, x3⟩ hv hr hl
      refine ⟨hv, by omega, ?_⟩
      have q := b5 w v x1 hv (by omega) hr (by omega)
      have : spV C dr 1 (L2 w) v (R w v) ≤ L2 w + C (R w v) := by
        unfold spV
        split <;> omega
      omega
  refine ⟨r, m, l, ?_, b2.1, c2, fun w hw => ?_⟩
  · unfold wyf_reached
    rw [a1, Option.bind_some]
    simp only []
    rw [b1, Option.bind_some, c1]
  · rw [c3 w]
    constructor
    · rintro ⟨_, e⟩
      obtain ⟨_, ⟨h, k, x⟩, _⟩ := b3 w hw e
      exact ⟨_, h, k, x⟩
    · rintro ⟨t, h, k, x⟩
      obtain ⟨_, x2, x3⟩ := comp w t h k x
      exact ⟨hw, by omega⟩
/-- the least thirst at a well in just so many hours -/
def Hok (R : Nat → Nat → Nat) (C : Nat → Nat) (lim : Nat) (dr : Nat → Bool) (s t0 j w x : Nat) : Prop := x ≤ 1000000 ∧ (x < 1000000 → ∃ k, Rch R C lim dr s t0 w x j k) ∧ ∀ t k, Rch R C lim dr s t0 w t j k → x ≤ t
theorem Rch.zero {w t k : Nat} (x : Rch R C lim dr s t0 w t 0 k) : w = s ∧ (t = t0 ∨ (dr s = true ∧ t = 0)) := by
  have := x (fun w t h _ => h = 0 → w = s ∧ (t = t0 ∨ (dr s = true ∧ t = 0))) (fun _ => ⟨rfl, Or.inl rfl⟩) (fun w t h k a hd e => ⟨(a e).1, Or.inr ⟨by rw [← (a e).1]; exact hd, rfl⟩⟩) (fun w t h k v _ _ hr _ e => by omega)
  exact this rfl
theorem Rch.last {w t h k : Nat} (x : Rch R C lim dr s t0 w t h k) (hs8 : s < 8) (hh : 0 < h) : ∃ u t' h' k', u < 8 ∧ w < 8 ∧ Rch R C lim dr s t0 u t' h' k' ∧ 0 < R u w ∧ t' + C (R u w) ≤ lim ∧ h = h' + R u w ∧ (t = t' + C (R u w) ∨ (dr w = true ∧ t = 0)) := by
  have := x (fun w t h k => Rch R C lim dr s t0 w t h k ∧ (0 < h → ∃ u t' h' k', u < 8 ∧ w < 8 ∧ Rch R C lim dr s t0 u t' h' k' ∧ 0 < R u w ∧ t' + C (R u w) ≤ lim ∧ h = h' + R u w ∧ (t = t' + C (R u w) ∨ (dr w = true ∧ t = 0)))) ⟨Rch.st, fun e => absurd e (Nat.lt_irrefl 0)⟩ ?_ ?_
  · exact this.2 hh
  · rintro w t h k ⟨a, b⟩ hd
    refine ⟨a.dk hd, fun e => ?_⟩
    obtain ⟨u, t', h', k', c1, c2, c3, c4, c5, c6, _⟩ := b e
    exact ⟨u, t', h', k', c1, c2, c3, c4, c5, c6, Or.inr ⟨hd, rfl⟩⟩
  · rintro w t h k v ⟨a, b⟩ hv hr hl
    exact ⟨a.go hv hr hl, fun _ => ⟨w, t, h, k, a.w8 hs8, hv, a, hr, hl, rfl, Or.inl rfl⟩⟩
theorem hr_i (h w : Nat) (hh : h < 10000) : (nI h - nI h / 21 * 21) * 8 + nI w = nI (8 * (h % 21) + w) := by
  rw [show (21 : Int32) = nI 21 from rfl, nz_rem (by omega) (by omega)]
  exact (owe_i _ _).1
def rI (R : Nat → Nat → Nat) (C : Nat → Nat) (lim : Nat) (dr : Nat → Bool) (s t0 h : Nat) (μ : jj_M) : Prop := ∀ j w, j < h → h ≤ j + 20 → w < 8 → ∃ x, μ 44 (8 * (j % 21) + w) = nI x ∧ Hok R C lim dr s t0 j w x
def hX (R : Nat → Nat → Nat) (μ : jj_M) (h v u : Nat) : Nat := (μ 44 (8 * ((h - R u v) % 21) + u)).toNatClampNeg
/-- the arrival at one well -/
theorem arr1_ok {N : Nat} {μ0 : jj_M} (hK : spK R C lim dr μ0) {h v : Nat} (hh : h < 10000) (hv : v < 8) (K : Int32 → jj_M → Option jj_M) {μ : jj_M} (e3 : μ 72 = μ0 72) (e41 : μ 41 = μ0 41) (e42 : μ 42 = μ0 42) (hX1 : ∀ u, u < 8 → 0 < R u v → R u v ≤ h → μ 44 (8 * ((h - R u v) % 21) + u) = nI (hX R μ h v u) ∧ hX R μ h v u ≤ 1000000) : ∀ (k i f b : Nat), i + k = 8 → k < f → b ≤ 1000000 → ∃ c, wyf_arriveAt_L14 N K (nI h) (nI v) μ f (nI b) (nI i) = wyf_arriveAt_B119 N K (nI h) (nI v) (nI (if c < 1000000 ∧ dr v = true then 0 else c)) μ ∧ c ≤ b ∧ (c = b ∨ ∃ u, u < 8 ∧ 0 < R u v ∧ R u v ≤ h ∧ hX R μ h v u + C (R u v) ≤ lim ∧ c = hX R μ h v u + C (R u v)) ∧ ∀ u, i ≤ u → u < 8 → 0 < R u v → R u v ≤ h → hX R μ h v u + C (R u v) ≤ lim → c ≤ hX R μ h v u + C (R u v) := by
  obtain ⟨K1, K2, K3, K4, K5⟩ := hK
  intro k
  induction k with
  | zero =>
    intro i f b hi hf hb
    obtain ⟨f, rfl⟩ : ∃ m, f = m + 1 := ⟨f - 1, by omega⟩
    have e : i = 8 := by omega
    subst e
    refine ⟨b, ?_, Nat.le_refl _, Or.inl rfl, fun u h1 h2 => by omega⟩
    have d1 : wyf_isIn (μ 41 0) (nI v) = if dr v = true then 1 else 0 := by rw [e41]; exact K5 v hv
    rw [wyf_arriveAt_L14, if_pos (by decide), d1]
    by_cases q : b < 1000000
    · rw [if_neg (by rw [show (1000000 : Int32) = nI 1000000 from rfl, nz_le (by omega) (by omega)]; omega)]
      by_cases d : dr v = true
      · rw [if_pos d, if_neg (show ¬ (1 : Int32) = 0 by decide), if_pos ⟨q, d⟩]; rfl
      · rw [if_neg d, if_pos rfl, if_neg (fun e => d e.2)]
    · rw [if_pos (by rw [show (1000000 : Int32) = nI 1000000 from rfl, nz_le (by omega) (by omega)]; omega), if_neg (fun e => q e.1)]
  | succ k ih =>
    intro i f b hi hf hb
    obtain ⟨f, rfl⟩ : ∃ m, f = m + 1 := ⟨f - 1, by omega⟩
    have c : ¬ (8 : Int32) ≤ nI i := by rw [show (8 : Int32) = nI 8 from rfl, nz_le (by omega) (by omega)]; omega
    have i1 : nI i * 8 + nI v = nI (8 * i + v) := (owe_i i v).1
    obtain ⟨r1, r2⟩ := K1 i v (by omega) hv
    have r1' : μ 72 (8 * i + v) = nI (R i v) := by rw [e3]; exact r1
    have g1 : jj_i (nI (8 * i + v)) 64 := nz_in (by omega) (by omega)
    have k1 : (nI (8 * i + v)).toNatClampNeg = 8 * i + v := nz_clamp (by omega)
    have skip : ¬ (0 < R i v ∧ R i v ≤ h ∧ hX R μ h v i + C (R i v) ≤ lim) → ∃ c, wyf_arriveAt_L14 N K (nI h) (nI v) μ f (nI b) (nI (i + 1)) = wyf_arriveAt_B119 N K (nI h) (nI v) (nI (if c < 1000000 ∧ dr v = true then 0 else c)) μ ∧ c ≤ b ∧ (c = b ∨ ∃ u, u < 8 ∧ 0 < R u v ∧ R u v ≤ h ∧ hX R μ h v u + C (R u v) ≤ lim ∧ c = hX R μ h v u + C (R u v)) ∧ ∀ u, i ≤ u → u < 8 → 0 < R u v → R u v ≤ h → hX R μ h v u + C (R u v) ≤ lim → c ≤ hX R μ h v u + C (R u v) := by
      intro hn
      obtain ⟨c, a1, a2, a3, a4⟩ := ih (i + 1) f b (by omega) (by omega) hb
      refine ⟨c, a1, a2, a3, fun u h1 h2 h3 h4 h5 => ?_⟩
      by_cases e : u = i
      · rw [e] at h3 h4 h5
        exact absurd ⟨h3, h4, h5⟩ hn
      · exact a4 u (by omega) h2 h3 h4 h5
    rw [wyf_arriveAt_L14, if_neg c, i1, if_pos g1]
    simp only [k1, r1', nz_s]
    by_cases q1 : R i v = 0
    · rw [q1, if_pos (by decide)]
      exact skip (fun e => by omega)
    rw [if_neg (by rw [show (0 : Int32) = nI 0 from rfl, nz_le (by omega) (by omega)]; omega)]
    by_cases q2 : R i v ≤ h
    rotate_left
    · rw [if_pos (by rw [nz_lt (by omega) (by omega)]; omega)]
      exact skip (fun e => q2 e.2.1)
    rw [if_neg (by rw [nz_lt (by omega) (by omega)]; omega), nz_sub q2, hr_i (h - R i v) i (by omega)]
    obtain ⟨x1, x2⟩ := hX1 i (by omega) (by omega) q2
    have g2 : jj_i (nI (8 * ((h - R i v) % 21) + i)) 168 := nz_in (by omega) (by omega)
    have k2 : (nI (8 * ((h - R i v) % 21) + i)).toNatClampNeg = 8 * ((h - R i v) % 21) + i := nz_clamp (by omega)
    have g3 : jj_i (nI (R i v)) 21 := nz_in (by omega) (by omega)
    have k3 : (nI (R i v)).toNatClampNeg = R i v := nz_clamp (by omega)
    obtain ⟨c1, c2⟩ := K2 (R i v) (by omega) r2
    have c1' : μ 42 (R i v) = nI (C (R i v)) := by rw [e42]; exact c1
    have l1 : μ 41 1 = nI lim := by rw [e41]; exact K3
    simp only [eq_true g2, eq_true g3, k2, k3, x1, c1', l1, nz_add, ↓reduceIte]
    by_cases q3 : hX R μ h v i + C (R i v) ≤ lim
    rotate_left
    · rw [if_pos (by rw [nz_lt (by omega) (by omega)]; omega)]
      exact skip (fun e => q3 e.2.2)
    rw [if_neg (by rw [nz_lt (by omega) (by omega)]; omega), min_nI (by omega) (by omega)]
    obtain ⟨c', a1, a2, a3, a4⟩ := ih (i + 1) f (min b (hX R μ h v i + C (R i v))) (by omega) (by omega) (by omega)
    refine ⟨c', a1, by omega, ?_, fun u h1 h2 h3 h4 h5 => ?_⟩
    · rcases a3 with e | e
      · by_cases z : b ≤ hX R μ h v i + C (R i v)
        · left; omega
        · right; exact ⟨i, by omega, by omega, q2, q3, by omega⟩
      · exact Or.inr e
    · by_cases e : u = i
      · rw [e]; omega
      · exact a4 u (by omega) h2 h3 h4 h5
/-- the arrivals in one hour -/
theorem arrive_ok {N : Nat} (hN : 10 < N) {μ0 : jj_M} (hK : spK R C lim dr μ0) (hlim : lim ≤ 36) (hs8 : s < 8) {h : Nat} (hh1 : 0 < h) (hh : h < 10000) : ∀ (k i f : Nat) (μ : jj_M), i + k = 8 → k < f → (∀ q, q ≠ 44 → q ≠ 43 → μ q = μ0 q) → rI R C lim dr s t0 h μ → (∀ w, w < i → ∃ x, μ 44 (8 * (h % 21) + w) = nI x ∧ Hok R C lim dr s t0 h w x) → ∃ m, wyf_arriveAt_L2 N (nI h) f (nI i) μ = some m ∧ (∀ q, q ≠ 44 → m q = μ q) ∧ rI R C lim dr s t0 (h + 1) m := by
  intro k
  induction k with
  | zero =>
    intro i f μ hi hf hμ hr hd
    obtain ⟨f, rfl⟩ : ∃ m, f = m + 1 := ⟨f - 1, by omega⟩
    have e : i = 8 := by omega
    subst e
    refine ⟨μ, by rw [wyf_arriveAt_L2, if_pos (by decide)], fun _ _ => rfl, fun j w h1 h2 hw => ?_⟩
    by_cases z : j = h
    · rw [z]; exact hd w hw
    · exact hr j w (by omega) (by omega) hw
  | succ k ih =>
    intro i f μ hi hf hμ hr hd
    obtain ⟨f, rfl⟩ : ∃ m, f = m + 1 := ⟨f - 1, by omega⟩
    have c : ¬ (8 : Int32) ≤ nI i := by rw [show (8 : Int32) = nI 8 from rfl, nz_le (by omega) (by omega)]; omega
    have hi8 : i < 8 := by omega
    have X : ∀ u, u < 8 → 0 < R u i → R u i ≤ h → μ 44 (8 * ((h - R u i) % 21) + u) = nI (hX R μ h i u) ∧ hX R μ h i u ≤ 1000000 ∧ Hok R C lim dr s t0 (h - R u i) u (hX R μ h i u) := by
      intro u hu hr1 hr2
      have r20 := (hK.1 u i hu hi8).2
      obtain ⟨x, x1, x2⟩ := hr (h - R u i) u (by omega) (by omega) hu
      have e : hX R μ h i u = x := by
        unfold hX
        rw [x1, nz_clamp (by have := x2.1; omega)]
      rw [e]
      exact ⟨x1, x2.1, x2⟩
    obtain ⟨b, a1, a2, a3, a4⟩ := arr1_ok (N := N) hK hh hi8 (wyf_arriveAt_L2 N (nI h) f) (hμ 72 (by decide) (by decide)) (hμ 41 (by decide) (by decide)) (hμ 42 (by decide) (by decide)) (fun u h1 h2 h3 => ⟨(X u h1 h2 h3).1, (X u h1 h2 h3).2.1⟩) 8 0 N 1000000 (by omega) (by omega) (Nat.le_refl _)
    have a1 : wyf_arriveAt_L14 N (wyf_arriveAt_L2 N (nI h) f) (nI h) (nI i) μ N 1000000 0 = _ := a1
    obtain ⟨y, hy⟩ : ∃ y, y = if b < 1000000 ∧ dr i = true then 0 else b := ⟨_, rfl⟩
    rw [← hy] at a1
    have ok : Hok R C lim dr s t0 h i y := by
      refine ⟨by rw [hy]; split <;> omega, fun hl => ?_, fun t k x => ?_⟩
      · have bl : b < 1000000 := by
          rw [hy] at hl
          by_cases z : b < 1000000 ∧ dr i = true
          · exact z.1
          · rw [if_neg z] at hl; exact hl
        rcases a3 with e | ⟨u, u1, u2, u3, u4, u5⟩
        · omega
        · obtain ⟨_, _, _, H2, _⟩ := X u u1 u2 u3
          obtain ⟨k, x⟩ := H2 (by omega)
          have x2 := x.go hi8 u2 u4
          rw [← u5, show h - R u i + R u i = h by omega] at x2
          rw [hy]
          by_cases z : b < 1000000 ∧ dr i = true
          · rw [if_pos z]; exact ⟨_, x2.dk z.2⟩
          · rw [if_neg z]; exact ⟨_, x2⟩
      · obtain ⟨u, t', h', k', u1, u2, u3, u4, u5, u6, u7⟩ := x.last hs8 hh1
        have H3 := (X u u1 u4 (by omega)).2.2.2.2
        have e : h - R u i = h' := by omega
        rw [e] at H3
        have le := H3 t' k' u3
        have lb := a4 u (by omega) u1 u4 (by omega) (by omega)
        rw [hy]
        rcases u7 with z | ⟨z1, z2⟩
        · split <;> omega
        · rw [if_pos ⟨by omega, z1⟩]
          omega
    have g : jj_i (nI (8 * (h % 21) + i)) 168 := nz_in (by omega) (by omega)
    have kg : (nI (8 * (h % 21) + i)).toNatClampNeg = 8 * (h % 21) + i := nz_clamp (by omega)
    obtain ⟨m, m1, m2, m3⟩ := ih (i + 1) f (jj_u μ 44 (8 * (h % 21) + i) (nI y)) (by omega) (by omega) (fun q h1 h2 => by rw [ju_ne h1]; exact hμ q h1 h2) (fun j w h1 h2 hw => by
      rw [ju_other (by omega)]
      exact hr j w h1 h2 hw) (fun w hw => by
      by_cases z : w = i
      · rw [z, ju_self]; exact ⟨y, rfl, ok⟩
      · rw [ju_other (by omega)]
        exact hd w (by omega))
    refine ⟨m, ?_, fun q hq => by rw [m2 q hq, ju_ne hq], m3⟩
    rw [wyf_arriveAt_L2, if_neg c, a1]
    unfold wyf_arriveAt_B119
    rw [hr_i h i hh, if_pos g]
    simp only [kg, nz_s]
    exact m1
/-- the hours, one by one -/
theorem soon_L {N : Nat} (hN : 10 < N) {μ0 : jj_M} (hK : spK R C lim dr μ0) (hlim : lim ≤ 36) (ht0 : t0 ≤ 36) (hs8 : s < 8) {v hs : Nat} (hv : v < 8) (hhs : hs ≤ 1600) (hex : ∃ t k, Rch R C lim dr s t0 v t hs k) : ∀ (k i f : Nat) (μ : jj_M), i + k = hs → k + 1 < f → (∀ q, q ≠ 44 → q ≠ 43 → μ q = μ0 q) → (∀ j, j < i → ¬ ∃ t k, Rch R C lim dr s t0 v t j k) → (if i = 0 then (∀ w, w < 8 → ∃ x, μ 44 (8 * (0 % 21) + w) = nI x ∧ Hok R C lim dr s t0 0 w x) else rI R C lim dr s t0 i μ) → ∃ h0 m, wyf_soonestHours_L49 N (nI v) f (nI i) μ = some (nI h0, m) ∧ h0 ≤ 1600 ∧ (∀ q, q ≠ 44 → m q = μ q) ∧ (∃ t k, Rch R C lim dr s t0 v t h0 k) ∧ ∀ j, j < h0 → ¬ ∃ t k, Rch R C lim dr s t0 v t j k := by
  intro k
  induction k with
  | zero =>
    intro i f μ hi hf hμ hno hr
    obtain ⟨f, rfl⟩ : ∃ m, f = m + 1 := ⟨f - 1, by omega⟩
    have e : i = hs := by omega
    have c : ¬ (1600 : Int32) < nI i := by rw [show (1600 : Int32) = nI 1600 from rfl, nz_lt (by omega) (by omega)]; omega
    have st : ∀ m : jj_M, (∃ x, m 44 (8 * (i % 21) + v) = nI x ∧ Hok R C lim dr s t0 i v x) → wyf_soonestHours_B65 N (wyf_soonestHours_L49 N (nI v) f) (nI v) (nI i) m = some (nI i, m) := by
      rintro m ⟨x, x1, x2, x3, x4⟩
      obtain ⟨t, k, y⟩ := hex
      have := y.t36 ht0 hlim
      rw [← e] at y
      have := x4 t k y
      have g : jj_i (nI (8 * (i % 21) + v)) 168 := nz_in (by omega) (by omega)
      have kg : (nI (8 * (i % 21) + v)).toNatClampNeg = 8 * (i % 21) + v := nz_clamp (by omega)
      unfold wyf_soonestHours_B65
      rw [hr_i i v (by omega), if_pos g]
      simp only [kg, x1]
      rw [if_neg (by rw [show (1000000 : Int32) = nI 1000000 from rfl, nz_le (by omega) (by omega)]; omega)]
    rw [wyf_soonestHours_L49, if_neg c]
    by_cases z : i = 0
    · rw [if_pos z] at hr
      rw [if_pos (by rw [z]; decide), st μ (by rw [z]; exact hr v hv)]
      exact ⟨i, μ, rfl, by omega, fun _ _ => rfl, by rw [e]; exact hex, hno⟩
    · rw [if_neg z] at hr
      obtain ⟨m, m1, m2, m3⟩ := arrive_ok (N := N) hN hK hlim hs8 (h := i) (by omega) (by omega) 8 0 N μ (by omega) (by omega) hμ hr (fun w hw => by omega)
      have m1 : wyf_arriveAt N (nI i) μ = some m := m1
      rw [if_neg (by rw [show (0 : Int32) = nI 0 from rfl, nz_le (by omega) (by omega)]; omega), m1, Option.bind_some, st m (m3 i v (by omega) (by omega) hv)]
      exact ⟨i, m, rfl, by omega, m2, by rw [e]; exact hex, hno⟩
  | succ k ih =>
    intro i f μ hi hf hμ hno hr
    obtain ⟨f, rfl⟩ : ∃ m, f = m + 1 := ⟨f - 1, by omega⟩
    have c : ¬ (1600 : Int32) < nI i := by rw [show (1600 : Int32) = nI 1600 from rfl, nz_lt (by omega) (by omega)]; omega
    have st : ∀ m : jj_M, (∀ q, q ≠ 44 → m q = μ q) → rI R C lim dr s t0 (i + 1) m → ∃ h0 m', wyf_soonestHours_B65 N (wyf_soonestHours_L49 N (nI v) f) (nI v) (nI i) m = some (nI h0, m') ∧ h0 ≤ 1600 ∧ (∀ q, q ≠ 44 → m' q = μ q) ∧ (∃ t k, Rch R C lim dr s t0 v t h0 k) ∧ ∀ j, j < h0 → ¬ ∃ t k, Rch R C lim dr s t0 v t j k := by
      intro m hm hm2
      obtain ⟨x, x1, x2, x3, x4⟩ := hm2 i v (by omega) (by omega) hv
      have g : jj_i (nI (8 * (i % 21) + v)) 168 := nz_in (by omega) (by omega)
      have kg : (nI (8 * (i % 21) + v)).toNatClampNeg = 8 * (i % 21) + v := nz_clamp (by omega)
      unfold wyf_soonestHours_B65
      rw [hr_i i v (by omega), if_pos g]
      simp only [kg, x1, nz_s]
      by_cases q : x < 1000000
      · rw [if_neg (by rw [show (1000000 : Int32) = nI 1000000 from rfl, nz_le (by omega) (by omega)]; omega)]
        obtain ⟨k, y⟩ := x3 q
        exact ⟨i, m, rfl, by omega, hm, ⟨x, k, y⟩, hno⟩
      · rw [if_pos (by rw [show (1000000 : Int32) = nI 1000000 from rfl, nz_le (by omega) (by omega)]; omega)]
        obtain ⟨h0, m', b1, b2, b3, b4⟩ := ih (i + 1) f m (by omega) (by omega) (fun q h1 h2 => by rw [hm q h1]; exact hμ q h1 h2) (fun j hj => by
          by_cases z : j = i
          · rw [z]
            rintro ⟨t, k, y⟩
            have := x4 t k y
            have := y.t36 ht0 hlim
            omega
          · exact hno j (by omega)) (by rw [if_neg (by omega)]; exact hm2)
        exact ⟨h0, m', b1, b2, fun q hq => by rw [b3 q hq, hm q hq], b4⟩
    rw [wyf_soonestHours_L49, if_neg c]
    by_cases z : i = 0
    · rw [if_pos z] at hr
      rw [if_pos (by rw [z]; decide)]
      refine st μ (fun _ _ => rfl) (fun j w h1 h2 hw => ?_)
      have : j = 0 := by omega
      rw [this]
      exact hr w hw
    · rw [if_neg z] at hr
      obtain ⟨m, m1, m2, m3⟩ := arrive_ok (N := N) hN hK hlim hs8 (h := i) (by omega) (by omega) 8 0 N μ (by omega) (by omega) hμ hr (fun w hw => by omega)
      have m1 : wyf_arriveAt N (nI i) μ = some m := m1
      rw [if_neg (by rw [show (0 : Int32) = nI 0 from rfl, nz_le (by omega) (by omega)]; omega), m1, Option.bind_some]
      exact st m m2 m3
end
