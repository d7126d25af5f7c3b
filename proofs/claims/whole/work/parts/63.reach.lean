/-! ===== reach, dry ===== -/
theorem mkL.eq {x y : Int32} {l l' : List Nat} (h1 : mkL x l) (h2 : mkL y l') (h : ∀ w, w < 8 → (w ∈ l ↔ w ∈ l')) : x = y := by
  obtain ⟨M1, a1, rfl, a3⟩ := h1
  obtain ⟨M2, b1, rfl, b3⟩ := h2
  congr 1
  apply Nat.eq_of_testBit_eq
  intro i
  by_cases q : i < 8
  · have := (a3 i q).trans ((h i q).trans (b3 i q).symm)
    cases z1 : M1.testBit i <;> cases z2 : M2.testBit i <;> rw [z1, z2] at this
    · exact absurd (this.mpr rfl) (by decide)
    · exact absurd (this.mp rfl) (by decide)
  · have e : 256 ≤ 2 ^ i := by
      have : 2 ^ 8 ≤ 2 ^ i := Nat.pow_le_pow_right (by decide) (by omega)
      exact this
    rw [Nat.testBit_lt_two_pow (by omega), Nat.testBit_lt_two_pow (by omega)]
theorem bk3 : ∀ M, M < 256 → nI M &&& 255 = nI M := by decide +kernel
theorem bk4 : ∀ M, M < 256 → ∀ v, v < 8 → nI M &&& (((1 : Int32) <<< (nI v &&& 31)) ^^^ (-1)) = nI (M &&& (255 - 2 ^ v)) := by decide +kernel
theorem bk5 : ∀ v, v < 8 → ∀ w, w < 8 → (255 - 2 ^ v).testBit w = !decide (w = v) := by decide +kernel
theorem mkL.del {x : Int32} {l : List Nat} (h : mkL x l) {v : Nat} (hv : v < 8) : ∃ l', mkL (x &&& (((1 : Int32) <<< (nI v &&& 31)) ^^^ (-1))) l' ∧ ∀ w, w < 8 → (w ∈ l' ↔ w ∈ l ∧ ¬ w = v) := by
  obtain ⟨M, hM, rfl, hb⟩ := h
  have key : ∀ w, w < 8 → ((M &&& (255 - 2 ^ v)).testBit w = true ↔ w ∈ (List.range 8).filter (fun w => (M &&& (255 - 2 ^ v)).testBit w)) := fun w hw => by
    rw [List.mem_filter, List.mem_range]
    exact ⟨fun e => ⟨hw, e⟩, fun e => e.2⟩
  refine ⟨(List.range 8).filter (fun w => (M &&& (255 - 2 ^ v)).testBit w), ⟨M &&& (255 - 2 ^ v), Nat.lt_of_le_of_lt Nat.and_le_left hM, bk4 M hM v hv, key⟩, fun w hw => ?_⟩
  rw [← key w hw, Nat.testBit_and, Bool.and_eq_true, bk5 v hv w hw, hb w hw]
  constructor
  · rintro ⟨a, b⟩
    refine ⟨a, fun e => ?_⟩
    rw [decide_eq_true e] at b
    cases b
  · rintro ⟨a, b⟩
    exact ⟨a, by rw [decide_eq_false b]; rfl⟩
theorem rL12_ok (N : Nat) {ν : jj_M} {Pr : Nat → Prop} (hP : ∀ w, w < 8 → ∃ m, mdf_leastAt N (nI w) ν = some (nI m) ∧ m ≤ 1000000 ∧ (m < 1000000 ↔ Pr w)) : ∀ (k i f : Nat) (x : Int32) (l : List Nat), i + k = 8 → k < f → mkL x l → (∀ w, w ∈ l ↔ w < i ∧ Pr w) → ∃ r l', mdf_reached_L12 N ν f x (nI i) = some (r, ν) ∧ mkL r l' ∧ ∀ w, w ∈ l' ↔ w < 8 ∧ Pr w := by
  intro k
  induction k with
  | zero =>
    intro i f x l hi hf hx hl
    obtain ⟨f, rfl⟩ : ∃ m, f = m + 1 := ⟨f - 1, by omega⟩
    have e : i = 8 := by omega
    subst e
    exact ⟨x, l, by rw [mdf_reached_L12, if_pos (by decide)], hx, hl⟩
  | succ k ih =>
    intro i f x l hi hf hx hl
    obtain ⟨f, rfl⟩ : ∃ m, f = m + 1 := ⟨f - 1, by omega⟩
    have c : ¬ (8 : Int32) ≤ nI i := by rw [show (8 : Int32) = nI 8 from rfl, nz_le (by omega) (by omega)]; omega
    obtain ⟨m, m1, m2, m3⟩ := hP i (by omega)
    rw [mdf_reached_L12, if_neg c, m1, Option.bind_some, nz_s]
    by_cases q : m < 1000000
    · rw [if_neg (by rw [show (1000000 : Int32) = nI 1000000 from rfl, nz_le (by omega) (by omega)]; omega)]
      refine ih (i + 1) f _ (i :: l) (by omega) (by omega) (hx.add (by omega)) (fun w => ?_)
      rw [List.mem_cons, hl w]
      constructor
      · rintro (a | ⟨a, b⟩)
        · rw [a]; exact ⟨by omega, m3.mp q⟩
        · exact ⟨by omega, b⟩
      · rintro ⟨a, b⟩
        by_cases z : w = i
        · exact Or.inl z
        · exact Or.inr ⟨by omega, b⟩
    · rw [if_pos (by rw [show (1000000 : Int32) = nI 1000000 from rfl, nz_le (by omega) (by omega)]; omega), Int32.or_zero]
      refine ih (i + 1) f x l (by omega) (by omega) hx (fun w => ?_)
      rw [hl w]
      constructor
      · rintro ⟨a, b⟩; exact ⟨by omega, b⟩
      · rintro ⟨a, b⟩
        refine ⟨?_, b⟩
        have : w ≠ i := fun e => q (m3.mpr (by rw [← e]; exact b))
        omega
abbrev RP (S : Nat → Int32) (p : Nat) (bar : Int32) (w : Nat) : Prop := ∃ t h k, RS S p bar w t h k
theorem mreached_ok {μ : jj_M} (h : jI μ) {n p : Nat} (hn : n ≤ 6) (en : μ 61 139 = nI n) (hpn : p < n) (d0 : μ 61 (140 + 6 * p + 5) = 0) (bar : Int32) {ν : jj_M} (eν : ν 61 = μ 61) : ∃ r Z l, mdf_reached jz_N (nI p) bar ν = some (r, Z) ∧ thB ν Z ∧ mkL r l ∧ ∀ w, w ∈ l ↔ w < 8 ∧ RP (μ 61) p bar w := by
  have big := jz_ge
  have P := h.per hn en hpn
  obtain ⟨s8, t36, es, et⟩ := per_st P d0
  obtain ⟨Z, z1, z2, z3⟩ := table_ok h hn en hpn d0 (x := 1) (by omega) bar eν
  have z1 : mdf_spreads jz_N (nI p) bar 1 ν = some Z := z1
  obtain ⟨r, l, r1, r2, r3⟩ := rL12_ok jz_N (ν := Z) (Pr := RP (μ 61) p bar) (fun w hw => by
    obtain ⟨m, m1, m2, m3, m4⟩ := z3 w hw
    refine ⟨m, m1, m2, fun e => ?_, fun e => ?_⟩
    · obtain ⟨t, hh, k, y, _⟩ := m3 e
      exact ⟨t, hh, k, y⟩
    · obtain ⟨t, hh, k, y⟩ := e
      obtain ⟨t', h', k', y', b1, _, _⟩ := y.short (fun u w hu hw => (wRd_ok h hu hw).2.2) s8
      have := m4 t' h' k' y'
      unfold ms at this
      rw [if_pos rfl] at this
      omega) 8 0 jz_N 0 [] (by omega) (by omega) mkL0 (fun w => ⟨fun e => (by cases e), fun e => by omega⟩)
  refine ⟨r, Z, l, ?_, z2, r2, r3⟩
  unfold mdf_reached
  rw [z1, Option.bind_some]
  exact r1
theorem rL52_ok {μ : jj_M} (h : jI μ) {p : Nat} (hp : p < 6) (bar : Int32) {ν : jj_M} (eν : ν 61 = μ 61) : ∀ (k i f : Nat) (x : Int32) (l : List Nat) (ν1 : jj_M), i + k = 8 → k < f → mkL x l → thB ν ν1 → ∃ r Z l', mdf_reach_L52 jz_N (nI p) bar 1 f x (nI i) ν1 = some (r, Z) ∧ thB ν Z ∧ mkL r l' ∧ ∀ w, w < 8 → (w ∈ l' ↔ w ∈ l ∧ (i ≤ w → wDr (μ 61) p bar w = true)) := by
  intro k
  induction k with
  | zero =>
    intro i f x l ν1 hi hf hx hν
    obtain ⟨f, rfl⟩ : ∃ m, f = m + 1 := ⟨f - 1, by omega⟩
    have e : i = 8 := by omega
    subst e
    exact ⟨x, ν1, l, by rw [mdf_reach_L52, if_pos (by decide)], hν, hx, fun w hw => ⟨fun e => ⟨e, fun z => by omega⟩, fun e => e.1⟩⟩
  | succ k ih =>
    intro i f x l ν1 hi hf hx hν
    obtain ⟨f, rfl⟩ : ∃ m, f = m + 1 := ⟨f - 1, by omega⟩
    have c : ¬ (8 : Int32) ≤ nI i := by rw [show (8 : Int32) = nI 8 from rfl, nz_le (by omega) (by omega)]; omega
    obtain ⟨m, m1, m2⟩ := may_m h (μ0 := ν) eν (p := p) (w := i) hp (by omega) bar hν
    rw [eν] at m1
    rw [mdf_reach_L52, if_neg c, if_pos rfl, m1, Option.bind_some]
    simp only []
    rw [nz_s]
    by_cases d : wDr (μ 61) p bar i = true
    · rw [if_pos d, if_neg (show ¬ (1 : Int32) = 0 by decide)]
      have e255 : x &&& 255 = x := by
        obtain ⟨M, hM, rfl, _⟩ := hx
        exact bk3 M hM
      rw [e255]
      obtain ⟨r, Z, l', a1, a2, a3, a4⟩ := ih (i + 1) f x l m (by omega) (by omega) hx (hν.r6 m2)
      refine ⟨r, Z, l', a1, a2, a3, fun w hw => (a4 w hw).trans ⟨fun e => ⟨e.1, fun z => ?_⟩, fun e => ⟨e.1, fun z => e.2 (by omega)⟩⟩⟩
      by_cases y : w = i
      · rw [y]; exact d
      · exact e.2 (by omega)
    · rw [if_neg d, if_pos rfl]
      obtain ⟨l1, b1, b2⟩ := hx.del (v := i) (by omega)
      obtain ⟨r, Z, l', a1, a2, a3, a4⟩ := ih (i + 1) f _ l1 m (by omega) (by omega) b1 (hν.r6 m2)
      refine ⟨r, Z, l', a1, a2, a3, fun w hw => ?_⟩
      rw [a4 w hw, b2 w hw]
      constructor
      · rintro ⟨⟨e1, e2⟩, e3⟩
        exact ⟨e1, fun z => e3 (by omega)⟩
      · rintro ⟨e1, e2⟩
        have ne : ¬ w = i := fun y => d (by have := e2 (by omega); rwa [y] at this)
        exact ⟨⟨e1, ne⟩, fun z => e2 (by omega)⟩
/-- the class's set of those one can reach -/
theorem creached_ok {μ : jj_M} (h : jI μ) {n p : Nat} (hn : n ≤ 6) (en : μ 61 139 = nI n) (hp : p < n) (d : μ 61 (140 + 6 * p + 5) = 0) (bar : Int32) {M : jj_M} (k2 : thT μ M) (k3 : thK (μ 61) p bar M) (k9 : ∀ w, w < 8 → M 43 w = nI (wL0 (μ 61) p w) ∧ wL0 (μ 61) p w ≤ 1000000) : ∃ r m l, wyf_reached jz_N M = some (r, m) ∧ (∀ k, k ≠ 43 → m k = M k) ∧ mkL r l ∧ ∀ w, w < 8 → (w ∈ l ↔ RP (μ 61) p bar w) := by
  have big := jz_ge
  have P := h.per hn en hp
  obtain ⟨s8, t36, es, et⟩ := per_st P d
  obtain ⟨_, l36⟩ := wLim_ok P
  refine reached_ok (N := jz_N) (by omega) k3.1 l36 t36 s8 (L := wL0 (μ 61) p) (μ := M) ⟨fun _ _ => rfl, k9⟩ (fun w hw hl => ?_) ?_
  · unfold wL0 at hl ⊢
    by_cases q : w = (μ 61 (140 + 6 * p + 2)).toNatClampNeg
    · rw [if_pos q, q]
      exact ⟨t36, 0, 0, Rch.st⟩
    · rw [if_neg q] at hl; omega
  · unfold wL0
    rw [if_pos rfl]
    exact Nat.le_refl _
theorem st_reach {μ : jj_M} (h : jI μ) (x1 x2 x3 : Int32) : ∃ (r : Int32) (μ1 : jj_M) (μ2 : jj_M), wnf_reach jz_N x1 x2 x3 μ = some (r, μ1) ∧ mdf_reach jz_N x1 x2 x3 μ1 = some (r, μ2) ∧ jI μ2 := by
  have big := jz_ge
  obtain ⟨n, hn, en, en1⟩ := h.n
  obtain ⟨m1, m2, a, b, c⟩ := err1 h
  have e61 : m1 61 = μ 61 := err_61 (e := 1) (by omega) a 61 (by decide)
  have ip : ∀ m : jj_M, m 61 = μ 61 → mdf_isPerson x1 m = wnf_isPerson x1 μ := fun m e => isPer_ok hn en1 (by rw [e]; exact en) x1
  unfold wnf_reach mdf_reach
  rw [nz_isSet, show mdf_in (Int32.toInt64 x3) 0 1 = wnf_within x3 0 1 from nz_within x3 0 1]
  have bad : wnf_isPerson x1 μ = 0 ∨ wnf_areWells x2 = 0 ∨ wnf_within x3 0 1 = 0 → (if wnf_areWells x2 = 0 then mdf_reach_B24 jz_N x1 x2 x3 x1 0 m1 else if wnf_within x3 0 1 = 0 then mdf_reach_B24 jz_N x1 x2 x3 x1 0 m1 else mdf_reach_B24 jz_N x1 x2 x3 x1 1 m1) = some (-1000000001, m2) := by
    intro hb
    have z : ∀ s2 : Int32, (wnf_isPerson x1 μ = 0 ∨ s2 = 0) → mdf_reach_B24 jz_N x1 x2 x3 x1 s2 m1 = some (-1000000001, m2) := by
      intro s2 hs
      unfold mdf_reach_B24
      rw [wrongWay_1 (by rw [ip m1 e61]; exact hs), Option.bind_some, if_neg (by decide), b]; rfl
    by_cases q2 : wnf_areWells x2 = 0
    · rw [if_pos q2]; exact z 0 (Or.inr rfl)
    · rw [if_neg q2]
      by_cases q3 : wnf_within x3 0 1 = 0
      · rw [if_pos q3]; exact z 0 (Or.inr rfl)
      · rw [if_neg q3]; exact z 1 (Or.inl (hb.resolve_right (fun e => e.elim q2 q3)))
  by_cases c1 : wnf_isPerson x1 μ = 0
  · exact ⟨-1000000001, m1, m2, by simp only [c1, a, ↓reduceIte, Option.bind_some], bad (Or.inl c1), c⟩
  by_cases c2 : wnf_areWells x2 = 0
  · exact ⟨-1000000001, m1, m2, by simp only [c1, c2, a, ↓reduceIte, Option.bind_some], bad (Or.inr (Or.inl c2)), c⟩
  by_cases c3 : wnf_within x3 0 1 = 0
  · exact ⟨-1000000001, m1, m2, by simp only [c1, c2, c3, a, ↓reduceIte, Option.bind_some], bad (Or.inr (Or.inr c3)), c⟩
  obtain ⟨p, hp, rfl⟩ := nz_per hn en1 c1
  obtain ⟨y, hy, rfl⟩ : ∃ y, y < 2 ∧ x3 = nI y := by
    have hb := w_b c3
    have z0 : (0 : Int32).toInt = 0 := by decide
    have z1 : (1 : Int32).toInt = 1 := by decide
    exact nz_ofb (by omega) (by omega)
  have P := h.per hn en hp
  have g : jj_i (nI p) 6 := nz_in (by omega) (by omega)
  have kp : (nI p).toNatClampNeg = p := nz_clamp (by omega)
  have d9 : 5 + 4 + p = 9 + p := by omega
  have a5' := h.pag hn en hp (j := 5) (by omega)
  have W : ∀ m : jj_M, m 61 = μ 61 → mdf_wrongWay (nI p) 1 m = if μ 61 (140 + 6 * p + 5) = 1 then some (-1000000003) else some 0 := fun m e => by
    rw [wrongWay_ok (p := p) (by omega) rfl (by rw [ip m e]; exact c1) (by decide), e]
  rw [if_neg c1, if_neg c2, if_neg c3, if_pos g]
  simp only [kp, d9, a5']
  rcases P.dead with d | d
  rotate_left
  · obtain ⟨m3, m4, a3, b3, c3'⟩ := err3 h
    have f61 : m3 61 = μ 61 := err_61 (e := 3) (by omega) a3 61 (by decide)
    refine ⟨-1000000003, m3, m4, ?_, ?_, c3'⟩
    · rw [if_neg (by rw [d]; decide), a3]; rfl
    · rw [if_neg c2, if_neg c3]
      unfold mdf_reach_B24
      rw [W m3 f61, if_pos d, Option.bind_some, if_neg (by decide), b3]; rfl
  have n1 : ¬ μ 61 (140 + 6 * p + 5) = 1 := by rw [d]; decide
  rw [if_pos d]
  obtain ⟨M, k1, k2, k3, k6, k7, k8, k9⟩ := think_ok h hn en hp d x2
  obtain ⟨r, A, l, r1, r2, r3, r4⟩ := creached_ok h hn en hp d x2 k2 k3 k9
  have C2 : thT μ A := fun k h1 h2 h3 h4 h5 h6 h7 => by rw [r2 k h5]; exact k2 k h1 h2 h3 h4 h5 h6 h7
  have IA := C2.th.I h
  have A61 : A 61 = μ 61 := C2.th.r61
  obtain ⟨r', Z, l', s1, s2, s3, s4⟩ := mreached_ok h hn en hp d x2 A61
  have er : r = r' := r3.eq s3 (fun w hw => by rw [r4 w hw, s4 w]; exact ⟨fun e => ⟨hw, e⟩, fun e => e.2⟩)
  subst er
  rw [k1, Option.bind_some, r1, Option.bind_some]
  have B : ∀ m : jj_M, m 61 = μ 61 → (if wnf_areWells x2 = 0 then mdf_reach_B24 jz_N (nI p) x2 (nI y) (nI p) 0 m else if wnf_within (nI y) 0 1 = 0 then mdf_reach_B24 jz_N (nI p) x2 (nI y) (nI p) 0 m else mdf_reach_B24 jz_N (nI p) x2 (nI y) (nI p) 1 m) = (mdf_reached jz_N (nI p) x2 m).bind fun q3 => mdf_reach_L52 jz_N (nI p) x2 (nI y) jz_N q3.1 0 q3.2 := fun m e => by
    rw [if_neg c2, if_neg c3]
    unfold mdf_reach_B24
    rw [W m e, if_neg n1, Option.bind_some, if_pos rfl]
  rcases (by omega : y = 0 ∨ y = 1) with rfl | rfl
  · refine ⟨r, A, Z, by rw [if_pos (show nI 0 = 0 from rfl)], ?_, s2.th0.I IA⟩
    rw [B A A61, s1, Option.bind_some]
    have gen : ∀ F : Nat, mdf_reach_L52 jz_N (nI p) x2 (nI 0) (F + 1) r 0 Z = some (r, Z) := fun F => by
      rw [mdf_reach_L52, if_neg (by decide), if_neg (by decide)]
    obtain ⟨F, eF⟩ : ∃ F, jz_N = F + 1 := ⟨jz_N - 1, by omega⟩
    have := gen F
    rwa [← eF] at this
  · obtain ⟨lm, q1, q2⟩ := k3.2
    have A41 : A 41 = M 41 := r2 41 (by decide)
    obtain ⟨la, t1, t2⟩ := r3.and (y := A 41 0) (l2 := lm) (by rw [A41]; exact q1)
    obtain ⟨r2', Z2, l2, u1, u2, u3, u4⟩ := rL52_ok h (p := p) (by omega) x2 A61 8 0 jz_N r l' Z (by omega) (by omega) s3 s2
    have er2 : r &&& A 41 0 = r2' := t1.eq u3 (fun w hw => by
      rw [t2 w hw, u4 w hw, r4 w hw, q2 w, s4 w]
      exact ⟨fun e => ⟨⟨hw, e.1⟩, fun _ => e.2.2⟩, fun e => ⟨e.1.2, hw, e.2 (by omega)⟩⟩)
    have u1 : mdf_reach_L52 jz_N (nI p) x2 (nI 1) jz_N r 0 Z = some (r2', Z2) := u1
    refine ⟨r &&& A 41 0, A, Z2, by rw [if_neg (show ¬ nI 1 = 0 by decide)], ?_, u2.th0.I IA⟩
    rw [B A A61, s1, Option.bind_some, er2]
    exact u1
/-! dry -/
theorem rset_ex (P : Nat → Prop) : ∃ (x : Int32) (l : List Nat), mkL x l ∧ ∀ w, w < 8 → (w ∈ l ↔ P w) := by
  have key : ∀ n, n ≤ 8 → ∃ (x : Int32) (l : List Nat), mkL x l ∧ ∀ w, w ∈ l ↔ w < n ∧ P w := by
    intro n
    induction n with
    | zero => intro _; exact ⟨0, [], mkL0, fun w => ⟨fun e => (by cases e), fun e => by omega⟩⟩
    | succ n ih =>
      intro hn
      obtain ⟨x, l, h1, h2⟩ := ih (by omega)
      by_cases q : P n
      · refine ⟨_, n :: l, h1.add (v := n) (by omega), fun w => ?_⟩
        rw [List.mem_cons, h2 w]
        constructor
        · rintro (a | ⟨a, b⟩)
          · rw [a]; exact ⟨by omega, q⟩
          · exact ⟨by omega, b⟩
        · rintro ⟨a, b⟩
          by_cases z : w = n
          · exact Or.inl z
          · exact Or.inr ⟨by omega, b⟩
      · refine ⟨x, l, h1, fun w => ?_⟩
        rw [h2 w]
        constructor
        · rintro ⟨a, b⟩; exact ⟨by omega, b⟩
        · rintro ⟨a, b⟩
          refine ⟨?_, b⟩
          have : w ≠ n := fun e => q (by rw [← e]; exact b)
          omega
  obtain ⟨x, l, h1, h2⟩ := key 8 (by omega)
  exact ⟨x, l, h1, fun w hw => by rw [h2 w]; exact ⟨fun e => e.2, fun e => ⟨hw, e⟩⟩⟩
noncomputable def rset (P : Nat → Prop) : Int32 := Classical.choose (rset_ex P)
theorem rset_eq {P : Nat → Prop} {x : Int32} {l : List Nat} (h : mkL x l) (hl : ∀ w, w < 8 → (w ∈ l ↔ P w)) : x = rset P := by
  obtain ⟨l', h1, h2⟩ := Classical.choose_spec (rset_ex P)
  exact h.eq h1 (fun w hw => (hl w hw).trans (h2 w hw).symm)
/-- whom one can reach without a well -/
noncomputable def dryG (S : Nat → Int32) (p w : Nat) : Int32 := jdf_bitCount (rset (RP S p ((1 : Int32) <<< (nI w &&& 31))) &&& (((1 : Int32) <<< (nI w &&& 31)) ^^^ (-1)))
def dryF (G : Nat → Int32) : Nat → Nat → Int32 → Int32 → Int32 × Int32
  | 0, _, a, b => (a, b)
  | k + 1, i, a, b => if b ≤ G i then dryF G k (i + 1) a b else dryF G k (i + 1) (nI i) (G i)
theorem dry_c {μ : jj_M} (h : jI μ) {n p : Nat} (hn : n ≤ 6) (en : μ 61 139 = nI n) (hp : p < n) (d : μ 61 (140 + 6 * p + 5) = 0) (x2 : Int32) : ∀ (k i f : Nat) (a b : Int32) (M : jj_M), i + k = 8 → k < f → thT μ M → M 41 1 = limv (μ 61) p → enW μ p M → (∀ l, 1 ≤ l → l < 21 → M 42 l = nI (wC (μ 61) p l)) → ∃ A, wnf_dry_L69 jz_N x2 (9 + p) f a b (nI i) M = some ((if x2 = 0 then (dryF (dryG (μ 61) p) k i a b).1 else (dryF (dryG (μ 61) p) k i a b).2), A) ∧ thT μ A := by
  intro k
  induction k with
  | zero =>
    intro i f a b M hi hf hM _ _ _
    obtain ⟨f, rfl⟩ : ∃ m, f = m + 1 := ⟨f - 1, by omega⟩
    have e : i = 8 := by omega
    subst e
    refine ⟨M, ?_, hM⟩
    rw [wnf_dry_L69, if_pos (by decide), dryF]
    by_cases q : x2 = 0
    · rw [if_pos q, if_pos q]
    · rw [if_neg q, if_neg q]
  | succ k ih =>
    intro i f a b M hi hf hM h1 h2 h3
    obtain ⟨f, rfl⟩ : ∃ m, f = m + 1 := ⟨f - 1, by omega⟩
    have c : ¬ (8 : Int32) ≤ nI i := by rw [show (8 : Int32) = nI 8 from rfl, nz_le (by omega) (by omega)]; omega
    obtain ⟨B, b1, b2, b3, b4, b5, b6, b7⟩ := again_ok h hn en hp d ((1 : Int32) <<< (nI i &&& 31)) hM h1 h2 h3
    obtain ⟨r, A, l, r1, r2, r3, r4⟩ := creached_ok h hn en hp d _ b2 b3 b7
    have er := rset_eq r3 r4
    have hA : thT μ A := fun k h1 h2 h3 h4 h5 h6 h7 => by rw [r2 k h5]; exact b2 k h1 h2 h3 h4 h5 h6 h7
    have eG : jdf_bitCount (r &&& (((1 : Int32) <<< (nI i &&& 31)) ^^^ (-1))) = dryG (μ 61) p i := by
      unfold dryG
      rw [er]
    rw [wnf_dry_L69, if_neg c, b1, Option.bind_some, r1, Option.bind_some]
    simp only []
    rw [eG, nz_s, dryF]
    have e1 : A 41 1 = limv (μ 61) p := by rw [r2 41 (by decide)]; exact b4
    have e2 : enW μ p A := b5.to (r2 72 (by decide)) (by rw [r2 41 (by decide)])
    have e3 : ∀ l, 1 ≤ l → l < 21 → A 42 l = nI (wC (μ 61) p l) := fun l l1 l2 => by rw [r2 42 (by decide)]; exact b6 l l1 l2
    by_cases q : b ≤ dryG (μ 61) p i
    · rw [if_pos q, if_pos q]
      exact ih (i + 1) f a b A (by omega) (by omega) hA e1 e2 e3
    · rw [if_neg q, if_neg q]
      exact ih (i + 1) f (nI i) (dryG (μ 61) p i) A (by omega) (by omega) hA e1 e2 e3
theorem dry_m {μ : jj_M} (h : jI μ) {n p : Nat} (hn : n ≤ 6) (en : μ 61 139 = nI n) (hp : p < n) (d : μ 61 (140 + 6 * p + 5) = 0) (x2 : Int32) {ν : jj_M} (eν : ν 61 = μ 61) : ∀ (k i f : Nat) (a b : Int32) (ν1 : jj_M), i + k = 8 → k < f → thB ν ν1 → ∃ Z, mdf_dry_L33 jz_N (nI p) x2 f a b (nI i) ν1 = some ((if x2 = 0 then (dryF (dryG (μ 61) p) k i a b).1 else (dryF (dryG (μ 61) p) k i a b).2), Z) ∧ thB ν Z := by
  intro k
  induction k with
  | zero =>
    intro i f a b ν1 hi hf hν
    obtain ⟨f, rfl⟩ : ∃ m, f = m + 1 := ⟨f - 1, by omega⟩
    have e : i = 8 := by omega
    subst e
    refine ⟨ν1, ?_, hν⟩
    rw [mdf_dry_L33, if_pos (by decide), dryF]
    by_cases q : x2 = 0
    · rw [if_pos q, if_pos q]
    · rw [if_neg q, if_neg q]
  | succ k ih =>
    intro i f a b ν1 hi hf hν
    obtain ⟨f, rfl⟩ : ∃ m, f = m + 1 := ⟨f - 1, by omega⟩
    have c : ¬ (8 : Int32) ≤ nI i := by rw [show (8 : Int32) = nI 8 from rfl, nz_le (by omega) (by omega)]; omega
    obtain ⟨r, Z, l, r1, r2, r3, r4⟩ := mreached_ok h hn en hp d ((1 : Int32) <<< (nI i &&& 31)) (hν.e61.trans eν)
    have er := rset_eq r3 (fun w hw => (r4 w).trans ⟨fun e => e.2, fun e => ⟨hw, e⟩⟩)
    obtain ⟨l', d1, d2⟩ := r3.del (v := i) (by omega)
    have one : mdf_ones jz_N (r &&& (((1 : Int32) <<< (nI i &&& 31)) ^^^ (-1))) = some (dryG (μ 61) p i) := by
      unfold dryG
      rw [← er]
      obtain ⟨M, hM, eM, _⟩ := d1
      rw [eM]
      exact ones_ok hM
    rw [mdf_dry_L33, if_neg c, r1, Option.bind_some]
    simp only []
    rw [one, Option.bind_some, dryF]
    unfold mdf_dry_B75
    rw [nz_s]
    by_cases q : b ≤ dryG (μ 61) p i
    · rw [if_pos q, if_pos q, if_pos q]
      exact ih (i + 1) f a b Z (by omega) (by omega) (hν.tr r2)
    · rw [if_neg q, if_neg q, if_neg q]
      exact ih (i + 1) f (nI i) (dryG (μ 61) p i) Z (by omega) (by omega) (hν.tr r2)
theorem st_dry {μ : jj_M} (h : jI μ) (x1 x2 : Int32) : ∃ (r : Int32) (μ1 : jj_M) (μ2 : jj_M), wnf_dry jz_N x1 x2 μ = some (r, μ1) ∧ mdf_dry jz_N x1 x2 μ1 = some (r, μ2) ∧ jI μ2 := by
  have big := jz_ge
  obtain ⟨n, hn, en, en1⟩ := h.n
  obtain ⟨m1, m2, a, b, c⟩ := err1 h
  have e61 : m1 61 = μ 61 := err_61 (e := 1) (by omega) a 61 (by decide)
  have ip : ∀ m : jj_M, m 61 = μ 61 → mdf_isPerson x1 m = wnf_isPerson x1 μ := fun m e => isPer_ok hn en1 (by rw [e]; exact en) x1
  unfold wnf_dry mdf_dry
  rw [show mdf_in (Int32.toInt64 x2) 0 1 = wnf_within x2 0 1 from nz_within x2 0 1]
  by_cases c1 : wnf_isPerson x1 μ = 0
  · refine ⟨-1000000001, m1, m2, by simp only [c1, a, ↓reduceIte, Option.bind_some], ?_, c⟩
    rw [wrongWay_1 (Or.inl (by rw [ip m1 e61]; exact c1)), Option.bind_some, if_neg (by decide), b]; rfl
  by_cases c2 : wnf_within x2 0 1 = 0
  · refine ⟨-1000000001, m1, m2, by simp only [c1, c2, a, ↓reduceIte, Option.bind_some], ?_, c⟩
    rw [wrongWay_1 (Or.inr c2), Option.bind_some, if_neg (by decide), b]; rfl
  obtain ⟨p, hp, rfl⟩ := nz_per hn en1 c1
  have P := h.per hn en hp
  have g : jj_i (nI p) 6 := nz_in (by omega) (by omega)
  have kp : (nI p).toNatClampNeg = p := nz_clamp (by omega)
  have d9 : 5 + 4 + p = 9 + p := by omega
  have a5' := h.pag hn en hp (j := 5) (by omega)
  have W : ∀ m : jj_M, m 61 = μ 61 → mdf_wrongWay (nI p) (wnf_within x2 0 1) m = if μ 61 (140 + 6 * p + 5) = 1 then some (-1000000003) else some 0 := fun m e => by
    rw [wrongWay_ok (p := p) (by omega) rfl (by rw [ip m e]; exact c1) c2, e]
  rw [if_neg c1, if_neg c2, if_pos g]
  simp only [kp, d9, a5']
  rcases P.dead with d | d
  rotate_left
  · obtain ⟨m3, m4, a3, b3, c3'⟩ := err3 h
    have f61 : m3 61 = μ 61 := err_61 (e := 3) (by omega) a3 61 (by decide)
    refine ⟨-1000000003, m3, m4, ?_, ?_, c3'⟩
    · rw [if_neg (by rw [d]; decide), a3]; rfl
    · rw [W m3 f61, if_pos d, Option.bind_some, if_neg (by decide), b3]; rfl
  have n1 : ¬ μ 61 (140 + 6 * p + 5) = 1 := by rw [d]; decide
  rw [if_pos d]
  obtain ⟨M, k1, k2, k3, k6, k7, k8, k9⟩ := think_ok h hn en hp d 0
  obtain ⟨A, r1, r2⟩ := dry_c h hn en hp d x2 8 0 jz_N 0 8 M (by omega) (by omega) k2 k6 k7 k8
  have IA := r2.th.I h
  have A61 : A 61 = μ 61 := r2.th.r61
  obtain ⟨Z, s1, s2⟩ := dry_m h hn en hp d x2 A61 8 0 jz_N 0 8 A (by omega) (by omega) thB.rf
  have r1 : wnf_dry_L69 jz_N x2 (9 + p) jz_N 0 8 0 M = _ := r1
  have s1 : mdf_dry_L33 jz_N (nI p) x2 jz_N 0 8 0 A = _ := s1
  refine ⟨(if x2 = 0 then (dryF (dryG (μ 61) p) 8 0 0 8).1 else (dryF (dryG (μ 61) p) 8 0 0 8).2), A, Z, ?_, ?_, s2.th0.I IA⟩
  · rw [k1, Option.bind_some, r1]
  · rw [W A A61, if_neg n1, Option.bind_some, if_pos rfl, s1]
