/-! the reference's spreading ends, closed -/
def tC1 (S : Nat → Int32) (p x : Nat) (bar : Int32) (T : Nat → Nat) (i v : Nat) : Prop := wDr S p bar (i / 37) = true → T (37 * (i / 37)) ≤ mD x v
def tCl (S : Nat → Int32) (p x : Nat) (bar : Int32) (T : Nat → Nat) (i : Nat) : Prop := T i < 1000000 → tC1 S p x bar T i (T i) ∧ ∀ b, b < 8 → tC2 S p x T i (T i) b
theorem round_ok {N : Nat} (hN : 400 < N) {μ0 μJ : jj_M} (h : jI μJ) (e0 : μ0 61 = μJ 61) {n p x : Nat} (hn : n ≤ 6) (en : μ0 61 139 = nI n) (hpn : p < n) (hx : x ≤ 1) {bar : Int32} {Q : Nat → Nat → Prop} (hQ : tQ (μ0 61) p x bar Q) (K1 : Int32 → jj_M → Option jj_M) (eN : N = jz_N) : ∀ (k i f y : Nat) (T : Nat → Nat) (ν : jj_M), i + k = 296 → k < f → y ≤ 1 → tS μ0 p T ν → (∀ j, j < 296 → T j < 1000000 → Q j (T j)) → ∃ y' T' ν', mdf_spreads_L119 N K1 (nI p) bar (nI x) (limv (μ0 61) p) f (nI y) (nI i) ν = K1 (nI y') ν' ∧ tS μ0 p T' ν' ∧ (∀ j, j < 296 → T' j < 1000000 → Q j (T' j)) ∧ (∀ j, T' j ≤ T j) ∧ sN 296 T' ≤ sN 296 T ∧ y' ≤ 1 ∧ ((y' = 1 ∧ (y = 1 ∨ sN 296 T' < sN 296 T)) ∨ (y' = 0 ∧ y = 0 ∧ T' = T ∧ ∀ j, i ≤ j → j < 296 → tCl (μ0 61) p x bar T j)) := by
  have P : jPer (μ0 61) p := by rw [e0] at en ⊢; exact h.per hn en hpn
  intro k
  induction k with
  | zero =>
    intro i f y T ν hi hf hy hS hT
    obtain ⟨f, rfl⟩ : ∃ m, f = m + 1 := ⟨f - 1, by omega⟩
    have e : i = 296 := by omega
    subst e
    refine ⟨y, T, ν, by rw [mdf_spreads_L119, if_pos (by decide)], hS, hT, fun _ => Nat.le_refl _, Nat.le_refl _, hy, ?_⟩
    rcases (by omega : y = 0 ∨ y = 1) with q | q
    · right; exact ⟨q, q, rfl, fun c h1 h2 => by omega⟩
    · left; exact ⟨q, Or.inl q⟩
  | succ k ih =>
    intro i f y T ν hi hf hy hS hT
    obtain ⟨f, rfl⟩ : ∃ m, f = m + 1 := ⟨f - 1, by omega⟩
    have hi296 : i < 296 := by omega
    have c : ¬ (296 : Int32) ≤ nI i := by rw [show (296 : Int32) = nI 296 from rfl, nz_le (by omega) (by omega)]; omega
    have g : jj_i (nI i) 296 := nz_in (by omega) (by omega)
    have ki : (nI i).toNatClampNeg = i := nz_clamp (by omega)
    have d37 : nI i / 37 = nI (i / 37) := by rw [show (37 : Int32) = nI 37 from rfl, nz_div (by omega) (by omega)]
    obtain ⟨t1, t2⟩ := hS.2.2 i hi296
    have w8 : i / 37 < 8 := by omega
    -- behind the inner loop
    have next : ∀ (y1 : Nat) (T1 : Nat → Nat) (ν1 : jj_M), y1 ≤ 1 → tS μ0 p T1 ν1 → (∀ j, j < 296 → T1 j < 1000000 → Q j (T1 j)) → (∀ j, T1 j ≤ T j) → sN 296 T1 ≤ sN 296 T → ((y1 = 1 ∧ (y = 1 ∨ sN 296 T1 < sN 296 T)) ∨ (y1 = 0 ∧ y = 0 ∧ T1 = T ∧ tCl (μ0 61) p x bar T i)) → ∃ y' T' ν', mdf_spreads_L119 N K1 (nI p) bar (nI x) (limv (μ0 61) p) f (nI y1) (nI (i + 1)) ν1 = K1 (nI y') ν' ∧ tS μ0 p T' ν' ∧ (∀ j, j < 296 → T' j < 1000000 → Q j (T' j)) ∧ (∀ j, T' j ≤ T j) ∧ sN 296 T' ≤ sN 296 T ∧ y' ≤ 1 ∧ ((y' = 1 ∧ (y = 1 ∨ sN 296 T' < sN 296 T)) ∨ (y' = 0 ∧ y = 0 ∧ T' = T ∧ ∀ j, i ≤ j → j < 296 → tCl (μ0 61) p x bar T j)) := by
      intro y1 T1 ν1 b1 b2 b3 b4 b5 b6
      obtain ⟨y', T', ν', a1, a2, a3, a4, a5, a6, a7⟩ := ih (i + 1) f y1 T1 ν1 (by omega) (by omega) b1 b2 b3
      refine ⟨y', T', ν', a1, a2, a3, fun j => Nat.le_trans (a4 j) (b4 j), by omega, a6, ?_⟩
      rcases b6 with ⟨z1, z2⟩ | ⟨z1, z2, z3, z4⟩
      · rcases a7 with ⟨q1, q2⟩ | ⟨_, q2, _⟩
        · left
          refine ⟨q1, ?_⟩
          rcases z2 with z | z
          · exact Or.inl z
          · right; omega
        · omega
      · subst z3
        rcases a7 with ⟨q1, q2⟩ | ⟨q1, q2, q3, q4⟩
        · left
          exact ⟨q1, Or.inr (q2.resolve_left (by omega))⟩
        · right
          refine ⟨q1, z2, q3, fun j h1 h2 => ?_⟩
          by_cases e : j = i
          · rw [e]; exact z4
          · exact q4 j (by omega) h2
    rw [mdf_spreads_L119, if_neg c, if_pos g]
    simp only [ki, t1, d37]
    by_cases q : T i < 1000000
    rotate_left
    · rw [if_pos (by rw [show (1000000 : Int32) = nI 1000000 from rfl, nz_le (by omega) (by omega)]; omega)]
      obtain ⟨N', e⟩ : ∃ N', N = N' + 1 := ⟨N - 1, by omega⟩
      have e1 : mdf_spreads_L189 N K1 (mdf_spreads_L119 N K1 (nI p) bar (nI x) (limv (μ0 61) p) f) (nI p) bar (nI x) (limv (μ0 61) p) (nI i) (nI (T i)) (nI (i / 37)) N (nI y) 0 ν = mdf_spreads_L119 N K1 (nI p) bar (nI x) (limv (μ0 61) p) f (nI y) (nI (i + 1)) ν := by
        have gen : ∀ F : Nat, mdf_spreads_L189 N K1 (mdf_spreads_L119 N K1 (nI p) bar (nI x) (limv (μ0 61) p) f) (nI p) bar (nI x) (limv (μ0 61) p) (nI i) (nI (T i)) (nI (i / 37)) (F + 1) (nI y) 0 ν = mdf_spreads_L119 N K1 (nI p) bar (nI x) (limv (μ0 61) p) f (nI y) (nI (i + 1)) ν := by
          intro F
          rw [mdf_spreads_L189, if_neg (by decide), if_pos (by rw [show (1000000 : Int32) = nI 1000000 from rfl, nz_le (by omega) (by omega)]; omega), nz_s]
        have := gen N'
        rwa [← e] at this
      rw [e1]
      refine next y T ν hy hS hT (fun _ => Nat.le_refl _) (Nat.le_refl _) ?_
      rcases (by omega : y = 0 ∨ y = 1) with z | z
      · right; exact ⟨z, z, rfl, fun e => absurd e q⟩
      · left; exact ⟨z, Or.inl z⟩
    rw [if_neg (by rw [show (1000000 : Int32) = nI 1000000 from rfl, nz_le (by omega) (by omega)]; omega)]
    obtain ⟨m, m1, m2⟩ := may_m h e0 (p := p) (w := i / 37) (by omega) w8 bar hS.1
    rw [eN, m1, Option.bind_some, ← eN]
    simp only []
    have Sm := hS.r6 m2
    -- the inner loop, from a state behind the drink
    have inn : ∀ (y1 : Nat) (T1 : Nat → Nat) (ν1 : jj_M), y1 ≤ 1 → tS μ0 p T1 ν1 → (∀ j, j < 296 → T1 j < 1000000 → Q j (T1 j)) → (∀ j, T1 j ≤ T j) → sN 296 T1 ≤ sN 296 T → ((y1 = 1 ∧ (y = 1 ∨ sN 296 T1 < sN 296 T)) ∨ (y1 = 0 ∧ y = 0 ∧ T1 = T ∧ tC1 (μ0 61) p x bar T i (T i))) → ∃ y' T' ν', mdf_spreads_L189 N K1 (mdf_spreads_L119 N K1 (nI p) bar (nI x) (limv (μ0 61) p) f) (nI p) bar (nI x) (limv (μ0 61) p) (nI i) (nI (T i)) (nI (i / 37)) N (nI y1) 0 ν1 = K1 (nI y') ν' ∧ tS μ0 p T' ν' ∧ (∀ j, j < 296 → T' j < 1000000 → Q j (T' j)) ∧ (∀ j, T' j ≤ T j) ∧ sN 296 T' ≤ sN 296 T ∧ y' ≤ 1 ∧ ((y' = 1 ∧ (y = 1 ∨ sN 296 T' < sN 296 T)) ∨ (y' = 0 ∧ y = 0 ∧ T' = T ∧ ∀ j, i ≤ j → j < 296 → tCl (μ0 61) p x bar T j)) := by
      intro y1 T1 ν1 b1 b2 b3 b4 b5 b6
      obtain ⟨y2, T2, ν2, a1, a2, a3, a4, a5, a6, a7⟩ := inner_ok (N := N) h e0 P hx hQ K1 (mdf_spreads_L119 N K1 (nI p) bar (nI x) (limv (μ0 61) p) f) hi296 q (hT i hi296 q) 8 0 N y1 T1 ν1 (by omega) (by omega) b1 b2 b3
      have a1 : mdf_spreads_L189 N K1 (mdf_spreads_L119 N K1 (nI p) bar (nI x) (limv (μ0 61) p) f) (nI p) bar (nI x) (limv (μ0 61) p) (nI i) (nI (T i)) (nI (i / 37)) N (nI y1) 0 ν1 = _ := a1
      rw [a1]
      refine next y2 T2 ν2 a6 a2 a3 (fun j => Nat.le_trans (a4 j) (b4 j)) (by omega) ?_
      rcases b6 with ⟨z1, z2⟩ | ⟨z1, z2, z3, z4⟩
      · rcases a7 with ⟨q1, q2⟩ | ⟨_, q2, _⟩
        · left
          refine ⟨q1, ?_⟩
          rcases z2 with z | z
          · exact Or.inl z
          · right; omega
        · omega
      · subst z3
        rcases a7 with ⟨q1, q2⟩ | ⟨q1, q2, q3, q4⟩
        · left
          exact ⟨q1, Or.inr (q2.resolve_left (by omega))⟩
        · right
          exact ⟨q1, z2, q3, fun _ => ⟨z4, fun b hb => q4 b (by omega) hb⟩⟩
    by_cases d : wDr (μ0 61) p bar (i / 37) = true
    rotate_left
    · rw [if_neg d, if_pos rfl]
      refine inn y T m hy Sm hT (fun _ => Nat.le_refl _) (Nat.le_refl _) ?_
      rcases (by omega : y = 0 ∨ y = 1) with z | z
      · right; exact ⟨z, z, rfl, fun e => absurd e d⟩
      · left; exact ⟨z, Or.inl z⟩
    rw [if_pos d, if_neg (show ¬ (1 : Int32) = 0 by decide)]
    obtain ⟨s1, s2⟩ := Sm.2.2 (37 * (i / 37) + 0) (by omega)
    have mb : mD x (T i) < 2147483648 := by unfold mD; split <;> omega
    have L := less_ok (w := i / 37) (t := 0) (v := mD x (T i)) w8 (by omega) s1 s2 mb
    have both : ∃ o, mdf_lessens (nI (i / 37)) 0 (nI (mD x (T i))) m = some o ∧ ∃ y' T' ν', mdf_spreads_L189 N K1 (mdf_spreads_L119 N K1 (nI p) bar (nI x) (limv (μ0 61) p) f) (nI p) bar (nI x) (limv (μ0 61) p) (nI i) (nI (T i)) (nI (i / 37)) N (nI y ||| o.1) 0 o.2 = K1 (nI y') ν' ∧ tS μ0 p T' ν' ∧ (∀ j, j < 296 → T' j < 1000000 → Q j (T' j)) ∧ (∀ j, T' j ≤ T j) ∧ sN 296 T' ≤ sN 296 T ∧ y' ≤ 1 ∧ ((y' = 1 ∧ (y = 1 ∨ sN 296 T' < sN 296 T)) ∨ (y' = 0 ∧ y = 0 ∧ T' = T ∧ ∀ j, i ≤ j → j < 296 → tCl (μ0 61) p x bar T j)) := by
      refine ⟨_, L, ?_⟩
      rw [Nat.add_zero]
      by_cases z : T (37 * (i / 37)) ≤ mD x (T i)
      · rw [if_pos z]
        simp only []
        rw [(or01 y hy).1]
        refine inn y T m hy Sm hT (fun _ => Nat.le_refl _) (Nat.le_refl _) ?_
        rcases (by omega : y = 0 ∨ y = 1) with u | u
        · right; exact ⟨u, u, rfl, fun _ => z⟩
        · left; exact ⟨u, Or.inl u⟩
      · rw [if_neg z]
        simp only []
        rw [(or01 y hy).2]
        rw [Nat.add_zero] at s2
        have w := sN_w (T := T) (j := 37 * (i / 37)) (v := mD x (T i)) 296 (by omega)
        refine inn 1 _ _ (by omega) (Sm.w (i := 37 * (i / 37)) (v := mD x (T i)) (by omega)) (fun j hj hl => ?_) (fun j => ?_) (by omega) (Or.inl ⟨rfl, Or.inr (by omega)⟩)
        · by_cases e : j = 37 * (i / 37)
          · rw [e, gup_s]
            exact hQ.1 i (T i) hi296 q (hT i hi296 q) d
          · rw [gup_n e] at hl ⊢
            exact hT j hj hl
        · unfold gup
          split
          · rename_i e; rw [e]; omega
          · exact Nat.le_refl _
    obtain ⟨o, o1, o2⟩ := both
    rcases (by omega : x = 0 ∨ x = 1) with x0 | x0
    · rw [if_pos (show nI x = 0 by rw [x0]; rfl)]
      have em : mD x (T i) = T i + 1 := by unfold mD; rw [if_neg (by omega)]
      rw [em] at o1
      rw [nz_s, o1, Option.bind_some]
      exact o2
    · rw [if_neg (show ¬ nI x = 0 by rw [x0]; decide)]
      have em : mD x (T i) = T i := by unfold mD; rw [if_pos x0]
      rw [em] at o1
      rw [o1, Option.bind_some]
      exact o2
theorem rounds_ok {N : Nat} (hN : 400 < N) {μ0 μJ : jj_M} (h : jI μJ) (e0 : μ0 61 = μJ 61) {n p x : Nat} (hn : n ≤ 6) (en : μ0 61 139 = nI n) (hpn : p < n) (hx : x ≤ 1) {bar : Int32} {Q : Nat → Nat → Prop} (hQ : tQ (μ0 61) p x bar Q) (eN : N = jz_N) : ∀ (P f y : Nat) (T : Nat → Nat) (ν : jj_M), sN 296 T ≤ P → P + 2 < f → y = 1 → tS μ0 p T ν → (∀ j, j < 296 → T j < 1000000 → Q j (T j)) → ∃ T' ν', mdf_spreads_L108 N (nI p) bar (nI x) (limv (μ0 61) p) f (nI y) ν = some ν' ∧ tS μ0 p T' ν' ∧ (∀ j, j < 296 → T' j < 1000000 → Q j (T' j)) ∧ (∀ j, T' j ≤ T j) ∧ ∀ j, j < 296 → tCl (μ0 61) p x bar T' j := by
  intro P
  induction P with
  | zero =>
    intro f y T ν hP hf hy hS hT
    obtain ⟨f, rfl⟩ : ∃ m, f = m + 2 := ⟨f - 2, by omega⟩
    subst hy
    obtain ⟨y', T', ν', a1, a2, a3, a4, a5, a6, a7⟩ := round_ok (N := N) hN h e0 hn en hpn hx hQ (mdf_spreads_L108 N (nI p) bar (nI x) (limv (μ0 61) p) (f + 1)) eN 296 0 N 0 T ν (by omega) (by omega) (by omega) hS hT
    have a1 : mdf_spreads_L119 N (mdf_spreads_L108 N (nI p) bar (nI x) (limv (μ0 61) p) (f + 1)) (nI p) bar (nI x) (limv (μ0 61) p) N 0 0 ν = _ := a1
    rcases a7 with ⟨q1, q2⟩ | ⟨q1, q2, q3, q4⟩
    · omega
    · subst q3
      refine ⟨T', ν', ?_, a2, a3, a4, fun j hj => q4 j (by omega) hj⟩
      rw [mdf_spreads_L108, if_neg (show ¬ nI 1 = 0 by decide), a1, mdf_spreads_L108, if_pos (show nI y' = 0 by rw [q1]; rfl)]
  | succ P ih =>
    intro f y T ν hP hf hy hS hT
    obtain ⟨f, rfl⟩ : ∃ m, f = m + 2 := ⟨f - 2, by omega⟩
    subst hy
    obtain ⟨y', T', ν', a1, a2, a3, a4, a5, a6, a7⟩ := round_ok (N := N) hN h e0 hn en hpn hx hQ (mdf_spreads_L108 N (nI p) bar (nI x) (limv (μ0 61) p) (f + 1)) eN 296 0 N 0 T ν (by omega) (by omega) (by omega) hS hT
    have a1 : mdf_spreads_L119 N (mdf_spreads_L108 N (nI p) bar (nI x) (limv (μ0 61) p) (f + 1)) (nI p) bar (nI x) (limv (μ0 61) p) N 0 0 ν = _ := a1
    rcases a7 with ⟨q1, q2⟩ | ⟨q1, q2, q3, q4⟩
    · obtain ⟨T2, ν2, b1, b2, b3, b4, b5⟩ := ih (f + 1) y' T' ν' (by omega) (by omega) q1 a2 a3
      refine ⟨T2, ν2, ?_, b2, b3, fun j => Nat.le_trans (b4 j) (a4 j), b5⟩
      rw [mdf_spreads_L108, if_neg (show ¬ nI 1 = 0 by decide), a1]
      exact b1
    · subst q3
      refine ⟨T', ν', ?_, a2, a3, a4, fun j hj => q4 j (by omega) hj⟩
      rw [mdf_spreads_L108, if_neg (show ¬ nI 1 = 0 by decide), a1, mdf_spreads_L108, if_pos (show nI y' = 0 by rw [q1]; rfl)]
theorem fillM_ok (N : Nat) (x1 x2 x3 : Int32) : ∀ (k i f : Nat) (ν : jj_M), i + k = 296 → k < f → ∃ m, mdf_spreads_L3 N x1 x2 x3 f (nI i) ν = mdf_spreads_L29 N x1 x2 x3 N 0 m ∧ (∀ a, a ≠ 65 → m a = ν a) ∧ ∀ j, m 65 j = if i ≤ j ∧ j < 296 then 1000000 else ν 65 j := by
  intro k
  induction k with
  | zero =>
    intro i f ν hi hf
    obtain ⟨f, rfl⟩ : ∃ m, f = m + 1 := ⟨f - 1, by omega⟩
    have e : i = 296 := by omega
    subst e
    exact ⟨ν, by rw [mdf_spreads_L3, if_pos (by decide)], fun _ _ => rfl, fun j => by rw [if_neg (by omega)]⟩
  | succ k ih =>
    intro i f ν hi hf
    obtain ⟨f, rfl⟩ : ∃ m, f = m + 1 := ⟨f - 1, by omega⟩
    have c : ¬ (296 : Int32) ≤ nI i := by rw [show (296 : Int32) = nI 296 from rfl, nz_le (by omega) (by omega)]; omega
    have g : jj_i (nI i) 296 := nz_in (by omega) (by omega)
    have ki : (nI i).toNatClampNeg = i := nz_clamp (by omega)
    obtain ⟨m, m1, m2, m3⟩ := ih (i + 1) f (jj_u ν 65 i 1000000) (by omega) (by omega)
    refine ⟨m, ?_, fun a ha => by rw [m2 a ha, ju_ne ha], fun j => ?_⟩
    · rw [mdf_spreads_L3, if_neg c, if_pos g]
      simp only [ki, nz_s]
      exact m1
    · rw [m3 j]
      by_cases q : i + 1 ≤ j ∧ j < 296
      · rw [if_pos q, if_pos (show i ≤ j ∧ j < 296 by omega)]
      · rw [if_neg q]
        by_cases e : j = i
        · rw [e, ju_self, if_pos (show i ≤ i ∧ i < 296 by omega)]
        · rw [ju_other e, if_neg (show ¬ (i ≤ j ∧ j < 296) by omega)]
theorem roadsM_ok {μ0 μJ : jj_M} (h : jI μJ) (e0 : μ0 61 = μJ 61) {p : Nat} (hp : p < 6) (x2 x3 : Int32) : ∀ (k i f : Nat) (ν : jj_M), i + k = 64 → thB μ0 ν → ∃ m, mdf_spreads_L29 jz_N (nI p) x2 x3 (f + k) (nI i) ν = mdf_spreads_L29 jz_N (nI p) x2 x3 f (nI 64) m ∧ thB μ0 m ∧ m 65 = ν 65 ∧ ∀ j, m 66 j = if i ≤ j ∧ j < 64 then nI (wQ (μ0 61) p j) else ν 66 j := by
  intro k
  induction k with
  | zero =>
    intro i f ν hi hν
    have e : i = 64 := by omega
    subst e
    exact ⟨ν, rfl, hν, rfl, fun j => by rw [if_neg (by omega)]⟩
  | succ k ih =>
    intro i f ν hi hν
    have c : ¬ (64 : Int32) ≤ nI i := by rw [show (64 : Int32) = nI 64 from rfl, nz_le (by omega) (by omega)]; omega
    have e8 : (8 : Int32) + nI i = nI (8 + i) := by rw [show (8 : Int32) = nI 8 from rfl, nz_add]
    have g1 : jj_i (nI (8 + i)) 351 := nz_in (by omega) (by omega)
    have k1 : (nI (8 + i)).toNatClampNeg = 8 + i := nz_clamp (by omega)
    have g2 : jj_i (nI i) 64 := nz_in (by omega) (by omega)
    have k2 : (nI i).toNatClampNeg = i := nz_clamp (by omega)
    have r : μ0 61 (8 + (8 * (i / 8) + i % 8)) = nI (wRd (μ0 61) (i / 8) (i % 8)) ∧ wRd (μ0 61) (i / 8) (i % 8) ≤ 20 := by rw [e0]; exact (wRd_ok h (a := i / 8) (b := i % 8) (by omega) (by omega)).2
    have e61 : ν 61 (8 + i) = nI (wRd (μ0 61) (i / 8) (i % 8)) := by
      rw [hν.e61, ← r.1]
      congr 1
      omega
    have fin : ∀ (V : Int32) (ν1 : jj_M), thB μ0 ν1 → ν1 65 = ν 65 → ν1 66 = ν 66 → V = nI (wQ (μ0 61) p i) → ∃ m, mdf_spreads_L29 jz_N (nI p) x2 x3 (f + k) (nI (i + 1)) (jj_u ν1 66 i V) = mdf_spreads_L29 jz_N (nI p) x2 x3 f (nI 64) m ∧ thB μ0 m ∧ m 65 = ν 65 ∧ ∀ j, m 66 j = if i ≤ j ∧ j < 64 then nI (wQ (μ0 61) p j) else ν 66 j := by
      intro V ν1 b1 b2 b3 b4
      obtain ⟨m, m1, m2, m3, m4⟩ := ih (i + 1) f (jj_u ν1 66 i V) (by omega) (b1.u (Or.inr rfl))
      refine ⟨m, m1, m2, by rw [m3, ju_ne (by decide), b2], fun j => ?_⟩
      rw [m4 j]
      by_cases q : i + 1 ≤ j ∧ j < 64
      · rw [if_pos q, if_pos (show i ≤ j ∧ j < 64 by omega)]
      · rw [if_neg q]
        by_cases e : j = i
        · rw [e, ju_self, if_pos (show i ≤ i ∧ i < 64 by omega), b4]
        · rw [ju_other e, if_neg (show ¬ (i ≤ j ∧ j < 64) by omega), b3]
    rw [show f + (k + 1) = (f + k) + 1 by omega, mdf_spreads_L29, if_neg c, e8, if_pos g1]
    simp only [k1, e61, eq_true g1, eq_true g2, k2, nz_s, ↓reduceIte]
    by_cases q : wRd (μ0 61) (i / 8) (i % 8) = 0
    · rw [q, if_pos (by decide)]
      exact fin 1000000 ν hν rfl rfl (by unfold wQ; rw [q, if_neg (by omega)]; rfl)
    · rw [if_neg (by rw [show (0 : Int32) = nI 0 from rfl, nz_le (by omega) (by omega)]; omega)]
      obtain ⟨m, m1, m2⟩ := thirstBy_6 (μ := ν) (F := μJ 18) (C := μJ 19) (by rw [hν.e61, e0]; exact h.w.2.2.2.1) hp (nI (wRd (μ0 61) (i / 8) (i % 8)))
      rw [hν.e61, (wC_ok (μ0 61) p _).1] at m1
      rw [m1, Option.bind_some]
      exact fin _ m (hν.r6 m2) (m2.1 65 (by decide)) (m2.1 66 (by decide)) (by unfold wQ; rw [if_pos (by omega)])
/-- the whole spreading -/
theorem spreads_ok {μ0 μJ : jj_M} (h : jI μJ) (e0 : μ0 61 = μJ 61) {n p x : Nat} (hn : n ≤ 6) (en : μ0 61 139 = nI n) (hpn : p < n) (hx : x ≤ 1) (bar : Int32) {s t0 : Nat} (hs : s < 8) (ht : t0 < 37) (es : μ0 61 (140 + 6 * p + 2) = nI s) (et : μ0 61 (140 + 6 * p + 4) = nI t0) {Q : Nat → Nat → Prop} (hQ : tQ (μ0 61) p x bar Q) (hQ0 : Q (37 * s + t0) 0) {ν : jj_M} (hν : thB μ0 ν) : ∃ T m, mdf_spreads jz_N (nI p) bar (nI x) ν = some m ∧ thB μ0 m ∧ (∀ i, i < 296 → m 65 i = nI (T i) ∧ T i ≤ 1000000) ∧ (∀ j, j < 296 → T j < 1000000 → Q j (T j)) ∧ (∀ j, j < 296 → tCl (μ0 61) p x bar T j) ∧ T (37 * s + t0) = 0 := by
  have big := jz_ge
  obtain ⟨A, a1, a2, a3⟩ := fillM_ok jz_N (nI p) bar (nI x) 296 0 jz_N ν (by omega) (by omega)
  have hA : thB μ0 A := ⟨fun k h1 h2 h3 => (a2 k h2).trans (hν.1 k h1 h2 h3), fun j x => by rw [a2 60 (by decide)]; exact hν.2 j x⟩
  obtain ⟨F, eF⟩ : ∃ F, jz_N = (F + 1) + 64 := ⟨jz_N - 65, by omega⟩
  obtain ⟨B, b1, b2, b3, b4⟩ := roadsM_ok h e0 (p := p) (by omega) bar (nI x) 64 0 (F + 1) A (by omega) hA
  rw [← eF] at b1
  have S0 : tS μ0 p (fun _ => 1000000) B := ⟨b2, fun j hj => by rw [b4 j, if_pos (by omega)], fun i hi => ⟨by rw [b3, a3 i, if_pos (by omega)]; rfl, Nat.le_refl _⟩⟩
  have L := less_ok (ν := B) (w := s) (t := t0) (a := 1000000) (v := 0) hs ht (S0.2.2 _ (by omega)).1 (Nat.le_refl _) (by omega)
  rw [if_neg (by omega)] at L
  have L : mdf_lessens (nI s) (nI t0) 0 B = some (1, jj_u B 65 (37 * s + t0) (nI 0)) := L
  have S1 := S0.w (i := 37 * s + t0) (v := 0) (by omega)
  have sb := sN_b (T := gup (fun _ => 1000000) (37 * s + t0) 0) (B := 1000000) 296 (fun i hi => by
    unfold gup
    split
    · exact Nat.zero_le _
    · exact Nat.le_refl _)
  obtain ⟨T, m, d1, d2, d3, d4, d5⟩ := rounds_ok (N := jz_N) (by omega) h e0 hn en hpn hx hQ rfl 296000000 jz_N 1 _ _ (by omega) (by omega) rfl S1 (fun j hj hl => by
    by_cases e : j = 37 * s + t0
    · rw [e, gup_s]; exact hQ0
    · rw [gup_n e] at hl; omega)
  have d1 : mdf_spreads_L108 jz_N (nI p) bar (nI x) (limv (μ0 61) p) jz_N 1 (jj_u B 65 (37 * s + t0) (nI 0)) = some m := d1
  refine ⟨T, m, ?_, d2.1, d2.2.2, d3, d5, ?_⟩
  · unfold mdf_spreads
    have a1 : mdf_spreads_L3 jz_N (nI p) bar (nI x) jz_N 0 ν = _ := a1
    have b1 : mdf_spreads_L29 jz_N (nI p) bar (nI x) jz_N 0 A = _ := b1
    have t2 : mdf_its (nI p) 2 B = some (nI s) := by
      rw [show (2 : Int32) = nI 2 from rfl, its_ok (by omega) (by omega), b2.e61, es]
    have t4 : mdf_its (nI p) 4 B = some (nI t0) := by
      rw [show (4 : Int32) = nI 4 from rfl, its_ok (by omega) (by omega), b2.e61, et]
    rw [a1, b1, mdf_spreads_L29, if_pos (by decide), limit_m (by omega), Option.bind_some, t2, Option.bind_some, t4, Option.bind_some, L, Option.bind_some, b2.e61]
    exact d1
  · have := d4 (37 * s + t0)
    rw [gup_s] at this
    omega
theorem leastAt_ok (N : Nat) {w : Nat} (hw : w < 8) {T : Nat → Nat} {ν : jj_M} (hT : ∀ i, i < 296 → ν 65 i = nI (T i) ∧ T i ≤ 1000000) : ∀ (k i f a : Nat), i + k = 37 → k < f → a ≤ 1000000 → ∃ b, mdf_leastAt_L5 N (nI w) ν f (nI a) (nI i) = some (nI b) ∧ b ≤ a ∧ (b = a ∨ ∃ t, t < 37 ∧ b = T (37 * w + t)) ∧ ∀ t, i ≤ t → t < 37 → b ≤ T (37 * w + t) := by
  intro k
  induction k with
  | zero =>
    intro i f a hi hf ha
    obtain ⟨f, rfl⟩ : ∃ m, f = m + 1 := ⟨f - 1, by omega⟩
    have e : i = 37 := by omega
    subst e
    exact ⟨a, by rw [mdf_leastAt_L5, if_pos (by decide)], Nat.le_refl _, Or.inl rfl, fun t h1 h2 => by omega⟩
  | succ k ih =>
    intro i f a hi hf ha
    obtain ⟨f, rfl⟩ : ∃ m, f = m + 1 := ⟨f - 1, by omega⟩
    have c : ¬ (37 : Int32) ≤ nI i := by rw [show (37 : Int32) = nI 37 from rfl, nz_le (by omega) (by omega)]; omega
    have i1 : (37 : Int32) * nI w + nI i = nI (37 * w + i) := by rw [show (37 : Int32) = nI 37 from rfl, nz_mul, nz_add]
    have g : jj_i (nI (37 * w + i)) 296 := nz_in (by omega) (by omega)
    have kg : (nI (37 * w + i)).toNatClampNeg = 37 * w + i := nz_clamp (by omega)
    obtain ⟨t1, t2⟩ := hT (37 * w + i) (by omega)
    rw [mdf_leastAt_L5, if_neg c]
    simp only [i1, eq_true g, kg, t1, nz_s, ↓reduceIte]
    by_cases q : a ≤ T (37 * w + i)
    · rw [if_pos ((nz_le (by omega) (by omega)).mpr q)]
      obtain ⟨b, b1, b2, b3, b4⟩ := ih (i + 1) f a (by omega) (by omega) ha
      refine ⟨b, b1, b2, b3, fun t h1 h2 => ?_⟩
      by_cases e : t = i
      · rw [e]; omega
      · exact b4 t (by omega) h2
    · rw [if_neg (fun z => q ((nz_le (by omega) (by omega)).mp z))]
      obtain ⟨b, b1, b2, b3, b4⟩ := ih (i + 1) f (T (37 * w + i)) (by omega) (by omega) t2
      refine ⟨b, b1, by omega, Or.inr ?_, fun t h1 h2 => ?_⟩
      · rcases b3 with e | e
        · exact ⟨i, by omega, e⟩
        · exact e
      · by_cases e : t = i
        · rw [e]; exact b2
        · exact b4 t (by omega) h2
