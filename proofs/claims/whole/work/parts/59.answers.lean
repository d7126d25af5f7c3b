/-! the class's answers -/
section
variable {R : Nat → Nat → Nat} {C : Nat → Nat} {lim : Nat} {dr : Nat → Bool} {s t0 : Nat}
theorem soonest_c {N : Nat} (hN : 2000 < N) {μ0 : jj_M} (hK : spK R C lim dr μ0) {l0 : List Nat} (hm : mkL (μ0 41 0) l0) (hm2 : ∀ w, w ∈ l0 ↔ w < 8 ∧ dr w = true) (hlim : lim ≤ 36) (ht0 : t0 ≤ 36) (hs8 : s < 8) (hR : ∀ a b, a < 8 → b < 8 → R a b ≤ 20) {v : Nat} (hv : v < 8) {L : Nat → Nat} (hL : ∀ w, w < 8 → μ0 43 w = nI (L w) ∧ L w ≤ 1000000) (eL : ∀ w, w < 8 → L w = if w = s then t0 else 1000000) : ∃ r m, wyf_soonestHours N (nI v) μ0 = some (r, m) ∧ (∀ q, q ≠ 43 → q ≠ 44 → m q = μ0 q) ∧ ((r = -1 ∧ ¬ (dr v = true ∧ ∃ t h k, Rch R C lim dr s t0 v t h k)) ∨ ∃ h0, r = nI h0 ∧ h0 ≤ 1600 ∧ dr v = true ∧ (∃ t k, Rch R C lim dr s t0 v t h0 k) ∧ ∀ j, j < h0 → ¬ ∃ t k, Rch R C lim dr s t0 v t j k) := by
  obtain ⟨y, L1, μ1, a1, a2, a3, _, _⟩ := dwp_ok (N := N) (by omega) hK (L := L) (μ := μ0) ⟨fun _ _ => rfl, hL⟩
  obtain ⟨F, f1, f2, f3, _⟩ := fill_ok (N := N) (p := 44) (n0 := 168) (v := 1000000) (by omega) 168 0 N μ1 (by omega) (by omega)
  have f1 : jdf_fill N 44 168 1000000 μ1 = some F := f1
  have z : ¬ (0 : Int32) < 0 := by decide
  have z2 : (0 : Int32).toNatClampNeg = 0 := by decide
  have k8 : (8 : Int32).toNatClampNeg = 8 := by decide
  have z8 : ¬ (8 : Int32) < 0 := by decide
  have cg : jj_cg 0 0 8 8 168 := ⟨z, z, z8, by rw [k8, z2]; omega, by rw [k8, z2]; omega⟩
  obtain ⟨M, hM⟩ : ∃ M, M = jj_uc F 44 (va_cpy (F 43) (F 44) 0 0 8) := ⟨_, rfl⟩
  have Mo : ∀ k, k ≠ 43 → k ≠ 44 → M k = μ0 k := fun k h1 h2 => by rw [hM, juc_ne h2, f2 k h2, a2.1 k h1]
  have M43 : M 43 = μ1 43 := by rw [hM, juc_ne (by decide), f2 43 (by decide)]
  have M44 : ∀ w, w < 8 → M 44 w = nI (L1 w) := fun w hw => by
    rw [hM, juc_eq, cpy0, if_pos hw, f2 43 (by decide)]
    exact (a2.2 w hw).1
  have KM : spK R C lim dr M := hK.to (Mo 72 (by decide) (by decide)) (Mo 41 (by decide) (by decide)) (Mo 42 (by decide) (by decide))
  have L1s : ∀ w, w < 8 → ¬ w = s → L1 w = 1000000 := fun w hw hn => by
    rw [a3 w hw, eL w hw, if_neg hn, if_neg (fun e => by have := e.2; omega)]
  have L1t : L1 s = if dr s = true then 0 else t0 := by
    rw [a3 s hs8, eL s hs8, if_pos rfl]
    by_cases q : dr s = true
    · rw [if_pos q, if_pos ⟨q, by omega⟩]
    · rw [if_neg q, if_neg (fun e => q e.1)]
  have snd : ∀ w, w < 8 → L1 w < 1000000 → L1 w ≤ 36 ∧ ∃ k, Rch R C lim dr s t0 w (L1 w) 0 k := fun w hw hl => by
    by_cases q : w = s
    · subst q
      rw [L1t]
      by_cases q : dr w = true
      · rw [if_pos q]; exact ⟨by omega, 1, Rch.st.dk q⟩
      · rw [if_neg q]; exact ⟨ht0, 0, Rch.st⟩
    · rw [L1s w hw q] at hl; omega
  obtain ⟨r, m, l, b1, b2, b3, b4⟩ := reached_ok (N := N) (by omega) KM hlim ht0 hs8 (L := L1) (μ := M) ⟨fun _ _ => rfl, fun w hw => by rw [M43]; exact a2.2 w hw⟩ (fun w hw hl => by
    obtain ⟨c1, k, c2⟩ := snd w hw hl
    exact ⟨c1, 0, k, c2⟩) (by rw [L1t]; split <;> omega)
  have m41 : m 41 = μ0 41 := by rw [b2 41 (by decide), Mo 41 (by decide) (by decide)]
  obtain ⟨l', c1, c2⟩ := b3.and (y := m 41 0) (l2 := l0) (by rw [m41]; exact hm)
  have hin : v ∈ l' ↔ dr v = true ∧ ∃ t h k, Rch R C lim dr s t0 v t h k := by
    rw [c2 v hv, b4 v hv, hm2 v]
    exact ⟨fun e => ⟨e.2.2, e.1⟩, fun e => ⟨e.2, hv, e.1⟩⟩
  have mo : ∀ q, q ≠ 43 → q ≠ 44 → m q = μ0 q := fun q h1 h2 => by rw [b2 q h1, Mo q h1 h2]
  have head : wyf_soonestHours N (nI v) μ0 = if (if v ∈ l' then (1 : Int32) else 0) = 0 then some (-1, m) else wyf_soonestHours_L49 N (nI v) N 0 m := by
    unfold wyf_soonestHours
    rw [a1, Option.bind_some]
    simp only []
    rw [f1, Option.bind_some, if_pos cg, z2, k8, Option.bind_some, ← hM, b1, Option.bind_some]
    simp only []
    rw [c1.isIn hv]
  rw [head]
  by_cases q : v ∈ l'
  rotate_left
  · rw [if_neg q, if_pos rfl]
    exact ⟨-1, m, rfl, mo, Or.inl ⟨rfl, fun e => q (hin.mpr e)⟩⟩
  rw [if_pos q, if_neg (show ¬ (1 : Int32) = 0 by decide)]
  obtain ⟨d, t, h, k, x⟩ := hin.mp q
  obtain ⟨t', h', k', x', x1, _, _⟩ := x.short hR hs8
  have Km : spK R C lim dr m := KM.to (b2 72 (by decide)) (b2 41 (by decide)) (b2 42 (by decide))
  obtain ⟨h0, m', e1, e2, e3, e4, e5⟩ := soon_L (N := N) (by omega) Km hlim ht0 hs8 (v := v) (hs := h') hv (by omega) ⟨t', k', x'⟩ h' 0 N m (by omega) (by omega) (fun _ _ _ => rfl) (fun j hj => by omega) (by
    rw [if_pos rfl]
    intro w hw
    rw [show 8 * (0 % 21) + w = w by omega, b2 44 (by decide), M44 w hw]
    refine ⟨L1 w, rfl, (a2.2 w hw).2, fun hl => (snd w hw hl).2, fun t k x => ?_⟩
    obtain ⟨z1, z2⟩ := x.zero
    subst z1
    rw [L1t]
    rcases z2 with z2 | ⟨z2, z3⟩
    · split <;> omega
    · rw [if_pos z2]; omega)
  have e1 : wyf_soonestHours_L49 N (nI v) N 0 m = some (nI h0, m') := e1
  exact ⟨nI h0, m', e1, fun q h1 h2 => by rw [e3 q h2, mo q h1 h2], Or.inr ⟨h0, rfl, e2, d, e4, e5⟩⟩
theorem drinks_L {N : Nat} (hN : 2000 < N) {μ0 : jj_M} (hK : spK R C lim dr μ0) (hlim : lim ≤ 36) (ht0 : t0 ≤ 36) (hs8 : s < 8) (hR : ∀ a b, a < 8 → b < 8 → R a b ≤ 20) {v : Nat} (hv : v < 8) (hd : dr v = true) : ∀ (k n f y : Nat) (L : Nat → Nat) (μ : jj_M), n + k = 9 → k < f → 1 ≤ n → y ≤ 1 → spS μ0 L μ → (∀ w, w < 8 → L w < 1000000 → L w ≤ 36 ∧ ∃ h k, k + 1 ≤ n ∧ Rch R C lim dr s t0 w (L w) h k) → L s ≤ t0 → (∀ w t h k, Rch R C lim dr s t0 w t h k → k + 2 ≤ n → L w ≤ t ∧ (dr w = true → L w = 0)) → (∀ t h k, Rch R C lim dr s t0 v t h k → n ≤ k + 1) → (y = 0 → ¬ ∃ t h k, Rch R C lim dr s t0 v t h k) → ∃ r m, wyf_fewestDrinks_L17 N (nI v) f (nI y) (nI n) μ = some (r, m) ∧ (∀ q, q ≠ 43 → m q = μ0 q) ∧ ((r = -1 ∧ ¬ (dr v = true ∧ ∃ t h k, Rch R C lim dr s t0 v t h k)) ∨ ∃ n0, r = nI n0 ∧ n0 ≤ 8 ∧ dr v = true ∧ (∃ t h k, k + 1 ≤ n0 ∧ Rch R C lim dr s t0 v t h k) ∧ ∀ t h k, Rch R C lim dr s t0 v t h k → n0 ≤ k + 1) := by
  intro k
  induction k with
  | zero =>
    intro n f y L μ hn hf h1 hy1 hS _ _ _ hc _
    obtain ⟨f, rfl⟩ : ∃ m, f = m + 1 := ⟨f - 1, by omega⟩
    have e : n = 9 := by omega
    subst e
    refine ⟨-1, μ, by rw [wyf_fewestDrinks_L17, if_pos (by decide)], hS.1, Or.inl ⟨rfl, ?_⟩⟩
    rintro ⟨_, t, h, k, x⟩
    obtain ⟨t', h', k', x', _, _, x2⟩ := x.short hR hs8
    have := hc t' h' k' x'
    omega
  | succ k ih =>
    intro n f y L μ hn hf h1 hy1 hS hL hLs ha hc hy
    obtain ⟨f, rfl⟩ : ∃ m, f = m + 1 := ⟨f - 1, by omega⟩
    have c : ¬ (8 : Int32) < nI n := by rw [show (8 : Int32) = nI 8 from rfl, nz_lt (by omega) (by omega)]; omega
    rw [wyf_fewestDrinks_L17, if_neg c]
    rcases (by omega : y = 0 ∨ y = 1) with y0 | y0
    · rw [if_pos (show nI y = 0 by rw [y0]; rfl)]
      exact ⟨-1, μ, rfl, hS.1, Or.inl ⟨rfl, fun e => hy y0 e.2⟩⟩
    rw [if_neg (show ¬ nI y = 0 by rw [y0]; decide)]
    obtain ⟨I, hI⟩ : ∃ I : (Nat → Nat) → Prop, I = fun L => ∀ w, w < 8 → L w < 1000000 → L w ≤ 36 ∧ ∃ h k, k + 1 ≤ n ∧ Rch R C lim dr s t0 w (L w) h k := ⟨_, rfl⟩
    have I1 : I L := by rw [hI]; exact hL
    have I2 : spI R C lim dr 0 I := by
      intro L u w hL hu hw hl hr hle hlt
      rw [hI] at hL ⊢
      obtain ⟨_, h, k, kn, x⟩ := hL u hu hl
      intro w' hw' hlw
      by_cases q : w' = w
      · subst q
        rw [gup_s]
        unfold spV
        rw [if_neg (fun e => by have := e.1; omega)]
        exact ⟨by omega, _, k, kn, x.go hw' hr hle⟩
      · rw [gup_n q] at hlw ⊢
        exact hL w' hw' hlw
    obtain ⟨L1, μ1, b1, b2, b3, b4, b5⟩ := spread_ok (N := N) hN (by omega : 0 ≤ 1) hK I2 (B := 36) (fun L hL w hw hl => by rw [hI] at hL; exact (hL w hw hl).1) hS I1 (by have := gPhi_b (B := 36) L; omega)
    have b1 : wyf_spread N 0 μ = some μ1 := b1
    rw [hI] at b3
    have go1 : ∀ u w, u < 8 → w < 8 → L1 u < 1000000 → 0 < R u w → L1 u + C (R u w) ≤ lim → L1 w ≤ L1 u + C (R u w) := by
      intro u w hu hw hl hr hle
      have := b5 u w hu hw hl hr hle
      unfold spV at this
      rwa [if_neg (fun e => by have := e.1; omega)] at this
    have cl : ∀ w t h k, Rch R C lim dr s t0 w t h k → k + 1 ≤ n → L1 w ≤ t := by
      intro w t h k x
      have := x (fun w t h k => Rch R C lim dr s t0 w t h k ∧ w < 8 ∧ t ≤ 36 ∧ (k + 1 ≤ n → L1 w ≤ t)) ⟨Rch.st, hs8, ht0, fun _ => Nat.le_trans (b4 s) hLs⟩ ?_ ?_
      · exact this.2.2.2
      · rintro w t h k ⟨x1, x2, x3, x4⟩ hdw
        refine ⟨x1.dk hdw, x2, by omega, fun e => ?_⟩
        have := (ha w t h k x1 (by omega)).2 hdw
        have := b4 w
        omega
      · rintro w t h k u ⟨x1, x2, x3, x4⟩ hu hr hl
        refine ⟨x1.go hu hr hl, hu, by omega, fun e => ?_⟩
        have y1 := x4 e
        have := go1 w u x2 hu (by omega) hr (by omega)
        omega
    have gv : jj_i (nI v) 8 := nz_in (by omega) (by omega)
    have kv : (nI v).toNatClampNeg = v := nz_clamp (by omega)
    rw [b1, Option.bind_some, if_pos gv]
    simp only [kv, (b2.2 v hv).1]
    by_cases q : L1 v < 1000000
    · rw [if_neg (by rw [show (1000000 : Int32) = nI 1000000 from rfl, nz_le (by omega) (by omega)]; omega)]
      obtain ⟨_, h, k', kn, x⟩ := b3 v hv q
      exact ⟨nI n, μ1, rfl, b2.1, Or.inr ⟨n, rfl, by omega, hd, ⟨_, h, k', kn, x⟩, hc⟩⟩
    · have l2 := (b2.2 v hv).2
      rw [if_pos (by rw [show (1000000 : Int32) = nI 1000000 from rfl, nz_le (by omega) (by omega)]; omega)]
      obtain ⟨y', L2, μ2, d1, d2, d3, d4, d5⟩ := dwp_ok (N := N) (by omega) hK b2
      rw [d1, Option.bind_some]
      simp only []
      rw [nz_s]
      have L2le : ∀ w, w < 8 → L2 w ≤ L1 w := fun w hw => by rw [d3 w hw]; split <;> omega
      refine ih (n + 1) f y' L2 μ2 (by omega) (by omega) (by omega) d4 d2 ?_ (Nat.le_trans (L2le s hs8) (Nat.le_trans (b4 s) hLs)) ?_ ?_ ?_
      · intro w hw hl
        rw [d3 w hw] at hl ⊢
        by_cases z : dr w = true ∧ L1 w < 1000000
        · rw [if_pos z]
          obtain ⟨_, h, k', kn, x⟩ := b3 w hw z.2
          exact ⟨by omega, h, k' + 1, by omega, x.dk z.1⟩
        · rw [if_neg z] at hl ⊢
          obtain ⟨z1, h, k', kn, x⟩ := b3 w hw hl
          exact ⟨z1, h, k', by omega, x⟩
      · intro w t h k' x hk
        have w8 := x.w8 hs8
        have t36 := x.t36 ht0 hlim
        have le := cl w t h k' x (by omega)
        refine ⟨Nat.le_trans (L2le w w8) le, fun z => ?_⟩
        rw [d3 w w8, if_pos ⟨z, by omega⟩]
      · intro t h k' x
        have t36 := x.t36 ht0 hlim
        refine Decidable.byContradiction (fun z => ?_)
        have := cl v t h k' x (by omega)
        omega
      · rintro y0 ⟨t, h, k', x⟩
        have e21 := d5 y0
        have all := x (fun w t _ _ => w < 8 ∧ t ≤ 36 ∧ L1 w ≤ t) ⟨hs8, ht0, Nat.le_trans (b4 s) hLs⟩ (by
          rintro w t _ _ ⟨x1, x2, x3⟩ hdw
          refine ⟨x1, by omega, ?_⟩
          have := d3 w x1
          rw [if_pos ⟨hdw, by omega⟩, e21] at this
          omega) (by
          rintro w t _ _ u ⟨x1, x2, x3⟩ hu hr hl
          refine ⟨hu, by omega, ?_⟩
          have := go1 w u x1 hu (by omega) hr (by omega)
          omega)
        omega
theorem drinks_c {N : Nat} (hN : 2000 < N) {μ0 : jj_M} (hK : spK R C lim dr μ0) (hlim : lim ≤ 36) (ht0 : t0 ≤ 36) (hs8 : s < 8) (hR : ∀ a b, a < 8 → b < 8 → R a b ≤ 20) {v : Nat} (hv : v < 8) {L : Nat → Nat} (hL : ∀ w, w < 8 → μ0 43 w = nI (L w) ∧ L w ≤ 1000000) (eL : ∀ w, w < 8 → L w = if w = s then t0 else 1000000) : ∃ r m, wyf_fewestDrinks N (nI v) μ0 = some (r, m) ∧ (∀ q, q ≠ 43 → m q = μ0 q) ∧ ((r = -1 ∧ ¬ (dr v = true ∧ ∃ t h k, Rch R C lim dr s t0 v t h k)) ∨ ∃ n0, r = nI n0 ∧ n0 ≤ 8 ∧ dr v = true ∧ (∃ t h k, k + 1 ≤ n0 ∧ Rch R C lim dr s t0 v t h k) ∧ ∀ t h k, Rch R C lim dr s t0 v t h k → n0 ≤ k + 1) := by
  unfold wyf_fewestDrinks
  rw [hK.2.2.2.2 v hv]
  by_cases d : dr v = true
  rotate_left
  · rw [if_neg d, if_pos rfl]
    exact ⟨-1, μ0, rfl, fun _ _ => rfl, Or.inl ⟨rfl, fun e => d e.1⟩⟩
  rw [if_pos d, if_neg (show ¬ (1 : Int32) = 0 by decide)]
  exact drinks_L hN hK hlim ht0 hs8 hR hv d 8 1 N 1 L μ0 (by omega) (by omega) (by omega) (by omega) ⟨fun _ _ => rfl, hL⟩ (fun w hw hl => by
    rw [eL w hw] at hl ⊢
    by_cases q : w = s
    · rw [if_pos q, q]; exact ⟨ht0, 0, 0, by omega, Rch.st⟩
    · rw [if_neg q] at hl; omega) (by rw [eL s hs8, if_pos rfl]; exact Nat.le_refl _) (fun w t h k _ e => by omega) (fun t h k _ => by omega) (fun e => by omega)
end
