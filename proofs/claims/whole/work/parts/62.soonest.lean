/-! ===== soonest, drinks ===== -/
def ms (x h k : Nat) : Nat := if x = 1 then h else k
abbrev RS (S : Nat → Int32) (p : Nat) (bar : Int32) (w t h k : Nat) : Prop := Rch (wRd S) (wC S p) (wLim S p) (wDr S p bar) (S (140 + 6 * p + 2)).toNatClampNeg (S (140 + 6 * p + 4)).toNatClampNeg w t h k
/-- where somebody alive is, and how thirsty -/
theorem per_st {S : Nat → Int32} {p : Nat} (P : jPer S p) (d : S (140 + 6 * p + 5) = 0) : (S (140 + 6 * p + 2)).toNatClampNeg < 8 ∧ (S (140 + 6 * p + 4)).toNatClampNeg ≤ 36 ∧ S (140 + 6 * p + 2) = nI (S (140 + 6 * p + 2)).toNatClampNeg ∧ S (140 + 6 * p + 4) = nI (S (140 + 6 * p + 4)).toNatClampNeg := by
  obtain ⟨_, _, ⟨a, ha, ea⟩, _, P5⟩ := P
  obtain ⟨t, ht, et⟩ : ∃ t, t ≤ 36 ∧ S (140 + 6 * p + 4) = nI t := by
    rcases P5 with ⟨_, z⟩ | ⟨z, _⟩
    · exact z
    · rw [d] at z; exact absurd z (by decide)
  rw [ea, et, nz_clamp (by omega), nz_clamp (by omega)]
  exact ⟨ha, ht, rfl, rfl⟩
theorem table_ok {μ : jj_M} (h : jI μ) {n p x : Nat} (hn : n ≤ 6) (en : μ 61 139 = nI n) (hpn : p < n) (d0 : μ 61 (140 + 6 * p + 5) = 0) (hx : x ≤ 1) (bar : Int32) {ν : jj_M} (eν : ν 61 = μ 61) : ∃ Z, mdf_spreads jz_N (nI p) bar (nI x) ν = some Z ∧ thB ν Z ∧ ∀ w, w < 8 → ∃ m, mdf_leastAt jz_N (nI w) Z = some (nI m) ∧ m ≤ 1000000 ∧ (m < 1000000 → ∃ t h k, RS (μ 61) p bar w t h k ∧ m = ms x h k) ∧ ∀ t h k, RS (μ 61) p bar w t h k → m ≤ ms x h k := by
  have big := jz_ge
  have P := h.per hn en hpn
  obtain ⟨s8, t36, es, et⟩ := per_st P d0
  obtain ⟨_, l36⟩ := wLim_ok P
  obtain ⟨s, hs⟩ : ∃ s, s = (μ 61 (140 + 6 * p + 2)).toNatClampNeg := ⟨_, rfl⟩
  obtain ⟨t0, ht⟩ : ∃ t, t = (μ 61 (140 + 6 * p + 4)).toNatClampNeg := ⟨_, rfl⟩
  have hQ : tQ (ν 61) p x bar (fun i v => ∃ h k, RS (μ 61) p bar (i / 37) (i % 37) h k ∧ v = ms x h k) := by
    rw [eν]
    refine ⟨?_, ?_⟩
    · rintro i v hi hv ⟨h, k, a, b⟩ hd
      refine ⟨h, k + 1, ?_, ?_⟩
      · rw [show 37 * (i / 37) / 37 = i / 37 by omega, show 37 * (i / 37) % 37 = 0 by omega]
        exact a.dk hd
      · unfold mD ms
        unfold ms at b
        by_cases q : x = 1
        · rw [if_pos q] at b ⊢; rw [if_pos q]; exact b
        · rw [if_neg q] at b ⊢; rw [if_neg q]; omega
    · rintro i v b hi hv ⟨h, k, a, c⟩ hb hr hl
      refine ⟨h + wRd (μ 61) (i / 37) b, k, ?_, ?_⟩
      · rw [show (37 * b + (i % 37 + wC (μ 61) p (wRd (μ 61) (i / 37) b))) / 37 = b by omega, show (37 * b + (i % 37 + wC (μ 61) p (wRd (μ 61) (i / 37) b))) % 37 = i % 37 + wC (μ 61) p (wRd (μ 61) (i / 37) b) by omega]
        exact a.go hb hr hl
      · unfold mG ms
        unfold ms at c
        by_cases q : x = 1
        · rw [if_pos q] at c ⊢; rw [if_pos q]; omega
        · rw [if_neg q] at c ⊢; rw [if_neg q]; exact c
  obtain ⟨T, Z, a1, a2, a3, a4, a5, a6⟩ := spreads_ok (μ0 := ν) h eν (n := n) (p := p) (x := x) hn (by rw [eν]; exact en) hpn hx bar (s := s) (t0 := t0) (by omega) (by omega) (by rw [eν, hs]; exact es) (by rw [eν, ht]; exact et) hQ ⟨0, 0, by
    rw [show (37 * s + t0) / 37 = s by omega, show (37 * s + t0) % 37 = t0 by omega, hs, ht]
    exact Rch.st, by unfold ms; split <;> rfl⟩ thB.rf
  refine ⟨Z, a1, a2, fun w hw => ?_⟩
  have comp : ∀ t h k, RS (μ 61) p bar w t h k → w < 8 ∧ t ≤ 36 ∧ (ms x h k < 1000000 → T (37 * w + t) ≤ ms x h k) := by
    intro t h k y
    refine y (fun w t h k => w < 8 ∧ t ≤ 36 ∧ (ms x h k < 1000000 → T (37 * w + t) ≤ ms x h k)) ⟨s8, t36, fun _ => by rw [← hs, ← ht, a6]; exact Nat.zero_le _⟩ ?_ ?_
    · rintro w t h k ⟨x1, x2, x3⟩ hd
      refine ⟨x1, by omega, fun e => ?_⟩
      have q1 : ms x h k ≤ ms x h (k + 1) := by unfold ms; split <;> omega
      have le := x3 (by omega)
      have := (a5 (37 * w + t) (by omega) (by omega)).1
      unfold tC1 at this
      rw [show (37 * w + t) / 37 = w by omega, eν] at this
      have := this hd
      have e2 : mD x (T (37 * w + t)) ≤ ms x h (k + 1) := by
        unfold mD ms
        unfold ms at le
        by_cases q : x = 1
        · rw [if_pos q] at le ⊢; rw [if_pos q]; exact le
        · rw [if_neg q] at le ⊢; rw [if_neg q]; omega
      rw [Nat.add_zero]
      omega
    · rintro w t h k v ⟨x1, x2, x3⟩ hv hr hl
      refine ⟨hv, by omega, fun e => ?_⟩
      have q1 : ms x h k ≤ ms x (h + wRd (μ 61) w v) k := by unfold ms; split <;> omega
      have le := x3 (by omega)
      have := (a5 (37 * w + t) (by omega) (by omega)).2 v hv
      unfold tC2 at this
      rw [show (37 * w + t) / 37 = w by omega, show (37 * w + t) % 37 = t by omega, eν] at this
      have := this hr hl
      have e2 : mG x (T (37 * w + t)) (wRd (μ 61) w v) ≤ ms x (h + wRd (μ 61) w v) k := by
        unfold mG ms
        unfold ms at le
        by_cases q : x = 1
        · rw [if_pos q] at le ⊢; rw [if_pos q]; omega
        · rw [if_neg q] at le ⊢; rw [if_neg q]; exact le
      omega
  obtain ⟨m, m1, m2, m3, m4⟩ := leastAt_ok jz_N hw a3 37 0 jz_N 1000000 (by omega) (by omega) (Nat.le_refl _)
  refine ⟨m, m1, m2, fun hl => ?_, fun t h k y => ?_⟩
  · rcases m3 with e | ⟨t, ht, e⟩
    · omega
    · obtain ⟨h, k, b1, b2⟩ := a4 (37 * w + t) (by omega) (by omega)
      rw [show (37 * w + t) / 37 = w by omega, show (37 * w + t) % 37 = t by omega] at b1
      exact ⟨t, h, k, b1, by rw [e]; exact b2⟩
  · obtain ⟨_, c2, c3⟩ := comp t h k y
    by_cases q : ms x h k < 1000000
    · have := m4 t (by omega) (by omega)
      have := c3 q
      omega
    · omega
/-- an error behind thoughts of the reference -/
theorem err_th {A m1 Z : jj_M} (hA : jI A) {e : Nat} (he : e < 6) {x : Int32} (a : wnf_refuse (nI e) A = some (x, m1)) (hZ : jTh m1 Z) : ∃ Z', mdf_errs (-1000000000 - nI e) Z = some (-1000000000 - nI e, Z') ∧ jI Z' := by
  obtain ⟨q1, q2, b1, b2, b3⟩ := both_err hA he
  have e1 : q1 = m1 := by
    rw [b1] at a
    exact (Prod.mk.inj (Option.some.inj a)).2
  subst e1
  have e2 : q2 = jj_u q1 64 e (q1 64 e + 1) := by
    rw [errs_ok he q1] at b2
    exact (Prod.mk.inj (Option.some.inj b2)).2.symm
  refine ⟨_, errs_ok he Z, ?_⟩
  have Z64 : Z 64 = q1 64 := hZ.row (by unfold jFree; omega) (by omega)
  refine jTh.I (μ := q2) ⟨fun k h1 h2 => ?_, fun j hj => ?_⟩ b3
  · rw [e2, Z64]
    by_cases q : k = 64
    · rw [q, ju_rowS, ju_rowS, Z64]
    · rw [ju_ne q, ju_ne q]; exact hZ.1 k h1 h2
  · rw [e2, ju_ne (by decide), ju_ne (by decide)]; exact hZ.2 j hj
theorem rd6.th {μ m : jj_M} (h : rd6 μ m) : jTh μ m := ⟨fun k _ y => h.1 k y, h.2⟩
theorem thB.th0 {μ m : jj_M} (h : thB μ m) : jTh μ m := ⟨fun k h1 h2 => h.1 k h2 (fun e => h1 (by unfold jFree; omega)) (fun e => h1 (by unfold jFree; omega)), h.2⟩
theorem wrongWay_ok {m : jj_M} {x1 x2 : Int32} {p : Nat} (hp : p < 6) (ex : x1 = nI p) (h1 : ¬ mdf_isPerson x1 m = 0) (h2 : ¬ x2 = 0) : mdf_wrongWay x1 x2 m = if m 61 (140 + 6 * p + 5) = 1 then some (-1000000003) else some 0 := by
  unfold mdf_wrongWay
  have t5 : mdf_its (nI p) 5 m = some (m 61 (140 + 6 * p + 5)) := its_ok (p := p) (j := 5) hp (by omega)
  rw [if_neg h1, if_neg h2, ex, t5, Option.bind_some]
theorem wrongWay_1 {m : jj_M} {x1 x2 : Int32} (h : mdf_isPerson x1 m = 0 ∨ x2 = 0) : mdf_wrongWay x1 x2 m = some (-1000000001) := by
  unfold mdf_wrongWay
  by_cases q : mdf_isPerson x1 m = 0
  · rw [if_pos q]
  · rw [if_neg q, if_pos (h.resolve_left q)]
theorem way_ok {μ : jj_M} (h : jI μ) (x1 x2 x3 : Int32) {x : Nat} (hx : x ≤ 1) : ∃ (r : Int32) (μ1 : jj_M) (μ2 : jj_M), wnf_leastTill jz_N x1 x2 x3 (nI x) μ = some (r, μ1) ∧ mdf_way jz_N x1 x2 x3 (nI x) μ1 = some (r, μ2) ∧ jI μ2 := by
  have big := jz_ge
  obtain ⟨n, hn, en, en1⟩ := h.n
  obtain ⟨m1, m2, a, b, c⟩ := err1 h
  have e61 : m1 61 = μ 61 := err_61 (e := 1) (by omega) a 61 (by decide)
  have ip : ∀ m : jj_M, m 61 = μ 61 → mdf_isPerson x1 m = wnf_isPerson x1 μ := fun m e => isPer_ok hn en1 (by rw [e]; exact en) x1
  unfold wnf_leastTill mdf_way
  rw [nz_isWell, nz_isSet]
  have bad : wnf_isPerson x1 μ = 0 ∨ wnf_isWell x2 = 0 ∨ wnf_areWells x3 = 0 → (if wnf_isWell x2 = 0 then mdf_way_B21 jz_N x1 x2 x3 (nI x) x1 0 m1 else if wnf_areWells x3 = 0 then mdf_way_B21 jz_N x1 x2 x3 (nI x) x1 0 m1 else mdf_way_B21 jz_N x1 x2 x3 (nI x) x1 1 m1) = some (-1000000001, m2) := by
    intro hb
    have z : ∀ s2 : Int32, (wnf_isPerson x1 μ = 0 ∨ s2 = 0) → mdf_way_B21 jz_N x1 x2 x3 (nI x) x1 s2 m1 = some (-1000000001, m2) := by
      intro s2 hs
      unfold mdf_way_B21
      rw [wrongWay_1 (by rw [ip m1 e61]; exact hs), Option.bind_some, if_neg (by decide), b]; rfl
    by_cases q2 : wnf_isWell x2 = 0
    · rw [if_pos q2]; exact z 0 (Or.inr rfl)
    · rw [if_neg q2]
      by_cases q3 : wnf_areWells x3 = 0
      · rw [if_pos q3]; exact z 0 (Or.inr rfl)
      · rw [if_neg q3]; exact z 1 (Or.inl (hb.resolve_right (fun e => e.elim q2 q3)))
  by_cases c1 : wnf_isPerson x1 μ = 0
  · exact ⟨-1000000001, m1, m2, by simp only [c1, a, ↓reduceIte, Option.bind_some], bad (Or.inl c1), c⟩
  by_cases c2 : wnf_isWell x2 = 0
  · exact ⟨-1000000001, m1, m2, by simp only [c1, c2, a, ↓reduceIte, Option.bind_some], bad (Or.inr (Or.inl c2)), c⟩
  by_cases c3 : wnf_areWells x3 = 0
  · exact ⟨-1000000001, m1, m2, by simp only [c1, c2, c3, a, ↓reduceIte, Option.bind_some], bad (Or.inr (Or.inr c3)), c⟩
  obtain ⟨p, hp, rfl⟩ := nz_per hn en1 c1
  obtain ⟨v, hv, rfl⟩ := nz_well c2
  have P := h.per hn en hp
  have g : jj_i (nI p) 6 := nz_in (by omega) (by omega)
  have kp : (nI p).toNatClampNeg = p := nz_clamp (by omega)
  have d9 : 5 + 4 + p = 9 + p := by omega
  have a3' := h.pag hn en hp (j := 3) (by omega)
  have a5' := h.pag hn en hp (j := 5) (by omega)
  rw [if_neg c1, if_neg c2, if_neg c3, if_pos g]
  simp only [kp, d9, a3', a5']
  have B : ∀ m : jj_M, m 61 = μ 61 → (if wnf_isWell (nI v) = 0 then mdf_way_B21 jz_N (nI p) (nI v) x3 (nI x) (nI p) 0 m else if wnf_areWells x3 = 0 then mdf_way_B21 jz_N (nI p) (nI v) x3 (nI x) (nI p) 0 m else mdf_way_B21 jz_N (nI p) (nI v) x3 (nI x) (nI p) 1 m) = mdf_way_B21 jz_N (nI p) (nI v) x3 (nI x) (nI p) 1 m := fun m _ => by rw [if_neg c2, if_neg c3]
  have W : ∀ m : jj_M, m 61 = μ 61 → mdf_wrongWay (nI p) 1 m = if μ 61 (140 + 6 * p + 5) = 1 then some (-1000000003) else some 0 := fun m e => by
    rw [wrongWay_ok (p := p) (by omega) rfl (by rw [ip m e]; exact c1) (by decide), e]
  have t3 : ∀ m : jj_M, m 61 = μ 61 → mdf_its (nI p) 3 m = some (μ 61 (140 + 6 * p + 3)) := fun m e => by rw [show (3 : Int32) = nI 3 from rfl, its_ok (by omega) (by omega), e]
  rcases P.dead with d | d
  rotate_left
  · obtain ⟨m3, m4, a3, b3, c3'⟩ := err3 h
    have f61 : m3 61 = μ 61 := err_61 (e := 3) (by omega) a3 61 (by decide)
    refine ⟨-1000000003, m3, m4, ?_, ?_, c3'⟩
    · rw [if_neg (by rw [d]; decide), a3]; rfl
    · rw [B m3 f61]
      unfold mdf_way_B21
      rw [W m3 f61, if_pos d, Option.bind_some, if_neg (by decide), b3]; rfl
  have n1 : ¬ μ 61 (140 + 6 * p + 5) = 1 := by rw [d]; decide
  rw [if_pos d]
  by_cases c4 : μ 61 (140 + 6 * p + 3) = nI v
  · refine ⟨0, μ, μ, by rw [if_pos c4], ?_, h⟩
    rw [B μ rfl]
    unfold mdf_way_B21
    rw [W μ rfl, if_neg n1, Option.bind_some, if_pos rfl, t3 μ rfl, Option.bind_some, if_pos c4]
  rw [if_neg c4]
  obtain ⟨M, k1, k2, ⟨k3, l, k4, k5⟩, k6, k7, k8, k9⟩ := think_ok h hn en hp d x3
  rw [k1, Option.bind_some]
  obtain ⟨s8, t36, es, et⟩ := per_st P d
  obtain ⟨_, l36⟩ := wLim_ok P
  have hR : ∀ u w, u < 8 → w < 8 → wRd (μ 61) u w ≤ 20 := fun u w hu hw => (wRd_ok h hu hw).2.2
  -- what the class answers
  have C : ∃ r A, (if nI x = 0 then (wyf_fewestDrinks jz_N (nI v) M).bind fun q11 => if 0 ≤ q11.1 then some ((q11.1, q11.2)) else (wnf_refuse 2 q11.2).bind fun q13 => some ((q13.1, q13.2)) else (wyf_soonestHours jz_N (nI v) M).bind fun q14 => if 0 ≤ q14.1 then some ((q14.1, q14.2)) else (wnf_refuse 2 q14.2).bind fun q16 => some ((q16.1, q16.2))) = (if 0 ≤ r then some ((r, A)) else (wnf_refuse 2 A).bind fun q13 => some ((q13.1, q13.2))) ∧ thT μ A ∧ ((r = -1 ∧ ¬ (wDr (μ 61) p x3 v = true ∧ ∃ t h k, RS (μ 61) p x3 v t h k)) ∨ ∃ m, r = nI (if x = 1 then m else m + 1) ∧ m ≤ 2000 ∧ wDr (μ 61) p x3 v = true ∧ (∃ t h k, RS (μ 61) p x3 v t h k ∧ ms x h k ≤ m) ∧ ∀ t h k, RS (μ 61) p x3 v t h k → m ≤ ms x h k) := by
    rcases (by omega : x = 0 ∨ x = 1) with x0 | x0
    · obtain ⟨r, A, q1, q2, q3⟩ := drinks_c (N := jz_N) (by omega) k3 (s := (μ 61 (140 + 6 * p + 2)).toNatClampNeg) (t0 := (μ 61 (140 + 6 * p + 4)).toNatClampNeg) l36 t36 s8 hR hv k9 (fun w _ => rfl)
      refine ⟨r, A, ?_, fun k h1 h2 h3 h4 h5 h6 h7 => by rw [q2 k h5]; exact k2 k h1 h2 h3 h4 h5 h6 h7, ?_⟩
      · rw [if_pos (show nI x = 0 by rw [x0]; rfl), q1, Option.bind_some]
      · rcases q3 with z | ⟨n0, z1, z2, z3, ⟨t, hh, k, z4, z5⟩, z6⟩
        · exact Or.inl z
        · right
          have z7 := z6 t hh k z5
          refine ⟨n0 - 1, ?_, by omega, z3, ⟨t, hh, k, z5, by unfold ms; rw [if_neg (by omega)]; omega⟩, fun t h k y => ?_⟩
          · rw [z1, if_neg (by omega)]
            congr 1
            omega
          · have := z6 t h k y
            unfold ms
            rw [if_neg (by omega)]
            omega
    · obtain ⟨r, A, q1, q2, q3⟩ := soonest_c (N := jz_N) (by omega) k3 (s := (μ 61 (140 + 6 * p + 2)).toNatClampNeg) (t0 := (μ 61 (140 + 6 * p + 4)).toNatClampNeg) k4 k5 l36 t36 s8 hR hv k9 (fun w _ => rfl)
      refine ⟨r, A, ?_, fun k h1 h2 h3 h4 h5 h6 h7 => by rw [q2 k h5 h6]; exact k2 k h1 h2 h3 h4 h5 h6 h7, ?_⟩
      · rw [if_neg (show ¬ nI x = 0 by rw [x0]; decide), q1, Option.bind_some]
      · rcases q3 with z | ⟨h0, z1, z2, z3, ⟨t, k, z5⟩, z6⟩
        · exact Or.inl z
        · right
          refine ⟨h0, by rw [z1, if_pos x0], by omega, z3, ⟨t, h0, k, z5, by unfold ms; rw [if_pos x0]; exact Nat.le_refl _⟩, fun t h k y => ?_⟩
          unfold ms
          rw [if_pos x0]
          refine Decidable.byContradiction (fun q => ?_)
          exact z6 h (by omega) ⟨t, k, y⟩
  obtain ⟨r, A, C1, C2, C3⟩ := C
  rw [C1]
  have IA := C2.th.I h
  have A61 : A 61 = μ 61 := C2.th.r61
  -- what the reference answers, from a state that has the same row
  have M2 : ∀ ν : jj_M, ν 61 = μ 61 → ∃ Z Z2 m, thB ν Z ∧ rd6 Z Z2 ∧ m ≤ 1000000 ∧ (m < 1000000 → ∃ t h k, RS (μ 61) p x3 v t h k ∧ m = ms x h k) ∧ (∀ t h k, RS (μ 61) p x3 v t h k → m ≤ ms x h k) ∧ mdf_way_B21 jz_N (nI p) (nI v) x3 (nI x) (nI p) 1 ν = if nI m = 1000000 then (mdf_errs (-1000000002) Z).bind fun q8 => some ((q8.1, q8.2)) else if (if wDr (μ 61) p x3 v = true then (1 : Int32) else 0) = 0 then (mdf_errs (-1000000002) Z2).bind fun q12 => some ((q12.1, q12.2)) else if nI x = 0 then some ((nI m + 1, Z2)) else some ((nI m, Z2)) := by
    intro ν eν
    obtain ⟨Z, z1, z2, z3⟩ := table_ok h hn en hp d hx x3 eν
    obtain ⟨m, w1, w2, w3, w4⟩ := z3 v hv
    obtain ⟨Z2, y1, y2⟩ := may_m h (μ0 := ν) eν (p := p) (w := v) (by omega) hv x3 z2
    rw [eν] at y1
    refine ⟨Z, Z2, m, z2, y2, w2, w3, w4, ?_⟩
    unfold mdf_way_B21
    rw [W ν eν, if_neg n1, Option.bind_some, if_pos rfl, t3 ν eν, Option.bind_some, if_neg c4, z1, Option.bind_some, w1, Option.bind_some, y1, Option.bind_some]
  rcases C3 with ⟨r1, r2⟩ | ⟨m0, r1, r2, r3, ⟨t, hh, k, r4, r5⟩, r6⟩
  · obtain ⟨q1, q2, b1, _, _⟩ := err2 IA
    have q61 : q1 61 = μ 61 := by rw [err_61 (e := 2) (by omega) b1 61 (by decide), A61]
    obtain ⟨Z, Z2, m, z1, z2, z3, z4, z5, z6⟩ := M2 q1 q61
    obtain ⟨E1, f1, f2⟩ := err_th IA (e := 2) (by omega) b1 z1.th0
    obtain ⟨E2, f3, f4⟩ := err_th IA (e := 2) (by omega) b1 (z1.th0.tr z2.th)
    have f1 : mdf_errs (-1000000002) Z = some (-1000000002, E1) := f1
    have f3 : mdf_errs (-1000000002) Z2 = some (-1000000002, E2) := f3
    by_cases q : m < 1000000
    · obtain ⟨t, hh, k, y, _⟩ := z4 q
      have nd : ¬ wDr (μ 61) p x3 v = true := fun e => r2 ⟨e, t, hh, k, y⟩
      refine ⟨-1000000002, q1, E2, ?_, ?_, f4⟩
      · rw [r1, if_neg (by decide), b1]; rfl
      · rw [B q1 q61, z6, if_neg (by rw [show (1000000 : Int32) = nI 1000000 from rfl]; exact nI_ne (by omega) (by omega) (by omega)), if_neg nd, if_pos rfl, f3]; rfl
    · have em : m = 1000000 := by omega
      refine ⟨-1000000002, q1, E1, ?_, ?_, f2⟩
      · rw [r1, if_neg (by decide), b1]; rfl
      · rw [B q1 q61, z6, if_pos (by rw [em]; rfl), f1]; rfl
  · obtain ⟨Z, Z2, m, z1, z2, z3, z4, z5, z6⟩ := M2 A A61
    have le := z5 t hh k r4
    obtain ⟨t', h', k', y1, y2⟩ := z4 (by omega)
    have := r6 t' h' k' y1
    have em : m = m0 := by omega
    subst em
    have rb : (if x = 1 then m else m + 1) < 2147483648 := by split <;> omega
    refine ⟨r, A, Z2, ?_, ?_, (z1.th0.tr z2.th).I IA⟩
    · rw [if_pos (by rw [r1]; exact nI_nn rb)]
    · rw [B A A61, z6, if_neg (by rw [show (1000000 : Int32) = nI 1000000 from rfl]; exact nI_ne (by omega) (by omega) (by omega)), if_pos r3, if_neg (show ¬ (1 : Int32) = 0 by decide), r1]
      rcases (by omega : x = 0 ∨ x = 1) with x0 | x0
      · rw [if_pos (show nI x = 0 by rw [x0]; rfl), if_neg (by omega), nz_s]
      · rw [if_neg (show ¬ nI x = 0 by rw [x0]; decide), if_pos x0]
theorem st_soonest {μ : jj_M} (h : jI μ) (x1 x2 x3 : Int32) : ∃ (r : Int32) (μ1 : jj_M) (μ2 : jj_M), wnf_soonest jz_N x1 x2 x3 μ = some (r, μ1) ∧ mdf_soonest jz_N x1 x2 x3 μ1 = some (r, μ2) ∧ jI μ2 := by
  obtain ⟨r, m1, m2, a, b, c⟩ := way_ok h x1 x2 x3 (x := 1) (by omega)
  refine ⟨r, m1, m2, ?_, ?_, c⟩
  · unfold wnf_soonest
    have a : wnf_leastTill jz_N x1 x2 x3 1 μ = some (r, m1) := a
    rw [a]; rfl
  · unfold mdf_soonest
    have b : mdf_way jz_N x1 x2 x3 1 m1 = some (r, m2) := b
    rw [b]; rfl
theorem st_drinks {μ : jj_M} (h : jI μ) (x1 x2 x3 : Int32) : ∃ (r : Int32) (μ1 : jj_M) (μ2 : jj_M), wnf_drinks jz_N x1 x2 x3 μ = some (r, μ1) ∧ mdf_drinks jz_N x1 x2 x3 μ1 = some (r, μ2) ∧ jI μ2 := by
  obtain ⟨r, m1, m2, a, b, c⟩ := way_ok h x1 x2 x3 (x := 0) (by omega)
  refine ⟨r, m1, m2, ?_, ?_, c⟩
  · unfold wnf_drinks
    have a : wnf_leastTill jz_N x1 x2 x3 0 μ = some (r, m1) := a
    rw [a]; rfl
  · unfold mdf_drinks
    have b : mdf_way jz_N x1 x2 x3 0 m1 = some (r, m2) := b
    rw [b]; rfl
