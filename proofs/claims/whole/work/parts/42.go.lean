/-! go -/
theorem jI.rd {μ : jj_M} (h : jI μ) {a b : Nat} (ha : a < 8) (hb : b < 8) : μ 3 (8 * a + b) = μ 61 (8 + (8 * a + b)) ∧ ∃ l, l ≤ 20 ∧ μ 61 (8 + (8 * a + b)) = nI l := by
  have ag := h.ag (j := 8 + (8 * a + b)) (by omega)
  have l1 : lc 1 (8 + (8 * a + b)) = 3 := by unfold lc; rw [if_neg (by omega), if_pos (by omega)]
  have l3 : li (8 + (8 * a + b)) = 8 * a + b := by unfold li; rw [if_neg (by omega), if_pos (by omega)]; omega
  rw [l1, l3] at ag
  have hb1 := h.S.1 (8 + (8 * a + b)) (by omega)
  unfold bdh at hb1
  rw [if_neg (by omega), if_pos (by omega)] at hb1
  obtain ⟨l, l1, l2⟩ := nz_ofb (x := μ 61 (8 + (8 * a + b))) (n := 21) (by omega) (by omega)
  exact ⟨ag, l, by omega, l2⟩
theorem limv_congr {S T : Nat → Int32} {p : Nat} (e0 : T (140 + 6 * p) = S (140 + 6 * p)) (e1 : T (140 + 6 * p + 1) = S (140 + 6 * p + 1)) : limv T p = limv S p := by
  unfold limv
  rw [e0, e1]
theorem dies_ok {μ : jj_M} {p : Nat} (hp : p < 6) : mdf_dies (nI p) μ = some (jj_u μ 61 (140 + 6 * p + 5) (if μ 61 (140 + 6 * p + 4) ≤ limv (μ 61) p then μ 61 (140 + 6 * p + 5) else 1)) := by
  have t4 : mdf_its (nI p) 4 μ = some (μ 61 (140 + 6 * p + 4)) := its_ok (p := p) (j := 4) hp (by omega)
  have t5 : mdf_its (nI p) 5 μ = some (μ 61 (140 + 6 * p + 5)) := its_ok (p := p) (j := 5) hp (by omega)
  have s5 : mdf_spot (nI p) 5 = nI (140 + 6 * p + 5) := spot_ok p 5
  have g5 : jj_i (nI (140 + 6 * p + 5)) 351 := nz_in (by omega) (by omega)
  have n5 : (nI (140 + 6 * p + 5)).toNatClampNeg = 140 + 6 * p + 5 := nz_clamp (by omega)
  unfold mdf_dies
  rw [t4, Option.bind_some, limit_m hp, Option.bind_some, t5, s5]
  simp only [n5]
  by_cases q : μ 61 (140 + 6 * p + 4) ≤ limv (μ 61) p
  · rw [if_pos q, if_pos q, Option.bind_some, if_pos g5]
  · rw [if_neg q, if_neg q, if_pos g5]
theorem roadOf_k {μ : jj_M} {a b : Nat} (ha : a < 8) (hb : b < 8) : mdf_roadOf (nI a) (nI b) μ = some (μ 61 (8 + (8 * a + b))) := by
  unfold mdf_roadOf
  have i : (8 : Int32) + 8 * nI a + nI b = nI (8 + (8 * a + b)) := by rw [show (8 : Int32) = nI 8 from rfl, nz_mul, nz_add, nz_add, Nat.add_assoc]
  rw [i, if_pos (nz_in (by omega) (by omega)), nz_clamp (by omega)]
/-- somebody's thirst grows, on the class's side -/
theorem thirsts_c {ν : jj_M} {S : Nat → Int32} {p : Nat} {x : Int32} (e0 : ν (9 + p) 0 = S (140 + 6 * p)) (e1 : ν (9 + p) 1 = S (140 + 6 * p + 1)) (e5 : ν (9 + p) 5 = 0) : pef_thirsts (9 + p) x ν = jj_u (jj_u ν (9 + p) 4 (ν (9 + p) 4 + x)) (9 + p) 5 (if ν (9 + p) 4 + x ≤ limv S p then 0 else 1) := by
  unfold pef_thirsts
  rw [limit_c (S := S) (p := p) (by rw [ju_other (by omega)]; exact e0) (by rw [ju_other (by omega)]; exact e1), ju_self]
  by_cases q : ν (9 + p) 4 + x ≤ limv S p
  · rw [if_pos q, if_pos q, ju_same (k := 9 + p) (j := 5) (by rw [ju_other (by omega)]; exact e5)]
  · rw [if_neg q, if_neg q]
set_option maxHeartbeats 1000000 in
theorem st_go {μ : jj_M} (h : jI μ) (x1 x2 : Int32) : ∃ (r : Int32) (μ1 : jj_M) (μ2 : jj_M), wnf_go jz_N x1 x2 μ = some (r, μ1) ∧ mdf_go jz_N x1 x2 μ1 = some (r, μ2) ∧ jI μ2 := by
  unfold wnf_go mdf_go
  obtain ⟨n, hn, en, en1⟩ := h.n
  rw [nz_isWell]
  obtain ⟨m1, m2, a, b, c⟩ := err1 h
  have e61 : m1 61 = μ 61 := err_61 (e := 1) (by omega) a 61 (by decide)
  obtain ⟨m3, m4, a3, b3, c3⟩ := err3 h
  have f61 : m3 61 = μ 61 := err_61 (e := 3) (by omega) a3 61 (by decide)
  have ip : ∀ m : jj_M, m 61 = μ 61 → mdf_isPerson x1 m = wnf_isPerson x1 μ := fun m e => isPer_ok hn en1 (by rw [e]; exact en) x1
  by_cases c1 : wnf_isPerson x1 μ = 0
  · exact ⟨-1000000001, m1, m2, by simp only [c1, a, ↓reduceIte, Option.bind_some], by simp only [ip m1 e61, c1, b, ↓reduceIte, Option.bind_some], c⟩
  by_cases c2 : wnf_isWell x2 = 0
  · exact ⟨-1000000001, m1, m2, by simp only [c1, c2, a, ↓reduceIte, Option.bind_some], by simp only [ip m1 e61, c1, c2, b, ↓reduceIte, Option.bind_some], c⟩
  obtain ⟨p, hp, rfl⟩ := nz_per hn en1 c1
  obtain ⟨w, hw, rfl⟩ := nz_well c2
  have hP := h.per hn en hp
  have P := hP
  have g : jj_i (nI p) 6 := nz_in (by omega) (by omega)
  have kp : (nI p).toNatClampNeg = p := nz_clamp (by omega)
  have d9 : 5 + 4 + p = 9 + p := by omega
  have t2 : ∀ m : jj_M, mdf_its (nI p) 2 m = some (m 61 (140 + 6 * p + 2)) := fun m => its_ok (p := p) (j := 2) (by omega) (by omega)
  have t4 : ∀ m : jj_M, mdf_its (nI p) 4 m = some (m 61 (140 + 6 * p + 4)) := fun m => its_ok (p := p) (j := 4) (by omega) (by omega)
  have t5 : ∀ m : jj_M, mdf_its (nI p) 5 m = some (m 61 (140 + 6 * p + 5)) := fun m => its_ok (p := p) (j := 5) (by omega) (by omega)
  have b2 := h.pag hn en hp (j := 2) (by omega)
  have b4 := h.pag hn en hp (j := 4) (by omega)
  have b5 := h.pag hn en hp (j := 5) (by omega)
  obtain ⟨⟨k, hk, ek⟩, ⟨mm, hmm, emm⟩, ⟨v, hv, ev⟩, P4, P5⟩ := P
  by_cases c4 : v = w
  · subst c4
    refine ⟨-1000000001, m1, m2, by simp only [c1, c2, eq_true g, kp, d9, b2, ev, a, ↓reduceIte, Option.bind_some], by simp only [ip m1 e61, c1, c2, t2, e61, ev, b, ↓reduceIte, Option.bind_some], c⟩
  have n1 : ¬ nI v = nI w := nI_ne (by omega) (by omega) c4
  have n2 : ¬ nI w = nI v := fun e => n1 e.symm
  obtain ⟨r1, l, hl, el⟩ := h.rd hv hw
  have i1 : nI v * 8 + nI w = nI (8 * v + w) := by rw [show (8 : Int32) = nI 8 from rfl, nz_mul, nz_add, Nat.mul_comm]
  have g64 : jj_i (nI (8 * v + w)) 64 := nz_in (by omega) (by omega)
  have k64 : (nI (8 * v + w)).toNatClampNeg = 8 * v + w := nz_clamp (by omega)
  have ro : ∀ m : jj_M, m 61 = μ 61 → mdf_roadOf (nI v) (nI w) m = some (nI l) := fun m e => by rw [roadOf_k hv hw, e, el]
  have o1 : ¬ (1 : Int32) = 0 := by decide
  have z1 : ¬ (0 : Int32) = 1 := by decide
  rcases hP.dead with d | d
  rotate_left
  · exact ⟨-1000000003, m3, m4, by simp only [c1, c2, eq_true g, kp, d9, b2, b5, ev, n1, i1, eq_true g64, d, o1, a3, ↓reduceIte, Option.bind_some], by simp only [ip m3 f61, c1, c2, t2, t5, f61, ev, n2, ro m3 f61, d, b3, ↓reduceIte, Option.bind_some], c3⟩
  by_cases c5 : l = 0
  · have l0 : μ 61 (8 + (8 * v + w)) = 0 := by rw [el, c5]; rfl
    have l0' : nI l = 0 := by rw [c5]; rfl
    exact ⟨-1000000003, m3, m4, by simp only [c1, c2, eq_true g, kp, d9, b2, b5, ev, n1, i1, eq_true g64, k64, d, r1, l0, a3, ↓reduceIte, Option.bind_some], by simp only [ip m3 f61, c1, c2, t2, t5, f61, ev, n2, ro m3 f61, d, z1, l0', b3, ↓reduceIte, Option.bind_some], c3⟩
  have ln : ¬ nI l = 0 := nI_ne (b := 0) (by omega) (by omega) c5
  have bh := h.S.1 137 (by omega)
  rw [show bdh 137 = 99999 by decide] at bh
  have ah : μ 1 9 = μ 61 137 := h.ag (j := 137) (by omega)
  obtain ⟨H, hH, eH⟩ := nz_ofb (x := μ 61 137) (n := 100000) (by omega) (by omega)
  have sH : μ 61 137 + nI l = nI (H + l) := by rw [eH, nz_add]
  by_cases c6 : H + l ≤ 99999
  rotate_left
  · have q : ¬ nI (H + l) ≤ 99999 := by rw [show (99999 : Int32) = nI 99999 from rfl, nz_le (by omega) (by omega)]; exact c6
    exact ⟨-1000000003, m3, m4, by simp only [c1, c2, eq_true g, kp, d9, b2, b5, ev, n1, i1, eq_true g64, k64, d, r1, el, ln, ah, sH, q, a3, ↓reduceIte, Option.bind_some], by simp only [ip m3 f61, c1, c2, t2, t5, f61, ev, n2, ro m3 f61, d, z1, ln, sH, q, b3, ↓reduceIte, Option.bind_some], c3⟩
  have q6 : nI (H + l) ≤ 99999 := by rw [show (99999 : Int32) = nI 99999 from rfl, nz_le (by omega) (by omega)]; exact c6
  -- the class
  obtain ⟨M, k1, k2⟩ := parched_s (S := μ 61) (ν := jj_u μ (9 + p) 2 (nI w)) (by rw [ju_ne (by omega), ju_ne (by omega)]; exact h.w.2.2.2.1) (9 + p) (nI l)
  rw [ju_other (show (1 : Nat) ≠ 2 by decide), ju_ne (show (1 : Nat) ≠ 9 + p by omega), h.pag hn en hp (j := 1) (by omega), show μ 1 10 = μ 61 138 from h.ag (j := 138) (by omega)] at k1
  have k1 : wof_parched jz_N 1 (9 + p) (nI l) (jj_u μ (9 + p) 2 (nI w)) = some (parv (μ 61) p (nI l), M) := k1
  obtain ⟨pv, hpv, epv⟩ : ∃ pv, pv ≤ 99 ∧ parv (μ 61) p (nI l) = nI pv := lawv_b _ _ _ _ _
  rw [epv] at k1
  obtain ⟨t, ht, et⟩ : ∃ t, t ≤ 36 ∧ μ 61 (140 + 6 * p + 4) = nI t := by
    rcases P5 with ⟨_, x⟩ | ⟨x, _⟩
    · exact x
    · rw [d] at x; exact absurd x z1
  obtain ⟨dv, hdv⟩ : ∃ dv : Int32, dv = if nI (t + pv) ≤ limv (μ 61) p then 0 else 1 := ⟨_, rfl⟩
  have hM : ∀ j, j ≠ 2 → M (9 + p) j = μ (9 + p) j := fun j hj => by rw [k2 (9 + p) (by omega), ju_other hj]
  have thr : pef_thirsts (9 + p) (nI pv) M = jj_u (jj_u M (9 + p) 4 (nI (t + pv))) (9 + p) 5 dv := by
    rw [thirsts_c (S := μ 61) (p := p) (by rw [hM 0 (by omega)]; exact h.pag hn en hp (j := 0) (by omega)) (by rw [hM 1 (by omega)]; exact h.pag hn en hp (j := 1) (by omega)) (by rw [hM 5 (by omega), b5]; exact d), hM 4 (by omega), b4, et, nz_add, hdv]
  have tM : jTh (cw [(140 + 6 * p + 2, nI w)] μ) M := by
    refine jTh.one (q := 20) (by unfold jFree; omega) (fun k hk => ?_)
    rw [k2 k hk]
    simp only [cw, List.foldl]
    rw [lc_p p 2 (by omega) (by omega), li_p p 2 (by omega) (by omega)]
  obtain ⟨B, tB, eB⟩ := cw_th (L := [(140 + 6 * p + 2, nI w)]) (by intro q hq; rw [List.mem_singleton.mp hq]; unfold dm; omega) tM
  obtain ⟨L, hLdef⟩ : ∃ L : List (Nat × Int32), L = [(140 + 6 * p + 2, nI w), (140 + 6 * p + 4, nI (t + pv)), (140 + 6 * p + 5, dv), (137, nI (H + l))] := ⟨_, rfl⟩
  have hL : ∀ q ∈ L, jok q.1 q.2 := by
    rw [hLdef]
    intro q hq
    simp only [List.mem_cons, List.not_mem_nil, or_false] at hq
    rcases hq with rfl | rfl | rfl | rfl
    · exact ⟨by unfold dm; omega, by omega, fun _ _ _ => by omega⟩
    · exact ⟨by unfold dm; omega, by omega, fun _ _ _ => by omega⟩
    · refine ⟨by unfold dm; omega, by omega, fun _ _ _ => ?_⟩
      show dv = 0 ∨ dv = 1
      rw [hdv]
      split
      · exact Or.inl rfl
      · exact Or.inr rfl
    · exact ⟨by unfold dm; omega, by omega, fun _ _ _ => by omega⟩
  have cwB : cw L B = jj_u (jj_u (jj_u M (9 + p) 4 (nI (t + pv))) (9 + p) 5 dv) 1 9 (nI (H + l)) := by
    have e1 : M = jj_u B (9 + p) 2 (nI w) := by
      rw [eB]
      simp only [cw, List.foldl]
      rw [lc_p p 2 (by omega) (by omega), li_p p 2 (by omega) (by omega)]
    rw [hLdef]
    simp only [cw, List.foldl]
    rw [lc_p p 2 (by omega) (by omega), li_p p 2 (by omega) (by omega), lc_p p 4 (by omega) (by omega), li_p p 4 (by omega) (by omega), lc_p p 5 (by omega) (by omega), li_p p 5 (by omega) (by omega), ← e1]
    rfl
  have IB := tB.I h
  have c61 : cw L B 61 = μ 61 := by rw [cw_out L B 61 (fun q hq => (hL q hq).1) (by omega), tB.r61]
  obtain ⟨m', s1, s2⟩ := thirstBy_m2 (μ := cw L B) (F := μ 18) (C := μ 19) (by rw [c61]; exact h.w.2.2.2.1) (p := p) (by omega) (nI l)
  rw [c61, epv] at s1
  have l61 : m' 61 = μ 61 := s2.r61.trans c61
  have hJ := act_J IB hL s2
  have mwM : mw L m' = jj_u (jj_u (jj_u (jj_u m' 61 (140 + 6 * p + 4) (nI (t + pv))) 61 (140 + 6 * p + 2) (nI w)) 61 137 (nI (H + l))) 61 (140 + 6 * p + 5) dv := by
    rw [hLdef]
    simp only [mw, List.foldl]
    rw [ju_comm2 (μ := m') (a := 61) (b := 140 + 6 * p + 2) (d := 140 + 6 * p + 4) (by omega), ju_comm2 (a := 61) (b := 140 + 6 * p + 5) (d := 137) (by omega)]
  refine ⟨nI (t + pv), cw L B, mw L m', ?_, ?_, hJ.I ?_⟩
  · have hr : (jj_u (jj_u M (9 + p) 4 (nI (t + pv))) (9 + p) 5 dv) 1 9 = nI H := by
      rw [ju_ne (by omega), ju_ne (by omega), k2 1 (by omega), ju_ne (by omega), ah, eH]
    have an : ∀ X : Int32, jj_u (jj_u (jj_u M (9 + p) 4 (nI (t + pv))) (9 + p) 5 dv) 1 9 X (9 + p) 4 = nI (t + pv) := fun X => by rw [ju_ne (by omega), ju_other (by omega), ju_self]
    simp only [c1, c2, eq_true g, kp, d9, b2, b5, ev, n1, i1, eq_true g64, k64, d, r1, el, ln, ah, sH, q6, k1, thr, hr, nz_add, an, cwB, ↓reduceIte, Option.bind_some]
  · have s4 : mdf_spot (nI p) 4 = nI (140 + 6 * p + 4) := spot_ok p 4
    have s2' : mdf_spot (nI p) 2 = nI (140 + 6 * p + 2) := spot_ok p 2
    have g4 : jj_i (nI (140 + 6 * p + 4)) 351 := nz_in (by omega) (by omega)
    have g2 : jj_i (nI (140 + 6 * p + 2)) 351 := nz_in (by omega) (by omega)
    have n4 : (nI (140 + 6 * p + 4)).toNatClampNeg = 140 + 6 * p + 4 := nz_clamp (by omega)
    have n2' : (nI (140 + 6 * p + 2)).toNatClampNeg = 140 + 6 * p + 2 := nz_clamp (by omega)
    have hr : jj_u (jj_u m' 61 (140 + 6 * p + 4) (nI (t + pv))) 61 (140 + 6 * p + 2) (nI w) 61 137 = nI H := by rw [ju_other (by omega), ju_other (by omega), l61, eH]
    have di : mdf_dies (nI p) (jj_u (jj_u (jj_u m' 61 (140 + 6 * p + 4) (nI (t + pv))) 61 (140 + 6 * p + 2) (nI w)) 61 137 (nI (H + l))) = some (mw L m') := by
      rw [dies_ok (by omega), mwM]
      have q4 : jj_u (jj_u (jj_u m' 61 (140 + 6 * p + 4) (nI (t + pv))) 61 (140 + 6 * p + 2) (nI w)) 61 137 (nI (H + l)) 61 (140 + 6 * p + 4) = nI (t + pv) := by rw [ju_other (by omega), ju_other (by omega), ju_self]
      have q5 : jj_u (jj_u (jj_u m' 61 (140 + 6 * p + 4) (nI (t + pv))) 61 (140 + 6 * p + 2) (nI w)) 61 137 (nI (H + l)) 61 (140 + 6 * p + 5) = 0 := by rw [ju_other (by omega), ju_other (by omega), ju_other (by omega), l61]; exact d
      have ql : limv (jj_u (jj_u (jj_u m' 61 (140 + 6 * p + 4) (nI (t + pv))) 61 (140 + 6 * p + 2) (nI w)) 61 137 (nI (H + l)) 61) p = limv (μ 61) p := by
        refine limv_congr ?_ ?_
        · rw [ju_other (by omega), ju_other (by omega), ju_other (by omega), l61]
        · rw [ju_other (by omega), ju_other (by omega), ju_other (by omega), l61]
      rw [q4, q5, ql, hdv]
    have an : mw L m' 61 (140 + 6 * p + 4) = nI (t + pv) := by rw [mwM, ju_other (by omega), ju_other (by omega), ju_other (by omega), ju_self]
    rw [ip (cw L B) c61, if_neg c1]
    simp only [c2, t2, t5, c61, ev, n2, ro (cw L B) c61, d, z1, ln, sH, q6, s4, eq_true g4, n4, s1, et, nz_add, s2', eq_true g2, n2', hr, di, t4, an, ↓reduceIte, Option.bind_some]
  · rw [mwM]
    have up := h.S.up (j := 137) (v := nI (H + l)) (by omega) (fun _ => by rw [show bdh 137 = 99999 by decide]; unfold jb; rw [nz_toInt (by omega)]; omega)
    refine up.person (p := p) (by omega) (fun b hb => ?_) (fun _ => ?_)
    · by_cases e : b = 137
      · rw [e, upd_s, ju_other (by omega), ju_self]
      · rw [ju_other (by omega), ju_other e, ju_other (by omega), ju_other (by omega), l61, upd_n e]
    · have o : ∀ j, j < 2 ∨ j = 3 → jj_u (jj_u (jj_u (jj_u m' 61 (140 + 6 * p + 4) (nI (t + pv))) 61 (140 + 6 * p + 2) (nI w)) 61 137 (nI (H + l))) 61 (140 + 6 * p + 5) dv 61 (140 + 6 * p + j) = μ 61 (140 + 6 * p + j) := fun j hj => by rw [ju_other (by omega), ju_other (by omega), ju_other (by omega), ju_other (by omega), l61]
      obtain ⟨lm, hlm, hlm2, elm⟩ := limv_b hP
      refine ⟨⟨k, hk, ?_⟩, ⟨mm, hmm, ?_⟩, ⟨w, hw, ?_⟩, ?_, ?_⟩
      · rw [show 140 + 6 * p = 140 + 6 * p + 0 from rfl, o 0 (by omega)]; exact ek
      · rw [o 1 (by omega)]; exact emm
      · rw [ju_other (by omega), ju_other (by omega), ju_self]
      · rw [o 3 (by omega)]; exact P4
      · rw [ju_self, ju_other (by omega), ju_other (by omega), ju_other (by omega), ju_self, hdv, elm]
        by_cases q : t + pv ≤ lm
        · rw [if_pos ((nz_le (by omega) (by omega)).mpr q)]
          exact Or.inl ⟨rfl, t + pv, by omega, rfl⟩
        · rw [if_neg (fun e => q ((nz_le (by omega) (by omega)).mp e))]
          exact Or.inr ⟨rfl, t + pv, by omega, rfl⟩
