theorem two_ok {x1 x2 : Int32} : wnf_areTwoWells x1 x2 = 0 ∨ (¬ wnf_areTwoWells x1 x2 = 0 ∧ ∃ a b, a < 8 ∧ b < 8 ∧ a ≠ b ∧ x1 = nI a ∧ x2 = nI b) := by
  unfold wnf_areTwoWells
  by_cases c1 : wnf_isWell x1 = 0
  · left; rw [if_pos c1]
  by_cases c2 : wnf_isWell x2 = 0
  · left; rw [if_neg c1, if_pos c2]
  by_cases c3 : x1 = x2
  · left; rw [if_neg c1, if_neg c2, if_pos c3]
  right
  rw [if_neg c1, if_neg c2, if_neg c3]
  obtain ⟨a, ha, rfl⟩ := nz_well c1
  obtain ⟨b, hb, rfl⟩ := nz_well c2
  exact ⟨by decide, a, b, ha, hb, fun q => c3 (by rw [q]), rfl, rfl⟩
theorem two_no {x1 x2 : Int32} (h : wnf_areTwoWells x1 x2 = 0) : wnf_isWell x1 = 0 ∨ (¬ wnf_isWell x1 = 0 ∧ wnf_isWell x2 = 0) ∨ (¬ wnf_isWell x1 = 0 ∧ ¬ wnf_isWell x2 = 0 ∧ x1 = x2) := by
  unfold wnf_areTwoWells at h
  by_cases c1 : wnf_isWell x1 = 0
  · exact Or.inl c1
  by_cases c2 : wnf_isWell x2 = 0
  · exact Or.inr (Or.inl ⟨c1, c2⟩)
  by_cases c3 : x1 = x2
  · exact Or.inr (Or.inr ⟨c1, c2, c3⟩)
  · rw [if_neg c1, if_neg c2, if_neg c3] at h
    exact absurd h (by decide)
theorem nI_ne {a b : Nat} (ha : a < 2147483648) (hb : b < 2147483648) (h : a ≠ b) : ¬ nI a = nI b := fun q => h (nz_inj ha hb q)
theorem jS.road {S : Nat → Int32} {a b : Nat} {v : Int32} (h : jS S) (ha : a < 8) (hb : b < 8) (hab : a ≠ b) (hv : jb v 0 20) : jS (upd (upd S (8 + (8 * a + b)) v) (8 + (8 * b + a)) v) := by
  obtain ⟨h1, h2, h3, h4⟩ := h
  have key : ∀ i, upd (upd S (8 + (8 * a + b)) v) (8 + (8 * b + a)) v i = if i = 8 + (8 * b + a) ∨ i = 8 + (8 * a + b) then v else S i := by
    intro i
    by_cases q1 : i = 8 + (8 * b + a)
    · rw [if_pos (Or.inl q1), q1, upd_s]
    · rw [upd_n q1]
      by_cases q2 : i = 8 + (8 * a + b)
      · rw [if_pos (Or.inr q2), q2, upd_s]
      · rw [upd_n q2, if_neg (by omega)]
  refine ⟨fun i hi => ?_, fun c d hc hd => ?_, fun c hc => ?_, fun p hp => ?_⟩
  · rw [key]
    by_cases q : i = 8 + (8 * b + a) ∨ i = 8 + (8 * a + b)
    · rw [if_pos q]
      have : bdh i = 20 := by unfold bdh; rw [if_neg (by omega), if_pos (by omega)]
      rw [this]; exact hv
    · rw [if_neg q]; exact h1 i hi
  · rw [key, key]
    by_cases q : 8 + (8 * c + d) = 8 + (8 * b + a) ∨ 8 + (8 * c + d) = 8 + (8 * a + b)
    · rw [if_pos q, if_pos (by omega)]
    · rw [if_neg q, if_neg (by omega)]; exact h2 c d hc hd
  · rw [key, if_neg (by omega)]; exact h3 c hc
  · rw [key, if_neg (by omega)] at hp
    have q := h4 p hp
    unfold jPer at q ⊢
    rw [key, key, key, key, key, key, if_neg (by omega), if_neg (by omega), if_neg (by omega), if_neg (by omega), if_neg (by omega), if_neg (by omega)]
    exact q
theorem jW.wr2 {w s : Nat} {μ : jj_M} {j i : Nat} {v x : Int32} (h : jW w s μ) (hws : s < w ∨ w + 20 ≤ s) (hj : dm j) (hi : dm i) (h139 : j ≠ 139 ∧ i ≠ 139) (hS : jS (upd (upd (μ s) j v) i x)) (hd : 140 ≤ j → j < 176 → (j - 140) % 6 = 5 → v = 0 ∨ v = 1) (hd2 : 140 ≤ i → i < 176 → (i - 140) % 6 = 5 → x = 0 ∨ x = 1) : jW w s (jj_u (jj_u (jj_u (jj_u μ (lc w j) (li j) v) (lc w i) (li i) x) s j v) s i x) := by
  obtain ⟨q1, q2, q3, q4, q5⟩ := h
  have e5 := jDd.wr (jDd.wr q5 hws hj hd) hws hi hd2
  have rj := lc_r (w := w) hj
  have ri := lc_r (w := w) hi
  rw [ju_comm (μ := jj_u μ (lc w j) (li j) v) (show lc w i ≠ s by omega)]
  have es : jj_u (jj_u (jj_u (jj_u μ (lc w j) (li j) v) s j v) (lc w i) (li i) x) s i x s = upd (upd (μ s) j v) i x := by rw [ju_rowS, ju_ne (by omega), ju_rowS, ju_ne (by omega)]
  have eo : ∀ k, w + 14 ≤ k → k < w + 20 → jj_u (jj_u (jj_u (jj_u μ (lc w j) (li j) v) s j v) (lc w i) (li i) x) s i x k = μ k := fun k a b => by rw [ju_ne (by omega), ju_ne (by omega), ju_ne (by omega), ju_ne (by omega)]
  unfold jW
  rw [es, eo _ (by omega) (by omega), eo _ (by omega) (by omega), eo _ (by omega) (by omega), eo _ (by omega) (by omega)]
  have a1 := q2.wr (v := v) (fun i hi => hi.1) hws hj
  have a2 := a1.wr (v := x) (fun k hk => hk.elim (fun q => q.1) (fun q => by rw [q]; exact hj)) hws hi
  refine ⟨hS, a2.mono (fun k hk => ?_), q3.keep rfl rfl (fun _ _ => rfl) (by rw [upd_n (by omega), upd_n (by omega)]) (fun k hk => by rw [upd_n (by omega), upd_n (by omega)]), q4.keep rfl rfl (fun _ _ => rfl) (by rw [upd_n (by omega), upd_n (by omega)]) (fun k hk => by rw [upd_n (by omega), upd_n (by omega)]), e5⟩
  refine Or.inl (Or.inl ⟨hk.1, fun a b => ?_⟩)
  have := hk.2 a b
  rwa [upd_n (by omega), upd_n (by omega)] at this
theorem jI.wr2 {μ : jj_M} (h : jI μ) {j i : Nat} {v x : Int32} (hj : dm j) (hi : dm i) (h139 : j ≠ 139 ∧ i ≠ 139) (hS : jS (upd (upd (μ 61) j v) i x)) (hd : 140 ≤ j → j < 176 → (j - 140) % 6 = 5 → v = 0 ∨ v = 1 := by omega) (hd2 : 140 ≤ i → i < 176 → (i - 140) % 6 = 5 → x = 0 ∨ x = 1 := by omega) : jI (jj_u (jj_u (jj_u (jj_u μ (lc 1 j) (li j) v) (lc 1 i) (li i) x) 61 j v) 61 i x) := by
  have rj := lc_r (w := 1) hj
  have ri := lc_r (w := 1) hi
  exact h.world (h.w.wr2 (by omega) hj hi h139 hS hd hd2) (fun k hk => by rw [ju_ne (by omega), ju_ne (by omega), ju_ne (by omega), ju_ne (by omega)])
theorem st_road {μ : jj_M} (h : jI μ) (x1 x2 x3 : Int32) : ∃ (r : Int32) (μ1 : jj_M) (μ2 : jj_M), wnf_road x1 x2 x3 μ = some (r, μ1) ∧ mdf_road x1 x2 x3 μ1 = some (r, μ2) ∧ jI μ2 := by
  unfold wnf_road mdf_road
  rw [nz_isWell, nz_isWell, show mdf_in (Int32.toInt64 x3) 0 20 = wnf_within x3 0 20 from nz_within x3 0 20]
  rcases two_ok (x1 := x1) (x2 := x2) with c1 | ⟨c1, a, b, ha, hb, hab, rfl, rfl⟩
  · obtain ⟨m1, m2, a, b, c⟩ := err1 h
    refine ⟨-1000000001, m1, m2, by simp only [c1, a, ↓reduceIte, not_false_eq_true, Option.bind_some], ?_, c⟩
    rcases two_no c1 with d | ⟨d, e⟩ | ⟨d, e, f⟩
    · simp only [d, b, ↓reduceIte, not_false_eq_true, Option.bind_some]
    · simp only [d, e, b, ↓reduceIte, not_false_eq_true, Option.bind_some]
    · rw [if_neg d, if_neg e, if_pos f, b]; rfl
  have w1 := nz_isW ha
  have w2 := nz_isW hb
  have w3 : ¬ nI a = nI b := nI_ne (by omega) (by omega) hab
  by_cases c2 : wnf_within x3 0 20 = 0
  · obtain ⟨m1, m2, a, b, c⟩ := err1 h
    exact ⟨-1000000001, m1, m2, by simp only [c1, c2, a, ↓reduceIte, not_false_eq_true, Option.bind_some], by simp only [w1, w2, w3, c2, b, ↓reduceIte, not_false_eq_true, Option.bind_some], c⟩
  have hv := w_b c2
  have i1 : nI a * 8 + nI b = nI (8 * a + b) := by rw [show (8 : Int32) = nI 8 from rfl, nz_mul, nz_add, Nat.mul_comm]
  have i2 : nI b * 8 + nI a = nI (8 * b + a) := by rw [show (8 : Int32) = nI 8 from rfl, nz_mul, nz_add, Nat.mul_comm]
  have i3 : (8 : Int32) + 8 * nI b + nI a = nI (8 + (8 * b + a)) := by rw [show (8 : Int32) = nI 8 from rfl, nz_mul, nz_add, nz_add, Nat.add_assoc]
  have i4 : (8 : Int32) + 8 * nI a + nI b = nI (8 + (8 * a + b)) := by rw [show (8 : Int32) = nI 8 from rfl, nz_mul, nz_add, nz_add, Nat.add_assoc]
  have g1 : jj_i (nI (8 * a + b)) 64 := nz_in (by omega) (by omega)
  have g2 : jj_i (nI (8 * b + a)) 64 := nz_in (by omega) (by omega)
  have g3 : jj_i (nI (8 + (8 * b + a))) 351 := nz_in (by omega) (by omega)
  have l1 : lc 1 (8 + (8 * a + b)) = 3 := by unfold lc; rw [if_neg (by omega), if_pos (by omega)]
  have l2 : lc 1 (8 + (8 * b + a)) = 3 := by unfold lc; rw [if_neg (by omega), if_pos (by omega)]
  have l3 : li (8 + (8 * a + b)) = 8 * a + b := by unfold li; rw [if_neg (by omega), if_pos (by omega)]; omega
  have l4 : li (8 + (8 * b + a)) = 8 * b + a := by unfold li; rw [if_neg (by omega), if_pos (by omega)]; omega
  have ag := h.ag (j := 8 + (8 * a + b)) (by omega)
  rw [l1, l3] at ag
  have hw := h.wr2 (j := 8 + (8 * a + b)) (i := 8 + (8 * b + a)) (v := x3) (x := x3) (by unfold dm; omega) (by unfold dm; omega) (by omega) (h.S.road ha hb hab hv)
  rw [l1, l2, l3, l4] at hw
  refine ⟨μ 3 (8 * a + b), jj_u (jj_u μ 3 (8 * a + b) x3) 3 (8 * b + a) x3, _, ?_, ?_, hw⟩
  · have k1 : (nI (8 * a + b)).toNatClampNeg = 8 * a + b := nz_clamp (by omega)
    have k2 : (nI (8 * b + a)).toNatClampNeg = 8 * b + a := nz_clamp (by omega)
    simp only [c1, c2, i1, i2, eq_true g1, eq_true g2, k1, k2, ↓reduceIte, not_false_eq_true, Option.bind_some]
  · have k1 : (nI (8 + (8 * b + a))).toNatClampNeg = 8 + (8 * b + a) := nz_clamp (by omega)
    simp only [w1, w2, w3, c2, i3, i4, eq_true g3, k1, ↓reduceIte, not_false_eq_true]
    rw [becomes_ok (by omega), ju_other (by omega), ju_ne (by omega), ju_ne (by omega), ag]
    simp only [Option.bind_some]
    congr 2
    funext k
    by_cases q : k = 61
    · subst q
      simp only [ju_rowS, ju_ne (show (61 : Nat) ≠ 3 by decide)]
      funext i
      unfold upd
      by_cases e1 : i = 8 + (8 * a + b) <;> by_cases e2 : i = 8 + (8 * b + a) <;> simp only [e1, e2, if_true, if_false] <;> first | rfl | (split <;> rfl)
    · rw [ju_ne q, ju_ne q, ju_ne q, ju_ne q]
theorem st_owe {μ : jj_M} (h : jI μ) (x1 x2 x3 : Int32) : ∃ (r : Int32) (μ1 : jj_M) (μ2 : jj_M), wnf_owe x1 x2 x3 μ = some (r, μ1) ∧ mdf_owe x1 x2 x3 μ1 = some (r, μ2) ∧ jI μ2 := by
  unfold wnf_owe mdf_owe
  rw [nz_isWell, nz_isWell, show mdf_in (Int32.toInt64 x3) 0 9999 = wnf_within x3 0 9999 from nz_within x3 0 9999]
  rcases two_ok (x1 := x1) (x2 := x2) with c1 | ⟨c1, a, b, ha, hb, hab, rfl, rfl⟩
  · obtain ⟨m1, m2, a, b, c⟩ := err1 h
    refine ⟨-1000000001, m1, m2, by simp only [c1, a, ↓reduceIte, not_false_eq_true, Option.bind_some], ?_, c⟩
    rcases two_no c1 with d | ⟨d, e⟩ | ⟨d, e, f⟩
    · simp only [d, b, ↓reduceIte, not_false_eq_true, Option.bind_some]
    · simp only [d, e, b, ↓reduceIte, not_false_eq_true, Option.bind_some]
    · rw [if_neg d, if_neg e, if_pos f, b]; rfl
  have w1 := nz_isW ha
  have w2 := nz_isW hb
  have w3 : ¬ nI a = nI b := nI_ne (by omega) (by omega) hab
  by_cases c2 : wnf_within x3 0 9999 = 0
  · obtain ⟨m1, m2, a, b, c⟩ := err1 h
    exact ⟨-1000000001, m1, m2, by simp only [c1, c2, a, ↓reduceIte, not_false_eq_true, Option.bind_some], by simp only [w1, w2, w3, c2, b, ↓reduceIte, not_false_eq_true, Option.bind_some], c⟩
  have hv := w_b c2
  have i1 : nI a * 8 + nI b = nI (8 * a + b) := by rw [show (8 : Int32) = nI 8 from rfl, nz_mul, nz_add, Nat.mul_comm]
  have i4 : (72 : Int32) + 8 * nI a + nI b = nI (72 + (8 * a + b)) := by rw [show (8 : Int32) = nI 8 from rfl, show (72 : Int32) = nI 72 from rfl, nz_mul, nz_add, nz_add, Nat.add_assoc]
  have g1 : jj_i (nI (8 * a + b)) 64 := nz_in (by omega) (by omega)
  have l1 : lc 1 (72 + (8 * a + b)) = 4 := by unfold lc; rw [if_neg (by omega), if_neg (by omega), if_pos (by omega)]
  have l3 : li (72 + (8 * a + b)) = 8 * a + b := by unfold li; rw [if_neg (by omega), if_neg (by omega), if_pos (by omega)]; omega
  have ag := h.ag (j := 72 + (8 * a + b)) (by omega)
  rw [l1, l3] at ag
  have hw := h.wr (j := 72 + (8 * a + b)) (v := x3) (by unfold dm; omega) (by omega) (h.S.up (by omega) (fun _ => by unfold bdh; rw [if_neg (by omega), if_neg (by omega), if_pos (by omega)]; exact hv))
  rw [l1, l3] at hw
  refine ⟨μ 4 (8 * a + b), jj_u μ 4 (8 * a + b) x3, _, ?_, ?_, hw⟩
  · have k1 : (nI (8 * a + b)).toNatClampNeg = 8 * a + b := nz_clamp (by omega)
    simp only [c1, c2, i1, eq_true g1, k1, ↓reduceIte, not_false_eq_true]
  · simp only [w1, w2, w3, c2, i4, ↓reduceIte, not_false_eq_true]
    rw [becomes_ok (by omega), ju_ne (by omega), ag]
    rfl
theorem st_told {μ : jj_M} (h : jI μ) (x1 : Int32) : ∃ (r : Int32) (μ1 : jj_M) (μ2 : jj_M), wnf_told x1 μ = some (r, μ1) ∧ mdf_told x1 μ1 = some (r, μ2) ∧ jI μ2 := by
  unfold wnf_told mdf_told
  rw [show mdf_in (Int32.toInt64 x1) 1 5 = wnf_within x1 1 5 from nz_within x1 1 5]
  by_cases c1 : wnf_within x1 1 5 = 0
  · obtain ⟨m1, m2, a, b, c⟩ := err1 h
    exact ⟨-1000000001, m1, m2, by simp only [c1, a, ↓reduceIte, not_false_eq_true, Option.bind_some], by simp only [c1, b, ↓reduceIte, not_false_eq_true, Option.bind_some], c⟩
  have hb := w_b c1
  have e1 : (1 : Int32).toInt = 1 := by decide
  have e5 : (5 : Int32).toInt = 5 := by decide
  rw [e1, e5] at hb
  obtain ⟨n, hn, rfl⟩ := nz_ofb (x := x1) (n := 6) (by omega) (by omega)
  have g : jj_i (nI n) 6 := nz_in hn (by omega)
  have ag := h.2.2.1 n hn
  refine ⟨μ 59 n, μ, μ, ?_, ?_, h⟩
  · simp only [c1, eq_true g, nz_clamp (show n < 2147483648 by omega), ↓reduceIte, not_false_eq_true]
  · simp only [c1, eq_true g, nz_clamp (show n < 2147483648 by omega), ag, ↓reduceIte, not_false_eq_true]
theorem st_trace {μ : jj_M} (h : jI μ) (x1 : Int32) : ∃ (r : Int32) (μ1 : jj_M) (μ2 : jj_M), wnf_trace x1 μ = some (r, μ1) ∧ mdf_trace x1 μ1 = some (r, μ2) ∧ jI μ2 := by
  unfold wnf_trace mdf_trace
  obtain ⟨v1, ⟨n, hn, v2⟩, v3⟩ := h.2.2.2.1
  by_cases c1 : wnf_within x1 0 ((μ 48 1) - 1) = 0
  · obtain ⟨m1, m2, a, b, c⟩ := err2 h
    have em : m1 60 17 = μ 60 17 := by
      rw [show wnf_refuse 2 μ = _ from refuse_ok (e := 2) (by omega) μ] at a
      have := (Prod.mk.inj (Option.some.inj a)).2
      rw [← this, ju_ne (by decide)]
    have c2 := nz_within x1 0 ((m1 60 17) - 1)
    rw [em, ← v1] at c2
    rw [show Int32.toInt64 0 = 0 from rfl, c1] at c2
    rw [← em] at v1
    refine ⟨-1000000002, m1, m2, by simp only [c1, a, ↓reduceIte, not_false_eq_true, Option.bind_some], ?_, c⟩
    rw [← v1, c2, if_pos rfl, b]; rfl
  have c2 := nz_within x1 0 ((μ 60 17) - 1)
  rw [show Int32.toInt64 0 = 0 from rfl] at c2
  have hb := w_b c1
  rw [v1, v2] at hb
  have e0 : (0 : Int32).toInt = 0 := by decide
  have e1 : (1 : Int32).toInt = 1 := by decide
  rw [e0, nz_subI (by rw [nz_toInt (by omega)]; omega) (by rw [nz_toInt (by omega)]; omega), nz_toInt (by omega), e1] at hb
  obtain ⟨k, hk, rfl⟩ := nz_ofb (x := x1) (n := n) (by omega) (by omega)
  have g : jj_i (nI k) 40 := nz_in (by omega) (by omega)
  refine ⟨μ 49 k, μ, μ, ?_, ?_, h⟩
  · simp only [c1, eq_true g, nz_clamp (show k < 2147483648 by omega), ↓reduceIte, not_false_eq_true]
  · rw [c2, ← v1]
    simp only [c1, eq_true g, nz_clamp (show k < 2147483648 by omega), v3 k (by omega), ↓reduceIte, not_false_eq_true]
