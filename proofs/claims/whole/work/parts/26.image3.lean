theorem jS.congr {S T : Nat → Int32} (h : jS S) (e : ∀ j, j < 351 → T j = S j) : jS T := by
  obtain ⟨h1, h2, h3, h4⟩ := h
  refine ⟨fun j hj => by rw [e j (by omega)]; exact h1 j hj, fun a b ha hb => by rw [e _ (by omega), e _ (by omega)]; exact h2 a b ha hb, fun a ha => by rw [e _ (by omega)]; exact h3 a ha, fun p hp => ?_⟩
  rw [e 139 (by omega)] at hp
  have b := (h1 139 (by omega)).2
  have b2 : bdh 139 = 6 := by decide
  have x := h4 p hp
  unfold jPer at x ⊢
  rw [e _ (by omega), e _ (by omega), e _ (by omega), e _ (by omega), e _ (by omega), e _ (by omega)]
  exact x
theorem jLaw.len {S F C : Nat → Int32} {u : Nat} (h : jLaw S F C u) : ∃ L, L ≤ 50 ∧ F 1 = nI L := by
  obtain ⟨_, b⟩ := h
  rcases b with ⟨_, c⟩ | ⟨L, l1, l2, l3, l4, l5, l6, l7, l8, l9⟩
  · exact ⟨0, by omega, c⟩
  · exact ⟨_, l7, l8⟩
theorem jLaw.cp {S S1 F F1 C C1 : Nat → Int32} {u : Nat} (h : jLaw S F C u) (hu : u < 2) (h1 : F1 1 = F 1) (h2 : F1 2 = nI u) (hC : ∀ i : Nat, (i : Int) < (F 1).toInt → C1 i = C i) (h3 : ∀ j, j < 351 → S1 j = S j) : jLaw S1 F1 C1 u := by
  obtain ⟨a, b⟩ := h
  refine ⟨h2, ?_⟩
  rcases b with ⟨b, c⟩ | ⟨L, l1, l2, l3, l4, l5, l6, l7, l8, l9⟩
  · exact Or.inl ⟨by rw [h3 _ (by omega)]; exact b, by rw [h1]; exact c⟩
  · have e : pt (fun i => S1 (231 + 50 * u + i)) L u = pt (fun i => S (231 + 50 * u + i)) L u := pt_congr (fun i hi => h3 _ (by omega))
    refine Or.inr ⟨L, l1, l2, by rw [h3 _ (by omega)]; exact l3, ?_⟩
    rw [e, h1]
    exact ⟨l4, l5, l6, l7, l8, fun i hi => by rw [hC i (by rw [l8, nz_toInt (by omega)]; omega)]; exact l9 i hi⟩
theorem jW.cp {w v s t : Nat} {μ m0 m : jj_M} (h : jW v t μ) (hc : jCp w v μ m0) (hw : ∀ a, w ≤ a → a < w + 20 → m a = m0 a) (hs : ∀ j, j < 351 → m s j = μ t j) (f0 : μ (w + 14) 2 = nI 0) (f1 : μ (w + 17) 2 = nI 1) : jW w s m := by
  obtain ⟨q1, q2, q3, q4, q5⟩ := h
  obtain ⟨c1, c2, c3, c4⟩ := hc
  have l0 := c3 0 (by omega)
  have l1 := c3 1 (by omega)
  refine ⟨q1.congr hs, fun j hj => ?_, ?_, ?_, fun p hp => by rw [hw _ (by omega) (by omega)]; exact c4 p hp⟩
  · have r := lc_r (w := w) hj.1
    have d := hj.1
    unfold dm at d
    rw [hw _ (by omega) (by omega), c2 j hj.1, hs j (by omega)]
    refine q2 j ⟨hj.1, fun a b => ?_⟩
    have := hj.2 a b
    rwa [hs 139 (by omega)] at this
  · rw [hw (w + 14) (by omega) (by omega), hw (w + 15) (by omega) (by omega)]
    exact q3.cp (by omega) l0.1 (l0.2.1.trans f0) l0.2.2 hs
  · rw [hw (w + 17) (by omega) (by omega), hw (w + 18) (by omega) (by omega)]
    exact q4.cp (by omega) l1.1 (l1.2.1.trans f1) l1.2.2 hs
theorem img_m (N : Nat) : ∀ (k i f : Nat) (μ : jj_M), i + k = 351 → k < f → ∃ m, mdf_image_L2 N f (nI i) μ = some (μ 60 4 + 1, jj_u m 60 4 (μ 60 4 + 1)) ∧ (∀ a, a ≠ 62 → m a = μ a) ∧ ∀ b, m 62 b = if i ≤ b ∧ b < 351 then μ 61 b else μ 62 b := by
  intro k
  induction k with
  | zero =>
    intro i f μ hi hf
    obtain ⟨f, rfl⟩ : ∃ m, f = m + 1 := ⟨f - 1, by omega⟩
    have e : i = 351 := by omega
    subst e
    exact ⟨μ, by rw [mdf_image_L2, if_pos (by decide), ju_self], fun _ _ => rfl, fun b => by rw [if_neg (by omega)]⟩
  | succ k ih =>
    intro i f μ hi hf
    obtain ⟨f, rfl⟩ : ∃ m, f = m + 1 := ⟨f - 1, by omega⟩
    have c : ¬ (351 : Int32) ≤ nI i := by rw [show (351 : Int32) = nI 351 from rfl, nz_le (by omega) (by omega)]; omega
    have g : jj_i (nI i) 351 := nz_in (by omega) (by omega)
    have k1 : (nI i).toNatClampNeg = i := nz_clamp (by omega)
    obtain ⟨m, m1, m2, m3⟩ := ih (i + 1) f (jj_u μ 62 i (μ 61 i)) (by omega) (by omega)
    refine ⟨m, ?_, fun a ha => by rw [m2 a ha, ju_ne ha], fun b => ?_⟩
    · rw [mdf_image_L2]
      simp only [c, eq_true g, k1, ↓reduceIte, nz_s]
      rw [m1, ju_ne (show (60 : Nat) ≠ 62 by decide)]
    · rw [m3 b, ju_ne (show (61 : Nat) ≠ 62 by decide), ju_app, if_pos rfl]
      by_cases q : b = i
      · subst q; rw [if_neg (by omega), if_pos rfl, if_pos (by omega)]
      · rw [if_neg q]
        by_cases q2 : i + 1 ≤ b ∧ b < 351
        · rw [if_pos q2, if_pos (by omega)]
        · rw [if_neg q2, if_neg (by omega)]
theorem rst_m (N : Nat) : ∀ (k i f : Nat) (μ : jj_M), i + k = 351 → k < f → ∃ m, mdf_restore_L16 N f (nI i) μ = some (m 61 137, m) ∧ (∀ a, a ≠ 61 → m a = μ a) ∧ ∀ b, m 61 b = if i ≤ b ∧ b < 351 then μ 62 b else μ 61 b := by
  intro k
  induction k with
  | zero =>
    intro i f μ hi hf
    obtain ⟨f, rfl⟩ : ∃ m, f = m + 1 := ⟨f - 1, by omega⟩
    have e : i = 351 := by omega
    subst e
    exact ⟨μ, by rw [mdf_restore_L16, if_pos (by decide)], fun _ _ => rfl, fun b => by rw [if_neg (by omega)]⟩
  | succ k ih =>
    intro i f μ hi hf
    obtain ⟨f, rfl⟩ : ∃ m, f = m + 1 := ⟨f - 1, by omega⟩
    have c : ¬ (351 : Int32) ≤ nI i := by rw [show (351 : Int32) = nI 351 from rfl, nz_le (by omega) (by omega)]; omega
    have g : jj_i (nI i) 351 := nz_in (by omega) (by omega)
    have k1 : (nI i).toNatClampNeg = i := nz_clamp (by omega)
    obtain ⟨m, m1, m2, m3⟩ := ih (i + 1) f (jj_u μ 61 i (μ 62 i)) (by omega) (by omega)
    refine ⟨m, ?_, fun a ha => by rw [m2 a ha, ju_ne ha], fun b => ?_⟩
    · rw [mdf_restore_L16]
      simp only [c, eq_true g, k1, ↓reduceIte, nz_s]
      rw [m1]
    · rw [m3 b, ju_ne (show (62 : Nat) ≠ 61 by decide), ju_app, if_pos rfl]
      by_cases q : b = i
      · subst q; rw [if_neg (by omega), if_pos rfl, if_pos (by omega)]
      · rw [if_neg q]
        by_cases q2 : i + 1 ≤ b ∧ b < 351
        · rw [if_pos q2, if_pos (by omega)]
        · rw [if_neg q2, if_neg (by omega)]
theorem jI.use {μ : jj_M} (h : jI μ) : μ 35 2 = nI 0 ∧ μ 38 2 = nI 1 := by
  rcases h.2.1.2 with q | q
  · exact q.2
  · exact ⟨q.2.2.1.1, q.2.2.2.1.1⟩
theorem st_image {μ : jj_M} (h : jI μ) : ∃ (r : Int32) (μ1 : jj_M) (μ2 : jj_M), wnf_image jz_N μ = some (r, μ1) ∧ mdf_image jz_N μ1 = some (r, μ2) ∧ jI μ2 := by
  obtain ⟨L0, hL0, eL0⟩ := h.w.2.2.1.len
  obtain ⟨L1, hL1, eL1⟩ := h.w.2.2.2.1.len
  obtain ⟨q, q1, q2⟩ := copy_ok (w := 21) (v := 1) (by omega) h.w.2.2.2.2 hL0 hL1 eL0 eL1
  have qo := q2.1
  obtain ⟨ag, kp⟩ := h.2.1
  obtain ⟨W, w1, w2, w3⟩ := img_m jz_N 351 0 jz_N (jj_u q 0 7 (q 0 7 + 1)) (by omega) (by decide)
  have o : ∀ a, a ≠ 0 → a ≠ 60 → a ≠ 62 → jj_u W 60 4 (μ 60 4 + 1) a = q a := fun a x y z => by rw [ju_ne y, w2 a z, ju_ne x]
  have o2 : ∀ a, a ≠ 0 → a ≠ 60 → a ≠ 62 → ¬ (21 ≤ a ∧ a < 41) → jj_u W 60 4 (μ 60 4 + 1) a = μ a := fun a x y z t => by rw [o a x y z, qo a (by omega)]
  have e60 : jj_u q 0 7 (q 0 7 + 1) 60 4 = μ 60 4 := by rw [ju_ne (by decide), qo 60 (by omega)]
  have e60' : ∀ j, j ≠ 4 → jj_u W 60 4 (μ 60 4 + 1) 60 j = μ 60 j := fun j hj => by rw [ju_other hj, w2 60 (by decide), ju_ne (by decide), qo 60 (by omega)]
  rw [e60] at w1
  refine ⟨μ 60 4 + 1, jj_u q 0 7 (q 0 7 + 1), jj_u W 60 4 (μ 60 4 + 1), ?_, w1, ?_⟩
  · unfold wnf_image
    rw [q1, Option.bind_some, ju_self, qo 0 (by omega), ag]
  · have h0 := h
    obtain ⟨_, _, h4, ⟨h5, h6, h7⟩, h8⟩ := h0
    refine ⟨h.w.keep (fun k x y _ _ => o2 k (by omega) (by omega) (by omega) (by omega)) (o2 61 (by omega) (by omega) (by omega) (by omega)), ⟨?_, Or.inr ?_⟩, fun j hj => ?_, ⟨?_, ?_, fun i hi => ?_⟩, jShm.keep h8 (fun k x y => o2 k (by omega) (by omega) (by omega) (by omega)) (o2 _ (by omega) (by omega) (by omega) (by omega)) (o2 _ (by omega) (by omega) (by omega) (by omega)) (o2 _ (by omega) (by omega) (by omega) (by omega))⟩
    · rw [ju_self, ju_ne (by decide), w2 0 (by decide), ju_self, qo 0 (by omega), ag]
    · refine h.w.cp (w := 21) (s := 62) q2 (fun a x y => o a (by omega) (by omega) (by omega)) (fun j hj => ?_) h.use.1 h.use.2
      rw [ju_ne (by decide), w3, if_pos (by omega), ju_ne (by decide), qo 61 (by omega)]
    · rw [o2 59 (by omega) (by omega) (by omega) (by omega), o2 64 (by omega) (by omega) (by omega) (by omega)]; exact h4 j hj
    · rw [o2 48 (by omega) (by omega) (by omega) (by omega), e60' 17 (by omega)]; exact h5
    · rw [e60' 17 (by omega)]; exact h6
    · rw [o2 49 (by omega) (by omega) (by omega) (by omega), o2 67 (by omega) (by omega) (by omega) (by omega)]; exact h7 i hi
theorem st_restore {μ : jj_M} (h : jI μ) : ∃ (r : Int32) (μ1 : jj_M) (μ2 : jj_M), wnf_restore jz_N μ = some (r, μ1) ∧ mdf_restore jz_N μ1 = some (r, μ2) ∧ jI μ2 := by
  unfold wnf_restore mdf_restore
  obtain ⟨ag, kp⟩ := h.2.1
  by_cases c1 : μ 0 7 = 0
  · obtain ⟨m1, m2, a, b, c⟩ := err2 h
    have e60 : m1 60 = μ 60 := err_61 (e := 2) (by omega) a 60 (by decide)
    exact ⟨-1000000002, m1, m2, by rw [if_pos c1, a]; rfl, by rw [e60, ← ag, if_pos c1, b]; rfl, c⟩
  have K : jW 21 62 μ := kp.elim (fun q => absurd q.1 c1) id
  obtain ⟨L0, hL0, eL0⟩ := K.2.2.1.len
  obtain ⟨L1, hL1, eL1⟩ := K.2.2.2.1.len
  obtain ⟨q, q1, q2⟩ := copy_ok (w := 1) (v := 21) (by omega) K.2.2.2.2 hL0 hL1 eL0 eL1
  have qo := q2.1
  obtain ⟨W, w1, w2, w3⟩ := rst_m jz_N 351 0 jz_N q (by omega) (by decide)
  have o2 : ∀ a, a ≠ 61 → ¬ (1 ≤ a ∧ a < 21) → W a = μ a := fun a x y => by rw [w2 a x, qo a (by omega)]
  have nW : jW 1 61 W := by
    refine K.cp (w := 1) (s := 61) q2 (fun a x y => w2 a (by omega)) (fun j hj => ?_) h.w.2.2.1.1 h.w.2.2.2.1.1
    rw [w3, if_pos (by omega), qo 62 (by omega)]
  refine ⟨W 61 137, q, W, ?_, ?_, ?_⟩
  · rw [if_neg c1, q1, Option.bind_some]
    have a := nW.2.1 137 ⟨by unfold dm; omega, fun a b => by omega⟩
    have a : W 1 9 = W 61 137 := a
    rw [← a, w2 1 (by decide)]
  · rw [qo 60 (by omega), ← ag, if_neg c1]
    exact w1
  · exact h.world nW (fun k hk => o2 k (by omega) (by omega))
