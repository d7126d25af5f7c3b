/-- what holds of a sheet on both sides -/
theorem jI.sh {μ : jj_M} (h : jI μ) {s : Nat} (hs : s < 4) : μ (51 + 2 * s) 1 = μ 68 s ∧ μ (51 + 2 * s) 2 = μ 69 s ∧ (μ 68 s = 0 ∨ μ 68 s = 8 ∨ μ 68 s = 16 ∨ μ 68 s = 32) ∧ (∃ n, n ≤ 40 ∧ μ 69 s = nI n ∧ (μ 68 s = 0 → n = 0)) ∧ ∀ j, j < 40 → μ (52 + 2 * s) j = μ 70 (40 * s + j) := h.2.2.2.2 s hs
theorem wrong_no {x : Int32} {μ : jj_M} (h : wnf_isSheet x = 0) : mdf_wrong x μ = some (-1000000001) := by
  unfold mdf_wrong
  rw [nz_isSheet, if_pos h]
theorem wrong_s {s : Nat} {μ : jj_M} (h : s < 4) : mdf_wrong (nI s) μ = some (if μ 68 s = 0 then -1000000002 else 0) := by
  unfold mdf_wrong
  rw [nz_isSheet, if_neg (nz_isSh h), if_pos (nz_in h (by omega)), nz_clamp (by omega)]
  split <;> rfl
theorem missing_s {s : Nat} {μ : jj_M} (h : μ (51 + 2 * s) 1 = μ 68 s) : (shf_isMissing (51 + 2 * s) μ = 0 ↔ ¬ μ 68 s = 0) := by
  unfold shf_isMissing
  rw [h]
  by_cases c : μ 68 s = 0
  · rw [if_pos c]; exact ⟨fun q => absurd q (by decide), fun q => absurd c q⟩
  · rw [if_neg c]; exact ⟨fun _ => c, fun _ => rfl⟩
/-- one number of a sheet written on both sides -/
theorem jI.num {μ : jj_M} (h : jI μ) {s j : Nat} {v : Int32} (hs : s < 4) (hj : j < 40) : jI (jj_u (jj_u μ (52 + 2 * s) j v) 70 (40 * s + j) v) := by
  have r : ∀ k, k ≠ 52 + 2 * s → k ≠ 70 → jj_u (jj_u μ (52 + 2 * s) j v) 70 (40 * s + j) v k = μ k := fun k a b => by rw [ju_ne b, ju_ne a]
  refine h.sheet ?_ (fun k hk => r k (by omega) (by omega))
  intro k hk
  obtain ⟨q1, q2, q3, q4, q5⟩ := h.sh hk
  show jj_u (jj_u μ (52 + 2 * s) j v) 70 (40 * s + j) v (51 + 2 * k) 1 = jj_u (jj_u μ (52 + 2 * s) j v) 70 (40 * s + j) v 68 k ∧ jj_u (jj_u μ (52 + 2 * s) j v) 70 (40 * s + j) v (51 + 2 * k) 2 = jj_u (jj_u μ (52 + 2 * s) j v) 70 (40 * s + j) v 69 k ∧ (jj_u (jj_u μ (52 + 2 * s) j v) 70 (40 * s + j) v 68 k = 0 ∨ jj_u (jj_u μ (52 + 2 * s) j v) 70 (40 * s + j) v 68 k = 8 ∨ jj_u (jj_u μ (52 + 2 * s) j v) 70 (40 * s + j) v 68 k = 16 ∨ jj_u (jj_u μ (52 + 2 * s) j v) 70 (40 * s + j) v 68 k = 32) ∧ (∃ n, n ≤ 40 ∧ jj_u (jj_u μ (52 + 2 * s) j v) 70 (40 * s + j) v 69 k = nI n ∧ (jj_u (jj_u μ (52 + 2 * s) j v) 70 (40 * s + j) v 68 k = 0 → n = 0)) ∧ ∀ i, i < 40 → jj_u (jj_u μ (52 + 2 * s) j v) 70 (40 * s + j) v (52 + 2 * k) i = jj_u (jj_u μ (52 + 2 * s) j v) 70 (40 * s + j) v 70 (40 * k + i)
  rw [r (51 + 2 * k) (by omega) (by omega), r 68 (by omega) (by omega), r 69 (by omega) (by omega), ju_ne (show 52 + 2 * k ≠ 70 by omega), ju_rowS, ju_ne (show 70 ≠ 52 + 2 * s by omega)]
  refine ⟨q1, q2, q3, q4, fun i hi => ?_⟩
  by_cases e : k = s ∧ i = j
  · rw [e.1, e.2, ju_self, upd_s]
  · rw [upd_n (by omega)]
    by_cases e2 : k = s
    · rw [e2, ju_other (by omega), ← e2]; exact q5 i hi
    · rw [ju_ne (by omega)]; exact q5 i hi
theorem st_put {μ : jj_M} (h : jI μ) (x1 x2 x3 : Int32) : ∃ (r : Int32) (μ1 : jj_M) (μ2 : jj_M), wnf_put x1 x2 x3 μ = some (r, μ1) ∧ mdf_put x1 x2 x3 μ1 = some (r, μ2) ∧ jI μ2 := by
  unfold wnf_put mdf_put
  by_cases c1 : wnf_isSheet x1 = 0
  · obtain ⟨m1, m2, a, b, c⟩ := err1 h
    refine ⟨-1000000001, m1, m2, by rw [if_pos c1, a]; rfl, ?_, c⟩
    rw [wrong_no c1]
    simp only [Option.bind_some, mdf_put_B37]
    rw [if_neg (by decide), if_neg (by decide), b]; rfl
  obtain ⟨s, hs, rfl⟩ := nz_sheet c1
  have g : jj_i (nI s) 4 := nz_in hs (by omega)
  have k : (nI s).toNatClampNeg = s := nz_clamp (by omega)
  obtain ⟨q1, q2, q3, ⟨n, hn, q4, q4'⟩, q5⟩ := h.sh hs
  have ms := missing_s q1
  by_cases c2 : μ 68 s = 0
  · have c2' : ¬ shf_isMissing (51 + 2 * s) μ = 0 := fun q => (ms.mp q) c2
    obtain ⟨m1, m2, a, b, c⟩ := err2 h
    have em : m1 68 s = 0 := by
      rw [show wnf_refuse 2 μ = _ from refuse_ok (e := 2) (by omega) μ] at a
      rw [← (Prod.mk.inj (Option.some.inj a)).2, ju_ne (by decide)]; exact c2
    refine ⟨-1000000002, m1, m2, ?_, ?_, c⟩
    · simp only [c1, eq_true g, k, c2', a, ↓reduceIte, not_false_eq_true, Option.bind_some]
    · rw [wrong_s hs, if_pos em]
      simp only [Option.bind_some, mdf_put_B37]
      rw [if_neg (by decide), if_neg (by decide), b]; rfl
  have c2' : shf_isMissing (51 + 2 * s) μ = 0 := ms.mpr c2
  have cw := nz_within x2 0 ((μ 69 s) - 1)
  rw [show Int32.toInt64 0 = 0 from rfl] at cw
  by_cases c3 : wnf_within x2 0 ((μ 69 s) - 1) = 0
  · obtain ⟨m1, m2, a, b, c⟩ := err1 h
    have em : m1 = jj_u μ 59 1 (μ 59 1 + 1) := by
      rw [show wnf_refuse 1 μ = _ from refuse_ok (e := 1) (by omega) μ] at a
      exact (Prod.mk.inj (Option.some.inj a)).2.symm
    have e68 : m1 68 s = μ 68 s := by rw [em, ju_ne (by decide)]
    have e69 : m1 69 s = μ 69 s := by rw [em, ju_ne (by decide)]
    refine ⟨-1000000001, m1, m2, ?_, ?_, c⟩
    · simp only [c1, eq_true g, k, c2', q2, c3, a, ↓reduceIte, not_false_eq_true, Option.bind_some]
    · rw [wrong_s hs, e68, if_neg c2]
      simp only [Option.bind_some, eq_true g, k, e69, cw, c3, ↓reduceIte, not_false_eq_true, mdf_put_B37]
      rw [if_neg (by decide), b]; rfl
  have hb := w_b c3
  have e0 : (0 : Int32).toInt = 0 := by decide
  have e1 : (1 : Int32).toInt = 1 := by decide
  rw [q4, e0, nz_subI (by rw [nz_toInt (by omega)]; omega) (by rw [nz_toInt (by omega)]; omega), nz_toInt (by omega), e1] at hb
  obtain ⟨j, hj, rfl⟩ := nz_ofb (x := x2) (n := n) (by omega) (by omega)
  have g2 : jj_i (nI j) 40 := nz_in (by omega) (by omega)
  have k2 : (nI j).toNatClampNeg = j := nz_clamp (by omega)
  have i1 : (40 : Int32) * nI s + nI j = nI (40 * s + j) := by rw [show (40 : Int32) = nI 40 from rfl, nz_mul, nz_add]
  have g3 : jj_i (nI (40 * s + j)) 160 := nz_in (by omega) (by omega)
  have k3 : (nI (40 * s + j)).toNatClampNeg = 40 * s + j := nz_clamp (by omega)
  have d1 : 51 + 2 * s + 1 = 52 + 2 * s := by omega
  have key : ∀ v : Int32, (if μ 68 s = 8 then Int8.toInt32 (Int32.toInt8 x3) else if μ 68 s = 16 then Int16.toInt32 (Int32.toInt16 x3) else x3) = v → ∃ μ1 μ2, shf_set (51 + 2 * s) (nI j) x3 μ = some μ1 ∧ mdf_put_B37 (nI s) (nI j) x3 0 μ1 = some (1, μ2) ∧ jI μ2 ∧ μ1 68 = μ 68 ∧ μ1 69 = μ 69 := by
    intro v hv
    refine ⟨jj_u μ (52 + 2 * s) j v, jj_u (jj_u μ (52 + 2 * s) j v) 70 (40 * s + j) v, ?_, ?_, h.num hs (by omega), ju_ne (by omega), ju_ne (by omega)⟩
    · unfold shf_set
      rw [q1, d1]
      by_cases f1 : μ 68 s = 8
      · rw [if_pos f1] at hv
        simp only [f1, eq_true g2, k2, hv, ↓reduceIte, not_false_eq_true, Option.bind_some]
      · rw [if_neg f1] at hv
        by_cases f2 : μ 68 s = 16
        · rw [if_pos f2] at hv
          simp only [f1, f2, eq_true g2, k2, hv, ↓reduceIte, not_false_eq_true, Option.bind_some]
          rw [if_neg (by decide)]
        · rw [if_neg f2] at hv
          simp only [f1, f2, eq_true g2, k2, hv, ↓reduceIte, not_false_eq_true]
    · unfold mdf_put_B37
      have e68 : jj_u μ (52 + 2 * s) j v 68 s = μ 68 s := by rw [ju_ne (by omega)]
      by_cases f1 : μ 68 s = 8
      · rw [if_pos f1] at hv
        simp only [eq_true g, k, e68, f1, i1, eq_true g3, k3, hv, ↓reduceIte, not_false_eq_true, Option.bind_some]
      · rw [if_neg f1] at hv
        by_cases f2 : μ 68 s = 16
        · rw [if_pos f2] at hv
          simp only [eq_true g, k, e68, f2, i1, eq_true g3, k3, hv, ↓reduceIte, not_false_eq_true, Option.bind_some]
          rw [if_neg (by decide)]
        · rw [if_neg f2] at hv
          simp only [eq_true g, k, e68, f1, f2, i1, eq_true g3, k3, hv, ↓reduceIte, not_false_eq_true]
  obtain ⟨μ1, μ2, a, b, c, e68, e69⟩ := key _ rfl
  refine ⟨1, μ1, μ2, ?_, ?_, c⟩
  · simp only [c1, eq_true g, k, c2', q2, c3, a, ↓reduceIte, not_false_eq_true, Option.bind_some]
  · rw [wrong_s hs, e68, if_neg c2]
    simp only [Option.bind_some, eq_true g, k, e69, cw, c3, b, ↓reduceIte, not_false_eq_true]
/-- the world changed at some places, on both sides -/
theorem jI.mod {μ m : jj_M} (h : jI μ) (hS : jS (m 61)) (hag : ∀ j, dn (m 61) j → (m (lc 1 j) (li j) = μ (lc 1 j) (li j) ∧ m 61 j = μ 61 j ∧ dn (μ 61) j) ∨ m (lc 1 j) (li j) = m 61 j) (hl : m 15 = μ 15 ∧ m 16 = μ 16 ∧ m 18 = μ 18 ∧ m 19 = μ 19) (ht : ∀ j, (j = 179 ∨ j = 180 ∨ (231 ≤ j ∧ j < 331)) → m 61 j = μ 61 j) (hd : jDd 1 m) (e : ∀ k, k = 0 ∨ (20 < k ∧ k ≠ 61) → m k = μ k) : jI m := by
  refine h.world ⟨hS, fun j hj => ?_, ?_, ?_, hd⟩ e
  · rcases hag j hj with ⟨a, b, c⟩ | a
    · rw [a, b]; exact h.w.2.1 j c
    · exact a
  · exact h.w.2.2.1.keep (by rw [hl.1]) (by rw [hl.1]) (fun i _ => by rw [hl.2.1]) (ht _ (by omega)) (fun i hi => ht _ (by omega))
  · exact h.w.2.2.2.1.keep (by rw [hl.2.2.1]) (by rw [hl.2.2.1]) (fun i _ => by rw [hl.2.2.2]) (ht _ (by omega)) (fun i hi => ht _ (by omega))
/-- water anew on both sides -/
theorem jI.water {μ m : jj_M} (h : jI μ) (e : ∀ k, k ≠ 2 → k ≠ 61 → m k = μ k) (hw : ∀ b, b < 8 → m 2 b = m 61 b ∧ jb (m 61 b) 0 99) (hr : ∀ b, 8 ≤ b → m 61 b = μ 61 b) : jI m := by
  have hS : jS (m 61) := by
    obtain ⟨h1, h2, h3, h4⟩ := h.S
    refine ⟨fun j hj => ?_, fun a b ha hb => by rw [hr _ (by omega), hr _ (by omega)]; exact h2 a b ha hb, fun a ha => by rw [hr _ (by omega)]; exact h3 a ha, fun p hp => ?_⟩
    · by_cases q : j < 8
      · unfold bdh; rw [if_pos q]; exact (hw j q).2
      · rw [hr j (by omega)]; exact h1 j hj
    · rw [hr 139 (by omega)] at hp
      have q := h4 p hp
      unfold jPer at q ⊢
      rw [hr _ (by omega), hr _ (by omega), hr _ (by omega), hr _ (by omega), hr _ (by omega), hr _ (by omega)]
      exact q
  refine h.mod hS (fun j hj => ?_) ⟨e _ (by omega) (by omega), e _ (by omega) (by omega), e _ (by omega) (by omega), e _ (by omega) (by omega)⟩ (fun j hj => hr j (by omega)) (fun p hp => by rw [e _ (by omega) (by omega)]; exact h.w.2.2.2.2 p hp) (fun k hk => e k (by omega) (by omega))
  by_cases q : j < 8
  · right
    have l1 : lc 1 j = 2 := by unfold lc; rw [if_pos q]
    have l2 : li j = j := by unfold li; rw [if_pos q]
    rw [l1, l2]; exact (hw j q).1
  · left
    have l1 : lc 1 j ≠ 2 := by
      intro x
      have := l_ivs
      rw [lc_w] at x
      have y : lc 0 j = 1 := by omega
      have z := hj.1
      unfold lc at y
      rw [if_neg q] at y
      revert y
      repeat' split
      all_goals omega
    have l2 : lc 1 j ≠ 61 := by have := lc_r (w := 1) hj.1; omega
    refine ⟨by rw [e _ l1 l2], hr j (by omega), hj.1, fun a b => ?_⟩
    have := hj.2 a b
    rwa [hr 139 (by omega)] at this
/-! numbers of a sheet as water -/
abbrev wok (v : Int32) : Prop := ¬ wnf_within v 0 99 = 0
theorem wat_c {N s n r : Nat} (hs : s < 4) (hn : n ≤ 40) (hr : r ≤ n) (hr8 : r ≤ 8) : ∀ (k i f : Nat) (μ : jj_M), i + k = r → k < f → μ (51 + 2 * s) 2 = nI n → (∀ b, b < r → wok (μ (52 + 2 * s) b)) → (r = n ∨ r = 8 ∨ ¬ wok (μ (52 + 2 * s) r)) → ∃ m, wof_takeWaters_L2 N 1 (51 + 2 * s) f (nI i) μ = some (nI r, m) ∧ (∀ a, a ≠ 2 → m a = μ a) ∧ ∀ b, m 2 b = if i ≤ b ∧ b < r then μ (52 + 2 * s) b else μ 2 b := by
  intro k
  induction k with
  | zero =>
    intro i f μ h1 h2 h3 h4 h5
    obtain ⟨f, rfl⟩ : ∃ g, f = g + 1 := ⟨f - 1, by omega⟩
    have hi : i = r := by omega
    subst hi
    refine ⟨μ, ?_, fun _ _ => rfl, fun b => by rw [if_neg (by omega)]⟩
    rw [wof_takeWaters_L2, h3]
    by_cases c : i = n
    · rw [if_pos (by rw [nz_le (by omega) (by omega)]; omega), c]
    rw [if_neg (by rw [nz_le (by omega) (by omega)]; omega)]
    by_cases c2 : i = 8
    · rw [if_pos]
      subst c2; decide
    have k1 : (nI i).toNatClampNeg = i := nz_clamp (by omega)
    rw [if_neg (nz_isW (by omega)), if_pos (nz_in (by omega) (by omega))]
    simp only [k1, show 51 + 2 * s + 1 = 52 + 2 * s by omega]
    rw [if_pos (by rcases h5 with q | q | q; exact absurd q c; exact absurd q c2; exact Decidable.not_not.mp q)]
  | succ k ih =>
    intro i f μ h1 h2 h3 h4 h5
    obtain ⟨f, rfl⟩ : ∃ g, f = g + 1 := ⟨f - 1, by omega⟩
    have d1 : 51 + 2 * s + 1 = 52 + 2 * s := by omega
    obtain ⟨m, e1, e2, e3⟩ := ih (i + 1) f (jj_u μ 2 i (μ (52 + 2 * s) i)) (by omega) (by omega) (by rw [ju_ne (by omega)]; exact h3) (fun b hb => by rw [ju_ne (by omega)]; exact h4 b hb) (by rw [ju_ne (by omega)]; exact h5)
    refine ⟨m, ?_, fun a ha => by rw [e2 a ha, ju_ne ha], fun b => ?_⟩
    · rw [wof_takeWaters_L2, h3, if_neg (by rw [nz_le (by omega) (by omega)]; omega), if_neg (nz_isW (by omega)), if_pos (nz_in (by omega) (by omega))]
      have k1 : (nI i).toNatClampNeg = i := nz_clamp (by omega)
      simp only [k1, d1]
      rw [if_neg (h4 i (by omega)), if_pos (nz_in (by omega) (by omega)), if_pos (nz_in (by omega) (by omega)), show nI i + 1 = nI (i + 1) from nz_add i 1]
      exact e1
    · rw [e3 b, ju_ne (by omega)]
      by_cases q : i + 1 ≤ b ∧ b < r
      · rw [if_pos q, if_pos (by omega)]
      · rw [if_neg q]
        by_cases q2 : b = i
        · rw [if_pos (by omega), q2, ju_self]
        · rw [ju_other q2, if_neg (by omega)]
theorem wat_m {N s n r : Nat} (hs : s < 4) (hn : n ≤ 40) (hr : r ≤ n) (hr8 : r ≤ 8) : ∀ (k i f : Nat) (μ : jj_M), i + k = r → k < f → μ 69 s = nI n → (∀ b, b < r → wok (μ 70 (40 * s + b))) → (r = n ∨ r = 8 ∨ ¬ wok (μ 70 (40 * s + r))) → ∃ m, mdf_waters_L18 N (nI s) f (nI i) μ = some (nI r, m) ∧ (∀ a, a ≠ 61 → m a = μ a) ∧ ∀ b, m 61 b = if i ≤ b ∧ b < r then μ 70 (40 * s + b) else μ 61 b := by
  intro k
  induction k with
  | zero =>
    intro i f μ h1 h2 h3 h4 h5
    obtain ⟨f, rfl⟩ : ∃ g, f = g + 1 := ⟨f - 1, by omega⟩
    have hi : i = r := by omega
    subst hi
    refine ⟨μ, ?_, fun _ _ => rfl, fun b => by rw [if_neg (by omega)]⟩
    rw [mdf_waters_L18, if_pos (nz_in hs (by omega)), nz_clamp (by omega), h3]
    by_cases c : i = n
    · rw [if_pos (by rw [nz_le (by omega) (by omega)]; omega)]
    rw [if_neg (by rw [nz_le (by omega) (by omega)]; omega)]
    by_cases c2 : i = 8
    · rw [if_pos (by rw [show (8 : Int32) = nI 8 from rfl, nz_le (by omega) (by omega)]; omega)]
    rw [if_neg (by rw [show (8 : Int32) = nI 8 from rfl, nz_le (by omega) (by omega)]; omega), show (40 : Int32) * nI s + nI i = nI (40 * s + i) from by rw [show (40 : Int32) = nI 40 from rfl, nz_mul, nz_add], if_pos (nz_in (by omega) (by omega))]
    have k1 : (nI (40 * s + i)).toNatClampNeg = 40 * s + i := nz_clamp (by omega)
    simp only [k1]
    rw [if_pos (by rcases h5 with q | q | q; exact absurd q c; exact absurd q c2; exact (nz_within (μ 70 (40 * s + i)) 0 99).trans (Decidable.not_not.mp q))]
  | succ k ih =>
    intro i f μ h1 h2 h3 h4 h5
    obtain ⟨f, rfl⟩ : ∃ g, f = g + 1 := ⟨f - 1, by omega⟩
    obtain ⟨m, e1, e2, e3⟩ := ih (i + 1) f (jj_u μ 61 i (μ 70 (40 * s + i))) (by omega) (by omega) (by rw [ju_ne (by omega)]; exact h3) (fun b hb => by rw [ju_ne (by omega)]; exact h4 b hb) (by rw [ju_ne (by omega)]; exact h5)
    refine ⟨m, ?_, fun a ha => by rw [e2 a ha, ju_ne ha], fun b => ?_⟩
    · rw [mdf_waters_L18, if_pos (nz_in hs (by omega)), nz_clamp (by omega), h3, if_neg (by rw [nz_le (by omega) (by omega)]; omega), if_neg (by rw [show (8 : Int32) = nI 8 from rfl, nz_le (by omega) (by omega)]; omega), show (40 : Int32) * nI s + nI i = nI (40 * s + i) from by rw [show (40 : Int32) = nI 40 from rfl, nz_mul, nz_add], if_pos (nz_in (by omega) (by omega))]
      have k1 : (nI (40 * s + i)).toNatClampNeg = 40 * s + i := nz_clamp (by omega)
      simp only [k1]
      rw [if_neg (show ¬ mdf_in (Int32.toInt64 (μ 70 (40 * s + i))) 0 99 = 0 from fun q => h4 i (by omega) ((nz_within (μ 70 (40 * s + i)) 0 99).symm.trans q)), if_pos (nz_in (by omega) (by omega)), show (0 : Int32) + nI i = nI i from by rw [show (0 : Int32) = nI 0 from rfl, nz_add, Nat.zero_add], if_pos (nz_in (by omega) (by omega)), nz_clamp (by omega), show nI i + 1 = nI (i + 1) from nz_add i 1]
      exact e1
    · rw [e3 b, ju_ne (by omega)]
      by_cases q : i + 1 ≤ b ∧ b < r
      · rw [if_pos q, if_pos (by omega)]
      · rw [if_neg q]
        by_cases q2 : b = i
        · rw [if_pos (by omega), q2, ju_self]
        · rw [ju_other q2, if_neg (by omega)]
theorem first_bad (P : Nat → Prop) (dP : ∀ i, Decidable (P i)) (n : Nat) : ∃ r, r ≤ n ∧ (∀ b, b < r → P b) ∧ (r = n ∨ ¬ P r) := by
  induction n with
  | zero => exact ⟨0, Nat.le_refl _, fun b hb => absurd hb (Nat.not_lt_zero b), Or.inl rfl⟩
  | succ n ih =>
    obtain ⟨r, h1, h2, h3⟩ := ih
    rcases h3 with h3 | h3
    · subst h3
      by_cases q : P r
      · exact ⟨r + 1, Nat.le_refl _, fun b hb => by rcases Nat.lt_or_ge b r with x | x; exact h2 b x; rw [show b = r by omega]; exact q, Or.inl rfl⟩
      · exact ⟨r, by omega, h2, Or.inr q⟩
    · exact ⟨r, by omega, h2, Or.inr h3⟩
theorem st_waters {μ : jj_M} (h : jI μ) (x1 : Int32) : ∃ (r : Int32) (μ1 : jj_M) (μ2 : jj_M), wnf_waters jz_N x1 μ = some (r, μ1) ∧ mdf_waters jz_N x1 μ1 = some (r, μ2) ∧ jI μ2 := by
  have hz := jz_ge
  unfold wnf_waters mdf_waters
  by_cases c1 : wnf_isSheet x1 = 0
  · obtain ⟨m1, m2, a, b, c⟩ := err1 h
    refine ⟨-1000000001, m1, m2, by rw [if_pos c1, a]; rfl, ?_, c⟩
    rw [wrong_no c1]
    simp only [Option.bind_some]
    rw [if_neg (by decide), b]; rfl
  obtain ⟨s, hs, rfl⟩ := nz_sheet c1
  have g : jj_i (nI s) 4 := nz_in hs (by omega)
  have k : (nI s).toNatClampNeg = s := nz_clamp (by omega)
  obtain ⟨q1, q2, q3, ⟨n, hn, q4, q4'⟩, q5⟩ := h.sh hs
  have ms := missing_s q1
  by_cases c2 : μ 68 s = 0
  · have c2' : ¬ shf_isMissing (51 + 2 * s) μ = 0 := fun q => (ms.mp q) c2
    obtain ⟨m1, m2, a, b, c⟩ := err2 h
    have em : m1 68 s = 0 := by
      rw [show wnf_refuse 2 μ = _ from refuse_ok (e := 2) (by omega) μ] at a
      rw [← (Prod.mk.inj (Option.some.inj a)).2, ju_ne (by decide)]; exact c2
    refine ⟨-1000000002, m1, m2, ?_, ?_, c⟩
    · simp only [c1, eq_true g, k, c2', a, ↓reduceIte, not_false_eq_true, Option.bind_some]
    · rw [wrong_s hs, if_pos em]
      simp only [Option.bind_some]
      rw [if_neg (by decide), b]; rfl
  have c2' : shf_isMissing (51 + 2 * s) μ = 0 := ms.mpr c2
  obtain ⟨r, r1, r2, r3⟩ := first_bad (fun b => wok (μ 70 (40 * s + b))) (fun _ => inferInstance) (min n 8)
  have r3' : r = n ∨ r = 8 ∨ ¬ wok (μ 70 (40 * s + r)) := by
    rcases r3 with q | q
    · omega
    · exact Or.inr (Or.inr q)
  obtain ⟨m1, a1, a2, a3⟩ := wat_c (N := jz_N) hs hn (r := r) (by omega) (by omega) r 0 jz_N μ (by omega) (by omega) (by rw [q2]; exact q4) (fun b hb => by rw [q5 b (by omega)]; exact r2 b hb) (by
    rcases r3' with q | q | q
    · exact Or.inl q
    · exact Or.inr (Or.inl q)
    · by_cases q40 : r = 40
      · left; omega
      · rw [q5 r (by omega)]; exact Or.inr (Or.inr q))
  obtain ⟨m2, b1, b2, b3⟩ := wat_m (N := jz_N) hs hn (r := r) (by omega) (by omega) r 0 jz_N m1 (by omega) (by omega) (by rw [a2 69 (by omega)]; exact q4) (fun b hb => by rw [a2 70 (by omega)]; exact r2 b hb) (by rw [a2 70 (by omega)]; exact r3')
  refine ⟨nI r, m1, m2, ?_, ?_, ?_⟩
  · simp only [c1, eq_true g, k, c2', ↓reduceIte, not_false_eq_true, wof_takeWaters]
    rw [show (0 : Int32) = nI 0 from rfl, a1]; rfl
  · rw [wrong_s hs, a2 68 (by omega), if_neg c2]
    simp only [Option.bind_some, ↓reduceIte]
    rw [show (0 : Int32) = nI 0 from rfl]
    exact b1
  · refine h.water (fun a ha hb => by rw [b2 a hb, a2 a ha]) (fun b hb => ?_) (fun b hb => by rw [b3 b, if_neg (by omega), a2 61 (by omega)])
    rw [b2 2 (by omega), a3 b, b3 b, a2 70 (by omega), a2 61 (by omega)]
    by_cases q : 0 ≤ b ∧ b < r
    · rw [if_pos q, if_pos q, q5 b (by omega)]
      exact ⟨rfl, w_b (r2 b q.2)⟩
    · rw [if_neg q, if_neg q]
      have ag := h.ag (j := b) (by omega)
      have l1 : lc 1 b = 2 := by unfold lc; rw [if_pos hb]
      have l2 : li b = b := by unfold li; rw [if_pos hb]
      rw [l1, l2] at ag
      have hb1 := h.S.1 b (by omega)
      unfold bdh at hb1
      rw [if_pos hb] at hb1
      exact ⟨ag, hb1⟩
