def jz_N : Nat := 1000000000000
theorem jz_ge : 100000000000 ≤ jz_N := by decide
theorem st_tell {μ : jj_M} (h : jI μ) (x1 : Int32) : ∃ (r : Int32) (μ1 : jj_M) (μ2 : jj_M), wnf_tell x1 μ = some (r, μ1) ∧ mdf_tell x1 μ1 = some (r, μ2) ∧ jI μ2 := by
  unfold wnf_tell mdf_tell
  have ag := h.ag (j := 178) (by omega)
  have ag : μ 1 12 = μ 61 178 := ag
  have hb := h.S.1 178 (by omega)
  have hb : jb (μ 61 178) 0 20 := hb
  obtain ⟨n, hn, en⟩ := nz_ofb (x := μ 61 178) (n := 21) (by omega) (by omega)
  by_cases c : n = 20
  · obtain ⟨m1, m2, a, b, e⟩ := err4 h
    have em : m1 61 178 = 20 := by
      rw [show wnf_refuse 4 μ = _ from refuse_ok (e := 4) (by omega) μ] at a
      have := (Prod.mk.inj (Option.some.inj a)).2
      rw [← this, ju_ne (by decide), en, c]; rfl
    refine ⟨-1000000004, m1, m2, ?_, ?_, e⟩
    · rw [ag, en, c, if_neg (by decide), a]; rfl
    · rw [em, if_pos rfl, b]; rfl
  have c1 : μ 1 12 < 20 := by rw [ag, en, show (20 : Int32) = nI 20 from rfl, nz_lt (by omega) (by omega)]; omega
  have k1 : (nI n).toNatClampNeg = n := nz_clamp (by omega)
  have g1 : jj_i (nI n) 20 := nz_in (by omega) (by omega)
  have g2 : jj_i (nI (331 + n)) 351 := nz_in (by omega) (by omega)
  have k2 : (nI (331 + n)).toNatClampNeg = 331 + n := nz_clamp (by omega)
  have i1 : (331 : Int32) + nI n = nI (331 + n) := nz_add 331 n
  have i2 : nI n + 1 = nI (n + 1) := nz_add n 1
  have l1 : lc 1 (331 + n) = 8 := by unfold lc; rw [if_neg (by omega), if_neg (by omega), if_neg (by omega), if_neg (by omega), if_neg (by omega), if_neg (by omega), if_neg (by omega)]
  have l2 : li (331 + n) = n := by unfold li; rw [if_neg (by omega), if_neg (by omega), if_neg (by omega), if_neg (by omega), if_neg (by omega), if_neg (by omega), if_neg (by omega), if_neg (by omega), if_neg (by omega), if_neg (by omega), if_neg (by omega), if_neg (by omega)]; omega
  have s1 : jS (upd (μ 61) (331 + n) x1) := h.S.up (by omega) (by omega)
  have s2 : jS (upd (upd (μ 61) (331 + n) x1) 178 (nI (n + 1))) := s1.up (by omega) (fun _ => by rw [show bdh 178 = 20 from by decide]; unfold jb; rw [nz_toInt (by omega)]; omega)
  have hw := h.wr2 (j := 331 + n) (i := 178) (v := x1) (x := nI (n + 1)) (by unfold dm; omega) (by unfold dm; omega) (by omega) s2
  rw [l1, l2] at hw
  refine ⟨nI (n + 1), jj_u (jj_u μ 8 n x1) 1 12 (nI (n + 1)), _, ?_, ?_, hw⟩
  · rw [if_pos c1]
    simp only [ag, en, eq_true g1, k1, ju_ne (show (1 : Nat) ≠ 8 by decide), i2, ↓reduceIte, not_false_eq_true, Option.bind_some]
    rw [ju_self]
  · have e1 : (jj_u (jj_u μ 8 n x1) 1 12 (nI (n + 1))) 61 178 = nI n := by rw [ju_ne (by decide), ju_ne (by decide), en]
    rw [e1, if_neg (by rw [show (20 : Int32) = nI 20 from rfl]; exact nI_ne (by omega) (by omega) c)]
    have e2 : jj_u (jj_u (jj_u μ 8 n x1) 1 12 (nI (n + 1))) 61 (331 + n) x1 61 178 = nI n := by rw [ju_other (by omega), e1]
    simp only [i1, eq_true g2, k2, e2, i2, ↓reduceIte, not_false_eq_true, Option.bind_some]
    rw [ju_self]
    rfl
/-! sheets -/
theorem jI.sheet {μ m : jj_M} (h : jI μ) (hs : jShm m) (e : ∀ k, k < 51 ∨ (58 < k ∧ k < 68) → m k = μ k) : jI m := by
  obtain ⟨h1, ⟨h2, h3⟩, h4, ⟨h5, h6, h7⟩, h8⟩ := h
  refine ⟨h1.keep (fun k _ _ _ _ => e k (by omega)) (e 61 (by omega)), ⟨?_, ?_⟩, ?_, ⟨?_, ?_, ?_⟩, hs⟩
  · rw [e 0 (by omega), e 60 (by omega)]; exact h2
  · rw [e 0 (by omega), e 35 (by omega), e 38 (by omega)]; exact h3.imp id (fun q => q.keep (fun k _ _ _ _ => e k (by omega)) (e 62 (by omega)))
  · rw [e 59 (by omega), e 64 (by omega)]; exact h4
  · rw [e 48 (by omega), e 60 (by omega)]; exact h5
  · rw [e 60 (by omega)]; exact h6
  · rw [e 49 (by omega), e 67 (by omega)]; exact h7
theorem nz_sheet {x : Int32} (h : ¬ wnf_isSheet x = 0) : ∃ n, n < 4 ∧ x = nI n := by
  unfold wnf_isSheet at h
  have hb := w_b h
  have h1 : (0 : Int32).toInt = 0 := by decide
  have h2 : (3 : Int32).toInt = 3 := by decide
  exact nz_ofb (n := 4) (by omega) (by omega)
theorem nz_isSheet (x : Int32) : mdf_isSheet x = wnf_isSheet x := nz_within x 0 3
theorem nz_isSh {n : Nat} (h : n < 4) : ¬ wnf_isSheet (nI n) = 0 := by
  unfold wnf_isSheet
  rw [nz_w0, nz_toInt (by omega)]
  have h1 : (0 : Int32).toInt = 0 := by decide
  have h2 : (3 : Int32).toInt = 3 := by decide
  omega
theorem fill_ok {N p n0 : Nat} {v : Int32} (hn : n0 < 1000000) : ∀ (k i fuel : Nat) (μ : jj_M), i + k = n0 → k < fuel → ∃ m, jdf_fill_L5 N p n0 v (nI n0) fuel (nI i) μ = some m ∧ (∀ a, a ≠ p → m a = μ a) ∧ (∀ b, i ≤ b → b < n0 → m p b = v) ∧ ∀ b, b < i → m p b = μ p b := by
  intro k
  induction k with
  | zero =>
    intro i fuel μ h1 h2
    obtain ⟨f, rfl⟩ : ∃ f, fuel = f + 1 := ⟨fuel - 1, by omega⟩
    refine ⟨μ, ?_, fun _ _ => rfl, fun b h3 h4 => absurd h3 (by omega), fun _ _ => rfl⟩
    rw [jdf_fill_L5, if_pos (by rw [nz_le (by omega) (by omega)]; omega)]
  | succ k ih =>
    intro i fuel μ h1 h2
    obtain ⟨f, rfl⟩ : ∃ f, fuel = f + 1 := ⟨fuel - 1, by omega⟩
    obtain ⟨m, e1, e2, e3, e4⟩ := ih (i + 1) f (jj_u μ p i v) (by omega) (by omega)
    refine ⟨m, ?_, fun a ha => by rw [e2 a ha, ju_ne ha], fun b hb hb2 => ?_, fun b hb => by rw [e4 b (by omega), ju_other (by omega)]⟩
    · rw [jdf_fill_L5, if_neg (by rw [nz_le (by omega) (by omega)]; omega), if_pos (nz_in (by omega) (by omega)), nz_clamp (by omega), show nI i + 1 = nI (i + 1) from nz_add i 1]
      exact e1
    · rcases Nat.lt_or_ge b (i + 1) with q | q
      · rw [e4 b q, show b = i by omega, ju_self]
      · exact e3 b q hb2
theorem zero_ok {N s : Nat} (hs : s < 4) : ∀ (k i fuel : Nat) (μ : jj_M), i + k = 40 → k < fuel → ∃ m, mdf_sheet_L93 N (nI s) fuel (nI i) μ = some (1, m) ∧ (∀ a, a ≠ 70 → m a = μ a) ∧ (∀ b, 40 * s + i ≤ b → b < 40 * s + 40 → m 70 b = 0) ∧ ∀ b, (b < 40 * s + i ∨ 40 * s + 40 ≤ b) → m 70 b = μ 70 b := by
  intro k
  induction k with
  | zero =>
    intro i fuel μ h1 h2
    obtain ⟨f, rfl⟩ : ∃ f, fuel = f + 1 := ⟨fuel - 1, by omega⟩
    refine ⟨μ, ?_, fun _ _ => rfl, fun b h3 h4 => absurd h3 (by omega), fun _ _ => rfl⟩
    rw [mdf_sheet_L93, if_pos (by rw [show (40 : Int32) = nI 40 from rfl, nz_le (by omega) (by omega)]; omega)]
  | succ k ih =>
    intro i fuel μ h1 h2
    obtain ⟨f, rfl⟩ : ∃ f, fuel = f + 1 := ⟨fuel - 1, by omega⟩
    obtain ⟨m, e1, e2, e3, e4⟩ := ih (i + 1) f (jj_u μ 70 (40 * s + i) 0) (by omega) (by omega)
    have i1 : (40 : Int32) * nI s + nI i = nI (40 * s + i) := by rw [show (40 : Int32) = nI 40 from rfl, nz_mul, nz_add]
    refine ⟨m, ?_, fun a ha => by rw [e2 a ha, ju_ne ha], fun b hb hb2 => ?_, fun b hb => by rw [e4 b (by omega), ju_other (by omega)]⟩
    · rw [mdf_sheet_L93, if_neg (by rw [show (40 : Int32) = nI 40 from rfl, nz_le (by omega) (by omega)]; omega), i1, if_pos (nz_in (by omega) (by omega)), nz_clamp (by omega), show nI i + 1 = nI (i + 1) from nz_add i 1]
      exact e1
    · rcases Nat.lt_or_ge b (40 * s + (i + 1)) with q | q
      · rw [e4 b (Or.inl q), show b = 40 * s + i by omega, ju_self]
      · exact e3 b q hb2
/-- a sheet made anew on both sides -/
theorem sheet_ok {μ : jj_M} (h : jI μ) {s : Nat} (hs : s < 4) {x2 : Int32} (hx : x2 = 0 ∨ x2 = 8 ∨ x2 = 16 ∨ x2 = 32) {n : Nat} (hn : n ≤ 40) (h0 : x2 = 0 → n = 0) : ∃ m1 m2, shf_begin jz_N (51 + 2 * s) x2 (nI n) μ = some m1 ∧ mdf_sheet_L93 jz_N (nI s) jz_N 0 (jj_u (jj_u m1 68 s x2) 69 s (nI n)) = some (1, m2) ∧ jI m2 := by
  have hz := jz_ge
  obtain ⟨m1, a1, a2, a3, a4⟩ := fill_ok (N := jz_N) (p := 51 + 2 * s + 1) (n0 := 40) (v := 0) (by omega) 40 0 jz_N (jj_u (jj_u μ (51 + 2 * s) 1 x2) (51 + 2 * s) 2 (nI n)) (by omega) (by omega)
  obtain ⟨m2, b1, b2, b3, b4⟩ := zero_ok (N := jz_N) hs 40 0 jz_N (jj_u (jj_u m1 68 s x2) 69 s (nI n)) (by omega) (by omega)
  refine ⟨m1, m2, ?_, b1, ?_⟩
  · unfold shf_begin jdf_fill
    rw [show Int32.ofNat 40 = nI 40 from rfl, show (0 : Int32) = nI 0 from rfl] at *
    rw [a1]; rfl
  have r : ∀ k, (k < 51 ∨ (58 < k ∧ k < 68)) → m2 k = μ k := fun k hk => by
    rw [b2 k (by omega), ju_ne (by omega), ju_ne (by omega), a2 k (by omega), ju_ne (by omega), ju_ne (by omega)]
  refine h.sheet ?_ r
  have h8 := h.2.2.2.2
  intro k hk
  obtain ⟨q1, q2, q3, q4, q5⟩ := h8 k hk
  have f1 : m2 (51 + 2 * k) = m1 (51 + 2 * k) := by rw [b2 _ (by omega), ju_ne (by omega), ju_ne (by omega)]
  have f2 : m2 (52 + 2 * k) = m1 (52 + 2 * k) := by rw [b2 _ (by omega), ju_ne (by omega), ju_ne (by omega)]
  have f3 : m2 68 = upd (μ 68) s x2 := by rw [b2 _ (by omega), ju_ne (by omega), ju_rowS, a2 _ (by omega), ju_ne (by omega), ju_ne (by omega)]
  have f4 : m2 69 = upd (μ 69) s (nI n) := by rw [b2 _ (by omega), ju_rowS, ju_ne (by omega), a2 _ (by omega), ju_ne (by omega), ju_ne (by omega)]
  show m2 (51 + 2 * k) 1 = m2 68 k ∧ m2 (51 + 2 * k) 2 = m2 69 k ∧ (m2 68 k = 0 ∨ m2 68 k = 8 ∨ m2 68 k = 16 ∨ m2 68 k = 32) ∧ (∃ n, n ≤ 40 ∧ m2 69 k = nI n ∧ (m2 68 k = 0 → n = 0)) ∧ ∀ j, j < 40 → m2 (52 + 2 * k) j = m2 70 (40 * k + j)
  rw [f1, f2, f3, f4]
  by_cases e : k = s
  · subst e
    rw [upd_s, upd_s, a2 (51 + 2 * k) (by omega), ju_other (by omega), ju_self, ju_self]
    refine ⟨rfl, rfl, hx, ⟨n, hn, rfl, h0⟩, fun j hj => ?_⟩
    rw [show 52 + 2 * k = 51 + 2 * k + 1 by omega, a3 j (by omega) hj, b3 _ (by omega) (by omega)]
  · rw [upd_n e, upd_n e, a2 (51 + 2 * k) (by omega), ju_ne (by omega), ju_ne (by omega)]
    refine ⟨q1, q2, q3, q4, fun j hj => ?_⟩
    rw [a2 (52 + 2 * k) (by omega), ju_ne (by omega), ju_ne (by omega), b4 _ (by omega), ju_ne (by omega), ju_ne (by omega), a2 70 (by omega), ju_ne (by omega), ju_ne (by omega)]
    exact q5 j hj
theorem le_lit {x : Int32} {n : Nat} (hn : n < 2147483648) : x ≤ nI n ↔ x.toInt ≤ n := by rw [Int32.le_iff_toInt_le, nz_toInt hn]
theorem st_sheet {μ : jj_M} (h : jI μ) (x1 x2 x3 : Int32) : ∃ (r : Int32) (μ1 : jj_M) (μ2 : jj_M), wnf_sheet jz_N x1 x2 x3 μ = some (r, μ1) ∧ mdf_sheet jz_N x1 x2 x3 μ1 = some (r, μ2) ∧ jI μ2 := by
  unfold wnf_sheet mdf_sheet
  rw [nz_isSheet]
  by_cases c1 : wnf_isSheet x1 = 0
  · obtain ⟨m1, m2, a, b, c⟩ := err1 h
    exact ⟨-1000000001, m1, m2, by rw [if_pos c1, a]; rfl, by rw [if_pos c1, b]; rfl, c⟩
  obtain ⟨s, hs, rfl⟩ := nz_sheet c1
  by_cases c2 : x2 = 0 ∨ x2 = 8 ∨ x2 = 16 ∨ x2 = 32
  · have e1 : ∀ m, (if wnf_isSheet (nI s) = 0 then (wnf_refuse 1 m).bind fun q2 => some (q2.1, q2.2) else if x2 = 0 then wnf_sheet_B35 jz_N (nI s) x2 x3 m else if x2 = 8 then wnf_sheet_B35 jz_N (nI s) x2 x3 m else if x2 = 16 then wnf_sheet_B35 jz_N (nI s) x2 x3 m else if x2 = 32 then wnf_sheet_B35 jz_N (nI s) x2 x3 m else (wnf_refuse 1 m).bind fun q7 => some (q7.1, q7.2)) = wnf_sheet_B35 jz_N (nI s) x2 x3 m := by
      intro m
      rw [if_neg c1]
      rcases c2 with rfl | rfl | rfl | rfl <;> rfl
    have e2 : ∀ m, (if wnf_isSheet (nI s) = 0 then (mdf_errs (-1000000001) m).bind fun q2 => some (q2.1, q2.2) else if x2 = 0 then mdf_sheet_B36 jz_N (nI s) x2 x3 m else if x2 = 8 then mdf_sheet_B36 jz_N (nI s) x2 x3 m else if x2 = 16 then mdf_sheet_B36 jz_N (nI s) x2 x3 m else if x2 = 32 then mdf_sheet_B36 jz_N (nI s) x2 x3 m else (mdf_errs (-1000000001) m).bind fun q7 => some (q7.1, q7.2)) = mdf_sheet_B36 jz_N (nI s) x2 x3 m := by
      intro m
      rw [if_neg c1]
      rcases c2 with rfl | rfl | rfl | rfl <;> rfl
    simp only [e1, e2]
    unfold wnf_sheet_B35 mdf_sheet_B36 wnf_sheet_B65 mdf_sheet_B68
    have g : jj_i (nI s) 4 := nz_in hs (by omega)
    have k : (nI s).toNatClampNeg = s := nz_clamp (by omega)
    by_cases d : x2 = 0
    · subst d
      obtain ⟨m1, m2, a, b, c⟩ := sheet_ok h hs (x2 := 0) (Or.inl rfl) (n := 0) (by omega) (fun _ => rfl)
      refine ⟨1, m1, m2, ?_, ?_, c⟩
      · simp only [eq_true g, k, ↓reduceIte, not_false_eq_true]
        rw [show (0 : Int32) = nI 0 from rfl] at *
        rw [a]; rfl
      · simp only [eq_true g, k, ↓reduceIte, not_false_eq_true]
        exact b
    · by_cases f : 0 ≤ x3
      · by_cases u : x3 ≤ 40
        · have f' := f
          rw [Int32.le_iff_toInt_le] at f'
          have u' := (le_lit (n := 40) (by omega)).mp u
          have z0 : (0 : Int32).toInt = 0 := by decide
          obtain ⟨n, hn, rfl⟩ := nz_ofb (x := x3) (n := 41) (by omega) (by omega)
          obtain ⟨m1, m2, a, b, c⟩ := sheet_ok h hs c2 (n := n) (by omega) (fun q => absurd q d)
          refine ⟨1, m1, m2, ?_, ?_, c⟩
          · simp only [d, f, u, eq_true g, k, ↓reduceIte, not_false_eq_true, a, Option.bind_some]
          · simp only [d, f, u, eq_true g, k, ↓reduceIte, not_false_eq_true]
            exact b
        · obtain ⟨m1, m2, a, b, c⟩ := err1 h
          exact ⟨-1000000001, m1, m2, by simp only [d, f, u, a, ↓reduceIte, Option.bind_some], by simp only [d, f, u, b, ↓reduceIte, Option.bind_some], c⟩
      · obtain ⟨m1, m2, a, b, c⟩ := err3 h
        exact ⟨-1000000003, m1, m2, by simp only [d, f, a, ↓reduceIte, Option.bind_some], by simp only [d, f, b, ↓reduceIte, Option.bind_some], c⟩
  · obtain ⟨m1, m2, a, b, c⟩ := err1 h
    have d1 : ¬ x2 = 0 := fun q => c2 (Or.inl q)
    have d2 : ¬ x2 = 8 := fun q => c2 (Or.inr (Or.inl q))
    have d3 : ¬ x2 = 16 := fun q => c2 (Or.inr (Or.inr (Or.inl q)))
    have d4 : ¬ x2 = 32 := fun q => c2 (Or.inr (Or.inr (Or.inr q)))
    exact ⟨-1000000001, m1, m2, by simp only [c1, d1, d2, d3, d4, a, ↓reduceIte, Option.bind_some], by simp only [c1, d1, d2, d3, d4, b, ↓reduceIte, Option.bind_some], c⟩
