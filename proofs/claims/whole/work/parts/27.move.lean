/-! move -/
theorem holds_ok {p z : Nat} (hz : z ≤ 40) {μ : jj_M} (e : μ p 2 = nI z) (x1 x2 : Int32) : shf_holds p x1 x2 μ = 0 ↔ ¬ (0 ≤ x1.toInt ∧ 0 ≤ x2.toInt ∧ x1.toInt + x2.toInt ≤ z) := by
  unfold shf_holds
  rw [e]
  have z0 : (0 : Int32).toInt = 0 := by decide
  have zz : (nI z).toInt = z := nz_toInt (by omega)
  by_cases c1 : x1 < 0
  · rw [if_pos c1]
    rw [Int32.lt_iff_toInt_lt, z0] at c1
    exact ⟨fun _ q => by omega, fun _ => rfl⟩
  rw [if_neg c1]
  rw [Int32.lt_iff_toInt_lt, z0] at c1
  by_cases c2 : x2 < 0
  · rw [if_pos c2]
    rw [Int32.lt_iff_toInt_lt, z0] at c2
    exact ⟨fun _ q => by omega, fun _ => rfl⟩
  rw [if_neg c2]
  rw [Int32.lt_iff_toInt_lt, z0] at c2
  by_cases c3 : nI z < x1
  · rw [if_pos c3]
    rw [Int32.lt_iff_toInt_lt, zz] at c3
    exact ⟨fun _ q => by omega, fun _ => rfl⟩
  rw [if_neg c3]
  rw [Int32.lt_iff_toInt_lt, zz] at c3
  have s := nz_subI (x := nI z) (y := x1) (by omega) (by omega)
  by_cases c4 : nI z - x1 < x2
  · rw [if_pos c4]
    rw [Int32.lt_iff_toInt_lt, s, zz] at c4
    exact ⟨fun _ q => by omega, fun _ => rfl⟩
  · rw [if_neg c4]
    rw [Int32.lt_iff_toInt_lt, s, zz] at c4
    exact ⟨fun q => absurd q (by decide), fun q => absurd ⟨by omega, by omega, by omega⟩ q⟩
abbrev mvH (x2 x4 x5 : Int32) (z1 z3 : Nat) : Prop := 0 ≤ x2.toInt ∧ 0 ≤ x4.toInt ∧ 0 ≤ x5.toInt ∧ x2.toInt + x5.toInt ≤ z1 ∧ x4.toInt + x5.toInt ≤ z3
theorem mv_chk {α : Type} {x2 x4 x5 : Int32} {z1 z3 : Nat} (h1 : z1 ≤ 40) (h3 : z3 ≤ 40) (E R : Option α) : (if x2 < 0 then E else if x4 < 0 then E else if x5 < 0 then E else if nI z1 - x2 < x5 then E else if x5 ≤ nI z3 - x4 then R else E) = if mvH x2 x4 x5 z1 z3 then R else E := by
  have z0 : (0 : Int32).toInt = 0 := by decide
  have e1 : (nI z1).toInt = z1 := nz_toInt (by omega)
  have e3 : (nI z3).toInt = z3 := nz_toInt (by omega)
  by_cases c1 : x2 < 0
  · rw [if_pos c1]
    rw [Int32.lt_iff_toInt_lt, z0] at c1
    rw [if_neg (fun q => by unfold mvH at q; omega)]
  rw [if_neg c1]
  rw [Int32.lt_iff_toInt_lt, z0] at c1
  by_cases c2 : x4 < 0
  · rw [if_pos c2]
    rw [Int32.lt_iff_toInt_lt, z0] at c2
    rw [if_neg (fun q => by unfold mvH at q; omega)]
  rw [if_neg c2]
  rw [Int32.lt_iff_toInt_lt, z0] at c2
  by_cases c3 : x5 < 0
  · rw [if_pos c3]
    rw [Int32.lt_iff_toInt_lt, z0] at c3
    rw [if_neg (fun q => by unfold mvH at q; omega)]
  rw [if_neg c3]
  rw [Int32.lt_iff_toInt_lt, z0] at c3
  have u2 := x2.toInt_lt
  have u4 := x4.toInt_lt
  have s1 := nz_subI (x := nI z1) (y := x2) (by omega) (by omega)
  have s3 := nz_subI (x := nI z3) (y := x4) (by omega) (by omega)
  by_cases c4 : nI z1 - x2 < x5
  · rw [if_pos c4]
    rw [Int32.lt_iff_toInt_lt, s1, e1] at c4
    rw [if_neg (fun q => by unfold mvH at q; omega)]
  rw [if_neg c4]
  rw [Int32.lt_iff_toInt_lt, s1, e1] at c4
  by_cases c5 : x5 ≤ nI z3 - x4
  · rw [if_pos c5]
    rw [Int32.le_iff_toInt_le, s3, e3] at c5
    rw [if_pos (by unfold mvH; omega)]
  · rw [if_neg c5]
    rw [Int32.le_iff_toInt_le, s3, e3] at c5
    rw [if_neg (fun q => by unfold mvH at q; omega)]
theorem mv_i (a i t : Nat) : (40 : Int32) * nI a + nI i + nI t = nI (40 * a + i + t) := by
  rw [show (40 : Int32) = nI 40 from rfl, nz_mul, nz_add, nz_add]
theorem mv1 (N : Nat) {a b i j n : Nat} (ha : a < 4) (hi : i + n ≤ 40) : ∀ (k t f : Nat) (μ : jj_M), t + k = n → k < f → ∃ m, mdf_move_L119 N (nI a) (nI i) (nI b) (nI j) (nI n) f (nI t) μ = mdf_move_L156 N (nI b) (nI j) (nI n) N (nI 0) m ∧ (∀ c, c ≠ 71 → m c = μ c) ∧ ∀ s, m 71 s = if t ≤ s ∧ s < n then μ 70 (40 * a + i + s) else μ 71 s := by
  intro k
  induction k with
  | zero =>
    intro t f μ ht hf
    obtain ⟨f, rfl⟩ : ∃ m, f = m + 1 := ⟨f - 1, by omega⟩
    have c : nI n ≤ nI t := by rw [nz_le (by omega) (by omega)]; omega
    exact ⟨μ, by rw [mdf_move_L119, if_pos c]; rfl, fun _ _ => rfl, fun s => by rw [if_neg (by omega)]⟩
  | succ k ih =>
    intro t f μ ht hf
    obtain ⟨f, rfl⟩ : ∃ m, f = m + 1 := ⟨f - 1, by omega⟩
    have c : ¬ nI n ≤ nI t := by rw [nz_le (by omega) (by omega)]; omega
    have g1 : jj_i (nI (40 * a + i + t)) 160 := nz_in (by omega) (by omega)
    have g2 : jj_i (nI t) 40 := nz_in (by omega) (by omega)
    have k1 : (nI (40 * a + i + t)).toNatClampNeg = 40 * a + i + t := nz_clamp (by omega)
    have k2 : (nI t).toNatClampNeg = t := nz_clamp (by omega)
    obtain ⟨m, m1, m2, m3⟩ := ih (t + 1) f (jj_u μ 71 t (μ 70 (40 * a + i + t))) (by omega) (by omega)
    refine ⟨m, ?_, fun d hd => by rw [m2 d hd, ju_ne hd], fun s => ?_⟩
    · rw [mdf_move_L119]
      simp only [c, mv_i a i t, eq_true g1, eq_true g2, k1, k2, ↓reduceIte, nz_s, Option.bind_some]
      exact m1
    · rw [m3 s, ju_ne (show (70 : Nat) ≠ 71 by decide), ju_app, if_pos rfl]
      by_cases q : s = t
      · subst q; rw [if_neg (by omega), if_pos rfl, if_pos (by omega)]
      · rw [if_neg q]
        by_cases q2 : t + 1 ≤ s ∧ s < n
        · rw [if_pos q2, if_pos (by omega)]
        · rw [if_neg q2, if_neg (by omega)]
theorem mv2 (N : Nat) {b j n : Nat} (hb : b < 4) (hj : j + n ≤ 40) : ∀ (k t f : Nat) (μ : jj_M), t + k = n → k < f → ∃ m, mdf_move_L156 N (nI b) (nI j) (nI n) f (nI t) μ = some (nI n, m) ∧ (∀ c, c ≠ 70 → m c = μ c) ∧ ∀ s, m 70 s = if 40 * b + j + t ≤ s ∧ s < 40 * b + j + n then μ 71 (s - (40 * b + j)) else μ 70 s := by
  intro k
  induction k with
  | zero =>
    intro t f μ ht hf
    obtain ⟨f, rfl⟩ : ∃ m, f = m + 1 := ⟨f - 1, by omega⟩
    have c : nI n ≤ nI t := by rw [nz_le (by omega) (by omega)]; omega
    exact ⟨μ, by rw [mdf_move_L156, if_pos c], fun _ _ => rfl, fun s => by rw [if_neg (by omega)]⟩
  | succ k ih =>
    intro t f μ ht hf
    obtain ⟨f, rfl⟩ : ∃ m, f = m + 1 := ⟨f - 1, by omega⟩
    have c : ¬ nI n ≤ nI t := by rw [nz_le (by omega) (by omega)]; omega
    have g1 : jj_i (nI (40 * b + j + t)) 160 := nz_in (by omega) (by omega)
    have g2 : jj_i (nI t) 40 := nz_in (by omega) (by omega)
    have k1 : (nI (40 * b + j + t)).toNatClampNeg = 40 * b + j + t := nz_clamp (by omega)
    have k2 : (nI t).toNatClampNeg = t := nz_clamp (by omega)
    obtain ⟨m, m1, m2, m3⟩ := ih (t + 1) f (jj_u μ 70 (40 * b + j + t) (μ 71 t)) (by omega) (by omega)
    refine ⟨m, ?_, fun d hd => by rw [m2 d hd, ju_ne hd], fun s => ?_⟩
    · rw [mdf_move_L156]
      simp only [c, mv_i b j t, eq_true g1, eq_true g2, k1, k2, ↓reduceIte, nz_s, Option.bind_some]
      exact m1
    · rw [m3 s, ju_ne (show (71 : Nat) ≠ 70 by decide), ju_app, if_pos rfl]
      by_cases q : s = 40 * b + j + t
      · subst q; rw [if_neg (by omega), if_pos rfl, if_pos (by omega), show 40 * b + j + t - (40 * b + j) = t by omega]
      · rw [if_neg q]
        by_cases q2 : 40 * b + j + (t + 1) ≤ s ∧ s < 40 * b + j + n
        · rw [if_pos q2, if_pos (by omega)]
        · rw [if_neg q2, if_neg (by omega)]
theorem st_move {μ : jj_M} (h : jI μ) (x1 x2 x3 x4 x5 : Int32) : ∃ (r : Int32) (μ1 : jj_M) (μ2 : jj_M), wnf_move x1 x2 x3 x4 x5 μ = some (r, μ1) ∧ mdf_move jz_N x1 x2 x3 x4 x5 μ1 = some (r, μ2) ∧ jI μ2 := by
  unfold wnf_move mdf_move
  rw [nz_isSheet, nz_isSheet]
  obtain ⟨m1, m2, a1, b1, w1⟩ := err1 h
  by_cases c1 : wnf_isSheet x1 = 0
  · exact ⟨-1000000001, m1, m2, by simp only [c1, a1, ↓reduceIte, Option.bind_some], by simp only [c1, b1, ↓reduceIte, Option.bind_some], w1⟩
  by_cases c2 : wnf_isSheet x3 = 0
  · exact ⟨-1000000001, m1, m2, by simp only [c1, c2, a1, ↓reduceIte, Option.bind_some], by simp only [c1, c2, b1, ↓reduceIte, Option.bind_some], w1⟩
  obtain ⟨a, ha, rfl⟩ := nz_sheet c1
  obtain ⟨b, hb, rfl⟩ := nz_sheet c2
  obtain ⟨A1, A2, _, ⟨z1, hz1, ez1, _⟩, A5⟩ := h.sh ha
  obtain ⟨B1, B2, _, ⟨z3, hz3, ez3, _⟩, B5⟩ := h.sh hb
  have ga : jj_i (nI a) 4 := nz_in (by omega) (by omega)
  have gb : jj_i (nI b) 4 := nz_in (by omega) (by omega)
  have ka : (nI a).toNatClampNeg = a := nz_clamp (by omega)
  have kb : (nI b).toNatClampNeg = b := nz_clamp (by omega)
  have da : 50 + 1 + 2 * a = 51 + 2 * a := by omega
  have db : 50 + 1 + 2 * b = 51 + 2 * b := by omega
  have ma := missing_s A1
  have mb := missing_s B1
  obtain ⟨n1, n2, a2, b2, w2⟩ := err2 h
  have n68 : n1 68 = μ 68 := err_61 (e := 2) (by omega) a2 68 (by decide)
  by_cases c3 : μ 68 a = 0
  · have q : ¬ shf_isMissing (51 + 2 * a) μ = 0 := fun e => ma.mp e c3
    exact ⟨-1000000002, n1, n2, by simp only [c1, c2, eq_true ga, eq_true gb, ka, kb, da, db, q, a2, ↓reduceIte, Option.bind_some], by simp only [c1, c2, eq_true ga, ka, n68, c3, b2, ↓reduceIte, Option.bind_some], w2⟩
  have qa : shf_isMissing (51 + 2 * a) μ = 0 := ma.mpr c3
  by_cases c4 : μ 68 b = 0
  · have q : ¬ shf_isMissing (51 + 2 * b) μ = 0 := fun e => mb.mp e c4
    exact ⟨-1000000002, n1, n2, by simp only [c1, c2, eq_true ga, eq_true gb, ka, kb, da, db, qa, q, a2, ↓reduceIte, Option.bind_some], by simp only [c1, c2, eq_true ga, eq_true gb, ka, kb, n68, c3, c4, b2, ↓reduceIte, Option.bind_some], w2⟩
  have qb : shf_isMissing (51 + 2 * b) μ = 0 := mb.mpr c4
  by_cases c5 : μ 68 a = μ 68 b
  rotate_left
  · obtain ⟨k1, k2, a5, b5, w5⟩ := err5 h
    have k68 : k1 68 = μ 68 := err_61 (e := 5) (by omega) a5 68 (by decide)
    exact ⟨-1000000005, k1, k2, by simp only [c1, c2, eq_true ga, eq_true gb, ka, kb, da, db, qa, qb, A1, B1, c5, a5, ↓reduceIte, Option.bind_some], by simp only [c1, c2, eq_true ga, eq_true gb, ka, kb, k68, c3, c4, c5, b5, ↓reduceIte, Option.bind_some], w5⟩
  have hoA := holds_ok hz1 (p := 51 + 2 * a) (A2.trans ez1) x2 x5
  have hoB := holds_ok hz3 (p := 51 + 2 * b) (B2.trans ez3) x4 x5
  have m68 : m1 68 = μ 68 := err_61 (e := 1) (by omega) a1 68 (by decide)
  have m69 : m1 69 = μ 69 := err_61 (e := 1) (by omega) a1 69 (by decide)
  by_cases H : mvH x2 x4 x5 z1 z3
  rotate_left
  · refine ⟨-1000000001, m1, m2, ?_, ?_, w1⟩
    · by_cases p1 : shf_holds (51 + 2 * a) x2 x5 μ = 0
      · simp only [c1, c2, eq_true ga, eq_true gb, ka, kb, da, db, qa, qb, A1, B1, c5, p1, a1, ↓reduceIte, Option.bind_some]
      · have p2 : shf_holds (51 + 2 * b) x4 x5 μ = 0 := by
          rw [hoB]
          intro q
          have p1' := mt hoA.mpr p1
          unfold mvH at H
          omega
        simp only [c1, c2, eq_true ga, eq_true gb, ka, kb, da, db, qa, qb, A1, B1, c5, p1, p2, a1, ↓reduceIte, Option.bind_some]
    · have k := mv_chk (x2 := x2) (x4 := x4) (x5 := x5) hz1 hz3 ((mdf_errs (-1000000001) m1).bind fun q13 => some ((q13.1, q13.2))) (mdf_move_L119 jz_N (nI a) x2 (nI b) x4 x5 jz_N 0 m1)
      rw [if_neg H] at k
      simp only [c1, c2, eq_true ga, eq_true gb, ka, kb, m68, m69, ez1, ez3, c3, c4, c5, ↓reduceIte]
      rw [k, b1]
      rfl
  have k := mv_chk (x2 := x2) (x4 := x4) (x5 := x5) hz1 hz3 ((mdf_errs (-1000000001) (jj_uc μ (52 + 2 * b) (va_cpy (μ (52 + 2 * a)) (μ (52 + 2 * b)) (Int32.toNatClampNeg x2) (Int32.toNatClampNeg x4) (Int32.toNatClampNeg x5)))).bind fun q13 => some ((q13.1, q13.2))) (mdf_move_L119 jz_N (nI a) x2 (nI b) x4 x5 jz_N 0 (jj_uc μ (52 + 2 * b) (va_cpy (μ (52 + 2 * a)) (μ (52 + 2 * b)) (Int32.toNatClampNeg x2) (Int32.toNatClampNeg x4) (Int32.toNatClampNeg x5))))
  rw [if_pos H] at k
  have p1 : ¬ shf_holds (51 + 2 * a) x2 x5 μ = 0 := by rw [hoA]; unfold mvH at H; omega
  have p2 : ¬ shf_holds (51 + 2 * b) x4 x5 μ = 0 := by rw [hoB]; unfold mvH at H; omega
  obtain ⟨i, hi, rfl⟩ := nz_ofb (x := x2) (n := 41) (by unfold mvH at H; omega) (by unfold mvH at H; omega)
  obtain ⟨j, hj, rfl⟩ := nz_ofb (x := x4) (n := 41) (by unfold mvH at H; omega) (by unfold mvH at H; omega)
  obtain ⟨n, hn, rfl⟩ := nz_ofb (x := x5) (n := 41) (by unfold mvH at H; omega) (by unfold mvH at H; omega)
  unfold mvH at H
  rw [nz_toInt (show i < 2147483648 by omega), nz_toInt (show j < 2147483648 by omega), nz_toInt (show n < 2147483648 by omega)] at H
  have ki : (nI i).toNatClampNeg = i := nz_clamp (by omega)
  have kj : (nI j).toNatClampNeg = j := nz_clamp (by omega)
  have kn : (nI n).toNatClampNeg = n := nz_clamp (by omega)
  rw [ki, kj, kn] at k
  have nn : ∀ t, ¬ nI t < (0 : Int32) ∨ ¬ t < 100 := fun t => by
    by_cases q : t < 100
    · left; rw [show (0 : Int32) = nI 0 from rfl, nz_lt (by omega) (by omega)]; omega
    · right; exact q
  have G : jj_cg (nI i) (nI j) (nI n) 40 40 := ⟨(nn i).elim id (fun q => absurd (by omega) q), (nn j).elim id (fun q => absurd (by omega) q), (nn n).elim id (fun q => absurd (by omega) q), by rw [ki, kn]; omega, by rw [kj, kn]; omega⟩
  obtain ⟨C, hC⟩ : ∃ C, C = jj_uc μ (52 + 2 * b) (va_cpy (μ (52 + 2 * a)) (μ (52 + 2 * b)) i j n) := ⟨_, rfl⟩
  rw [← hC] at k
  have Co : ∀ c, c ≠ 52 + 2 * b → C c = μ c := fun c hc => by rw [hC, juc_ne hc]
  have Cb : ∀ t, C (52 + 2 * b) t = if j ≤ t ∧ t < j + n then μ (52 + 2 * a) (i + (t - j)) else μ (52 + 2 * b) t := fun t => by rw [hC, juc_eq]; rfl
  obtain ⟨P, P1, P2, P3⟩ := mv1 jz_N (a := a) (b := b) (i := i) (j := j) (n := n) ha (by omega) n 0 jz_N C (by omega) (by have := jz_ge; omega)
  obtain ⟨Q, Q1, Q2, Q3⟩ := mv2 jz_N (b := b) (j := j) (n := n) hb (by omega) n 0 jz_N P (by omega) (by have := jz_ge; omega)
  have da2 : 51 + 2 * a + 1 = 52 + 2 * a := by omega
  have db2 : 51 + 2 * b + 1 = 52 + 2 * b := by omega
  have Qo : ∀ c, c ≠ 52 + 2 * b → c ≠ 70 → c ≠ 71 → Q c = μ c := fun c x y z => by rw [Q2 c y, P2 c z, Co c x]
  refine ⟨nI n, C, Q, ?_, ?_, ?_⟩
  · simp only [c1, c2, eq_true ga, eq_true gb, ka, kb, da, db, qa, qb, A1, B1, c5, p1, p2, eq_true G, ki, kj, kn, da2, db2, ↓reduceIte, Option.bind_some]
    rw [hC]
  · simp only [c1, c2, eq_true ga, eq_true gb, ka, kb, Co 68 (by omega), Co 69 (by omega), ez1, ez3, c3, c4, c5, ↓reduceIte]
    rw [k, show (0 : Int32) = nI 0 from rfl, P1]
    exact Q1
  · refine h.sheet (fun k hk => ?_) (fun c hc => Qo c (by omega) (by omega) (by omega))
    obtain ⟨s1, s2, s3, s4, s5⟩ := h.sh hk
    show Q (51 + 2 * k) 1 = Q 68 k ∧ Q (51 + 2 * k) 2 = Q 69 k ∧ (Q 68 k = 0 ∨ Q 68 k = 8 ∨ Q 68 k = 16 ∨ Q 68 k = 32) ∧ (∃ n, n ≤ 40 ∧ Q 69 k = nI n ∧ (Q 68 k = 0 → n = 0)) ∧ ∀ j, j < 40 → Q (52 + 2 * k) j = Q 70 (40 * k + j)
    rw [Qo (51 + 2 * k) (by omega) (by omega) (by omega), Qo 68 (by omega) (by omega) (by omega), Qo 69 (by omega) (by omega) (by omega)]
    refine ⟨s1, s2, s3, s4, fun t ht => ?_⟩
    rw [Q3, P2 70 (by decide), Co 70 (by omega)]
    by_cases e : k = b
    · subst e
      rw [Q2 _ (by omega), P2 _ (by omega), Cb]
      by_cases q : j ≤ t ∧ t < j + n
      · rw [if_pos q, if_pos (by omega), P3, if_pos (by omega), Co 70 (by omega), A5 _ (by omega)]
        congr 1
        omega
      · rw [if_neg q, if_neg (by omega)]
        exact s5 t ht
    · rw [Qo _ (by omega) (by omega) (by omega), if_neg (by omega)]
      exact s5 t ht
