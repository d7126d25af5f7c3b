/-! ===== a day, as a change of the row ===== -/
def dayWs : Nat → Nat → (Nat → Int32) → (Nat → Int32)
  | 0, _, S => S
  | k + 1, i, S => dayWs k (i + 1) (upd S i (mdf_held (S i + S 136) 0 99))
def dayP (S : Nat → Int32) (p : Nat) : Nat → Int32 := if S (140 + 6 * p + 5) = 0 then upd (upd S (140 + 6 * p + 4) (S (140 + 6 * p + 4) + 1)) (140 + 6 * p + 5) (if S (140 + 6 * p + 4) + 1 ≤ limv S p then 0 else 1) else S
def dayPs : Nat → Nat → (Nat → Int32) → (Nat → Int32)
  | 0, _, S => S
  | k + 1, i, S => dayPs k (i + 1) (dayP S i)
def dayE (S : Nat → Int32) : Nat → Int32 := upd (upd S 138 (S 138 + 1)) 137 (S 137 + 1)
def dayS (n : Nat) (S : Nat → Int32) : Nat → Int32 := dayE (dayPs n 0 (dayWs 8 0 S))
theorem juc_same {μ : jj_M} {k : Nat} : jj_uc μ k (μ k) = μ := by
  funext a
  by_cases e : a = k
  · subst e; exact juc_eq
  · exact juc_ne e
theorem juc_u {μ : jj_M} {k j : Nat} {v : Int32} {g : Nat → Int32} : jj_uc (jj_u μ k j v) k g = jj_uc μ k g := by
  funext a
  by_cases e : a = k
  · subst e; rw [juc_eq, juc_eq]
  · rw [juc_ne e, juc_ne e, ju_ne e]
theorem juc_uc {μ : jj_M} {k : Nat} {f g : Nat → Int32} : jj_uc (jj_uc μ k f) k g = jj_uc μ k g := by
  funext a
  by_cases e : a = k
  · subst e; rw [juc_eq, juc_eq]
  · rw [juc_ne e, juc_ne e, juc_ne e]
theorem day_mW (N : Nat) : ∀ (k i f : Nat) (ν : jj_M), i + k = 8 → k < f → mdf_day_L2 N f (nI i) ν = mdf_day_L47 N N 0 (jj_uc ν 61 (dayWs k i (ν 61))) := by
  intro k
  induction k with
  | zero =>
    intro i f ν hi hf
    obtain ⟨f, rfl⟩ : ∃ m, f = m + 1 := ⟨f - 1, by omega⟩
    have e : i = 8 := by omega
    subst e
    rw [mdf_day_L2, if_pos (by decide), dayWs, juc_same]
  | succ k ih =>
    intro i f ν hi hf
    obtain ⟨f, rfl⟩ : ∃ m, f = m + 1 := ⟨f - 1, by omega⟩
    have z : (0 : Int32) + nI i = nI i := Int32.zero_add _
    have g : jj_i (nI i) 351 := nz_in (by omega) (by omega)
    have c : ¬ (8 : Int32) ≤ nI i := by rw [show (8 : Int32) = nI 8 from rfl, nz_le (by omega) (by omega)]; omega
    have ki : (nI i).toNatClampNeg = i := nz_clamp (by omega)
    rw [mdf_day_L2, if_neg c]
    simp only [z, eq_true g, ki, ↓reduceIte, Option.bind_some, nz_s]
    rw [ih (i + 1) f _ (by omega) (by omega), ju_rowS, juc_u, dayWs]
theorem day_mP (N : Nat) {n : Nat} (hn : n ≤ 6) : ∀ (k i f : Nat) (ν : jj_M), i + k = n → k < f → ν 61 139 = nI n → mdf_day_L47 N f (nI i) ν = some (jj_uc ν 61 (dayE (dayPs k i (ν 61)))) := by
  intro k
  induction k with
  | zero =>
    intro i f ν hi hf en
    obtain ⟨f, rfl⟩ : ∃ m, f = m + 1 := ⟨f - 1, by omega⟩
    have e : i = n := by omega
    subst e
    rw [mdf_day_L47, en, if_pos (Int32.le_refl _), Option.bind_some, dayPs, ju_other (show (137 : Nat) ≠ 138 by decide)]
    congr 1
    funext a
    by_cases e : a = 61
    · subst e
      rw [juc_eq, ju_rowS, ju_rowS]
      rfl
    · rw [juc_ne e, ju_ne e, ju_ne e]
  | succ k ih =>
    intro i f ν hi hf en
    obtain ⟨f, rfl⟩ : ∃ m, f = m + 1 := ⟨f - 1, by omega⟩
    have c : ¬ nI n ≤ nI i := by rw [nz_le (by omega) (by omega)]; omega
    have t5 : ∀ m, mdf_its (nI i) 5 m = some (m 61 (140 + 6 * i + 5)) := fun m => its_ok (p := i) (j := 5) (by omega) (by omega)
    have s4 : mdf_spot (nI i) 4 = nI (140 + 6 * i + 4) := spot_ok i 4
    have g4 : jj_i (nI (140 + 6 * i + 4)) 351 := nz_in (by omega) (by omega)
    have n4 : (nI (140 + 6 * i + 4)).toNatClampNeg = 140 + 6 * i + 4 := nz_clamp (by omega)
    rw [mdf_day_L47, en, if_neg c, t5, Option.bind_some, dayPs]
    by_cases q : ν 61 (140 + 6 * i + 5) = 0
    · rw [if_pos q]
      simp only [s4, eq_true g4, n4, ↓reduceIte, Option.bind_some, dies_ok (show i < 6 by omega), nz_s]
      have r : (jj_u (jj_u ν 61 (140 + 6 * i + 4) (ν 61 (140 + 6 * i + 4) + 1)) 61 (140 + 6 * i + 5) (if jj_u ν 61 (140 + 6 * i + 4) (ν 61 (140 + 6 * i + 4) + 1) 61 (140 + 6 * i + 4) ≤ limv (jj_u ν 61 (140 + 6 * i + 4) (ν 61 (140 + 6 * i + 4) + 1) 61) i then jj_u ν 61 (140 + 6 * i + 4) (ν 61 (140 + 6 * i + 4) + 1) 61 (140 + 6 * i + 5) else 1)) = jj_uc ν 61 (dayP (ν 61) i) := by
        have el : limv (jj_u ν 61 (140 + 6 * i + 4) (ν 61 (140 + 6 * i + 4) + 1) 61) i = limv (ν 61) i := limv_congr (ju_other (by omega)) (ju_other (by omega))
        rw [el, ju_self, ju_other (show 140 + 6 * i + 5 ≠ 140 + 6 * i + 4 by omega), q]
        unfold dayP
        rw [if_pos q]
        funext a
        by_cases e : a = 61
        · subst e
          rw [juc_eq, ju_rowS, ju_rowS]
        · rw [juc_ne e, ju_ne e, ju_ne e]
      rw [r]
      rw [ih (i + 1) f (jj_uc ν 61 (dayP (ν 61) i)) (by omega) (by omega) (by
        rw [juc_eq]
        unfold dayP
        rw [if_pos q, upd_n (by omega), upd_n (by omega)]; exact en), juc_eq, juc_uc]
    · rw [if_neg q, nz_s]
      rw [ih (i + 1) f ν (by omega) (by omega) en]
      unfold dayP
      rw [if_neg q]
theorem dayWs_o : ∀ (k i j : Nat) (S : Nat → Int32), i + k = 8 → 8 ≤ j → dayWs k i S j = S j := by
  intro k
  induction k with
  | zero => intro i j S _ _; rfl
  | succ k ih =>
    intro i j S hi hj
    rw [dayWs, ih _ _ _ (by omega) hj, upd_n (by omega)]
theorem dayP_o {S : Nat → Int32} {p j : Nat} (hj : j ≠ 140 + 6 * p + 4) (hj2 : j ≠ 140 + 6 * p + 5) : dayP S p j = S j := by
  unfold dayP
  split
  · rw [upd_n hj2, upd_n hj]
  · rfl
theorem dayPs_o : ∀ (k i j : Nat) (S : Nat → Int32), i + k ≤ 6 → (j < 140 ∨ 176 ≤ j) → dayPs k i S j = S j := by
  intro k
  induction k with
  | zero => intro i j S _ _; rfl
  | succ k ih =>
    intro i j S hi hj
    rw [dayPs, ih _ _ _ (by omega) hj, dayP_o (by omega) (by omega)]
theorem dayS_o {n j : Nat} {S : Nat → Int32} (hn : n ≤ 6) (hj : 8 ≤ j) (h1 : j ≠ 137) (h2 : j ≠ 138) (h3 : j < 140 ∨ 176 ≤ j) : dayS n S j = S j := by
  unfold dayS dayE
  rw [upd_n h1, upd_n h2, dayPs_o n 0 j _ (by omega) h3, dayWs_o 8 0 j S (by omega) hj]
/-- the reference's day -/
theorem day_m {N n : Nat} (hN : 10 < N) (hn : n ≤ 6) {ν : jj_M} (en : ν 61 139 = nI n) : mdf_day N ν = some (jj_uc ν 61 (dayS n (ν 61))) := by
  unfold mdf_day
  rw [show (0 : Int32) = nI 0 from rfl, day_mW N 8 0 N ν (by omega) (by omega), show (0 : Int32) = nI 0 from rfl, day_mP N hn n 0 N _ (by omega) (by omega) (by rw [juc_eq, dayWs_o 8 0 139 _ (by omega) (by omega)]; exact en), juc_eq, juc_uc]
  rfl
/-! the class's world beside a row -/
def agC (S : Nat → Int32) (ν : jj_M) : Prop := (∀ j, dn S j → ν (lc 1 j) (li j) = S j) ∧ jDd 1 ν
theorem jI.agw {μ : jj_M} (h : jI μ) : agC (μ 61) μ := ⟨h.w.2.1, h.w.2.2.2.2⟩
theorem agC.wr {S : Nat → Int32} {ν : jj_M} {j : Nat} {v : Int32} (h : agC S ν) (hq : jok j v) : agC (upd S j v) (jj_u ν (lc 1 j) (li j) v) := by
  obtain ⟨hj, h139, hd⟩ := hq
  have rj := lc_r (w := 1) hj
  refine ⟨fun i hi => ?_, fun p hp => ?_⟩
  · have hi' : dn S i := ⟨hi.1, fun a b => by have := hi.2 a b; rwa [upd_n (Ne.symm h139)] at this⟩
    by_cases e : i = j
    · subst e
      rw [ju_self, upd_s]
    · rw [upd_n e, ju_app]
      by_cases e2 : lc 1 i = lc 1 j
      · rw [if_pos e2, if_neg (fun q => e (l_inj hi.1 hj e2 q)), ← e2]
        exact h.1 i hi'
      · rw [if_neg e2]
        exact h.1 i hi'
  · have := jDd.wr (w := 1) (s := 61) (j := j) (v := v) h.2 (by omega) hj hd p hp
    rwa [ju_ne (by omega)] at this
theorem agC.at {S : Nat → Int32} {ν : jj_M} (h : agC S ν) {j : Nat} (hj : j < 140 ∨ j = 176 ∨ j = 177 ∨ j = 178) : ν (lc 1 j) (li j) = S j := h.1 j ⟨by unfold dm; omega, fun a b => by omega⟩
theorem agC.per {S : Nat → Int32} {ν : jj_M} (h : agC S ν) {n p j : Nat} (hn : n ≤ 6) (en : S 139 = nI n) (hp : p < n) (hj : j < 6) : ν (9 + p) j = S (140 + 6 * p + j) := by
  have := h.1 (140 + 6 * p + j) ⟨by unfold dm; omega, fun a b => by rw [en, nz_toInt (by omega)]; omega⟩
  rwa [lc_p p j (by omega) hj, li_p p j (by omega) hj] at this
def frC (ν m : jj_M) : Prop := ∀ k, ¬ (1 ≤ k ∧ k < 15) → m k = ν k
theorem frC.rf {ν : jj_M} : frC ν ν := fun _ _ => rfl
theorem frC.u {ν m : jj_M} (h : frC ν m) {k j : Nat} {v : Int32} (hk : 1 ≤ k ∧ k < 15) : frC ν (jj_u m k j v) := fun a ha => (ju_ne (fun e => ha (by rw [e]; exact hk))).trans (h a ha)
theorem frC.tr {a b c : jj_M} (h1 : frC a b) (h2 : frC b c) : frC a c := fun k hk => (h2 k hk).trans (h1 k hk)
theorem min_held9 {v : Int32} (h : 0 ≤ v.toInt) : jdf_min 99 v = mdf_held v 0 99 ∧ jb (mdf_held v 0 99) 0 99 := by
  have z0 : (0 : Int32).toInt = 0 := by decide
  have z9 : (99 : Int32).toInt = 99 := by decide
  have h0 : (0 : Int32) ≤ v := by rw [Int32.le_iff_toInt_le]; omega
  unfold jdf_min mdf_held
  rw [if_pos h0]
  by_cases c : v < 99
  · have c' := c
    rw [Int32.lt_iff_toInt_lt, z9] at c'
    rw [if_pos c, if_pos (by rw [Int32.le_iff_toInt_le]; omega)]
    exact ⟨rfl, by omega, by omega⟩
  · have c' := c
    rw [Int32.lt_iff_toInt_lt, z9] at c'
    rw [if_neg c]
    by_cases d : v ≤ 99
    · rw [if_pos d]
      rw [Int32.le_iff_toInt_le, z9] at d
      exact ⟨(Int32.toInt_inj.mp (by omega)).symm, by omega, by omega⟩
    · rw [if_neg d]
      exact ⟨rfl, by decide⟩
theorem wsum_nn {x y : Int32} (h1 : jb x 0 99) (h2 : jb y 0 9) : 0 ≤ (x + y).toInt := by
  rw [nz_addI (by omega) (by omega)]; omega
theorem day_cW (N : Nat) : ∀ (k i f : Nat) (S : Nat → Int32) (ν : jj_M), i + k = 8 → k < f → agC S ν → (∀ b, b < 8 → jb (S b) 0 99) → jb (S 136) 0 9 → ∃ m, wof_passDay_L2 N 1 f (nI i) ν = wof_passDay_L38 N 1 N 0 m ∧ agC (dayWs k i S) m ∧ frC ν m := by
  intro k
  induction k with
  | zero =>
    intro i f S ν hi hf h hb hr
    obtain ⟨f, rfl⟩ : ∃ m, f = m + 1 := ⟨f - 1, by omega⟩
    have e : i = 8 := by omega
    subst e
    exact ⟨ν, by rw [wof_passDay_L2, if_pos (by decide)], h, frC.rf⟩
  | succ k ih =>
    intro i f S ν hi hf h hb hr
    obtain ⟨f, rfl⟩ : ∃ m, f = m + 1 := ⟨f - 1, by omega⟩
    have g : jj_i (nI i) 8 := nz_in (by omega) (by omega)
    have c : ¬ (8 : Int32) ≤ nI i := by rw [show (8 : Int32) = nI 8 from rfl, nz_le (by omega) (by omega)]; omega
    have ki : (nI i).toNatClampNeg = i := nz_clamp (by omega)
    have l1 : lc 1 i = 2 := by unfold lc; rw [if_pos (by omega)]
    have l2 : li i = i := by unfold li; rw [if_pos (by omega)]
    have a := h.at (j := i) (by omega)
    rw [l1, l2] at a
    have r : ν 1 8 = S 136 := h.at (j := 136) (by omega)
    obtain ⟨h1, h2⟩ := min_held9 (wsum_nn (hb i (by omega)) hr)
    have w := h.wr (j := i) (v := mdf_held (S i + S 136) 0 99) ⟨by unfold dm; omega, by omega, fun _ _ _ => by omega⟩
    rw [l1, l2] at w
    obtain ⟨m, m1, m2, m3⟩ := ih (i + 1) f (upd S i (mdf_held (S i + S 136) 0 99)) (jj_u ν 2 i (mdf_held (S i + S 136) 0 99)) (by omega) (by omega) w (fun b hb8 => by
      by_cases e : b = i
      · subst e; rw [upd_s]; exact h2
      · rw [upd_n e]; exact hb b hb8) (by rw [upd_n (by omega)]; exact hr)
    refine ⟨m, ?_, m2, (frC.rf.u (by omega)).tr m3⟩
    rw [wof_passDay_L2, if_neg c]
    simp only [eq_true g, ki, show 1 + 1 = 2 from rfl, a, r, h1, ↓reduceIte, Option.bind_some, nz_s]
    exact m1
theorem day_cP (N : Nat) {n : Nat} (hn : n ≤ 6) : ∀ (k i f : Nat) (S : Nat → Int32) (ν : jj_M), i + k = n → k < f → S 139 = nI n → agC S ν → ∃ m, wof_passDay_L38 N 1 f (nI i) ν = some m ∧ agC (dayE (dayPs k i S)) m ∧ frC ν m := by
  intro k
  induction k with
  | zero =>
    intro i f S ν hi hf en h
    obtain ⟨f, rfl⟩ : ∃ m, f = m + 1 := ⟨f - 1, by omega⟩
    have e : i = n := by omega
    subst e
    have e7 : ν 1 7 = nI i := (h.at (j := 139) (by omega)).trans en
    have e10 : ν 1 10 = S 138 := h.at (j := 138) (by omega)
    have e9 : ν 1 9 = S 137 := h.at (j := 137) (by omega)
    have w1 := h.wr (j := 138) (v := S 138 + 1) ⟨by unfold dm; omega, by omega, fun _ _ _ => by omega⟩
    have w2 := w1.wr (j := 137) (v := S 137 + 1) ⟨by unfold dm; omega, by omega, fun _ _ _ => by omega⟩
    refine ⟨jj_u (jj_u ν 1 10 (S 138 + 1)) 1 9 (S 137 + 1), ?_, w2, (frC.rf.u (by omega)).u (by omega)⟩
    rw [wof_passDay_L38, e7, if_pos (Int32.le_refl _), Option.bind_some, ju_other (show (9 : Nat) ≠ 10 by decide), e10, e9]
  | succ k ih =>
    intro i f S ν hi hf en h
    obtain ⟨f, rfl⟩ : ∃ m, f = m + 1 := ⟨f - 1, by omega⟩
    have e7 : ν 1 7 = nI n := (h.at (j := 139) (by omega)).trans en
    have c : ¬ nI n ≤ nI i := by rw [nz_le (by omega) (by omega)]; omega
    have g : jj_i (nI i) 6 := nz_in (by omega) (by omega)
    have ki : (nI i).toNatClampNeg = i := nz_clamp (by omega)
    have d9 : 1 + 4 + 4 + i = 9 + i := by omega
    have a5 := h.per hn en (p := i) (j := 5) (by omega) (by omega)
    have a4 := h.per hn en (p := i) (j := 4) (by omega) (by omega)
    by_cases q : S (140 + 6 * i + 5) = 0
    · have thr := thirsts_c (ν := ν) (S := S) (p := i) (x := 1) (h.per hn en (j := 0) (by omega) (by omega)) (h.per hn en (j := 1) (by omega) (by omega)) (by rw [a5]; exact q)
      rw [a4] at thr
      have w1 := h.wr (j := 140 + 6 * i + 4) (v := S (140 + 6 * i + 4) + 1) ⟨by unfold dm; omega, by omega, fun _ _ _ => by omega⟩
      have w2 := w1.wr (j := 140 + 6 * i + 5) (v := if S (140 + 6 * i + 4) + 1 ≤ limv S i then 0 else 1) ⟨by unfold dm; omega, by omega, fun _ _ _ => by split; exact Or.inl rfl; exact Or.inr rfl⟩
      rw [lc_p i 4 (by omega) (by omega), li_p i 4 (by omega) (by omega), lc_p i 5 (by omega) (by omega), li_p i 5 (by omega) (by omega), ← thr] at w2
      have eP : dayP S i = upd (upd S (140 + 6 * i + 4) (S (140 + 6 * i + 4) + 1)) (140 + 6 * i + 5) (if S (140 + 6 * i + 4) + 1 ≤ limv S i then 0 else 1) := by
        unfold dayP
        rw [if_pos q]
      rw [← eP] at w2
      obtain ⟨m, m1, m2, m3⟩ := ih (i + 1) f (dayP S i) (pef_thirsts (9 + i) 1 ν) (by omega) (by omega) (by rw [dayP_o (by omega) (by omega)]; exact en) w2
      refine ⟨m, ?_, m2, frC.tr ?_ m3⟩
      · rw [wof_passDay_L38]
        simp only [e7, c, eq_true g, ki, d9, a5, q, ↓reduceIte, nz_s]
        exact m1
      · rw [thr]
        exact (frC.rf.u (by omega)).u (by omega)
    · have eP : dayP S i = S := by
        unfold dayP
        rw [if_neg q]
      obtain ⟨m, m1, m2, m3⟩ := ih (i + 1) f S ν (by omega) (by omega) en h
      refine ⟨m, ?_, by rw [dayPs, eP]; exact m2, m3⟩
      rw [wof_passDay_L38]
      simp only [e7, c, eq_true g, ki, d9, a5, q, ↓reduceIte, nz_s]
      exact m1
/-- the class's day -/
theorem day_c {N n : Nat} (hN : 10 < N) (hn : n ≤ 6) {S : Nat → Int32} {ν : jj_M} (h : agC S ν) (en : S 139 = nI n) (hb : ∀ b, b < 8 → jb (S b) 0 99) (hr : jb (S 136) 0 9) : ∃ m, wof_passDay N 1 ν = some m ∧ agC (dayS n S) m ∧ frC ν m := by
  obtain ⟨m, m1, m2, m3⟩ := day_cW N 8 0 N S ν (by omega) (by omega) h hb hr
  obtain ⟨m', k1, k2, k3⟩ := day_cP N hn n 0 N (dayWs 8 0 S) m (by omega) (by omega) (by rw [dayWs_o 8 0 139 S (by omega) (by omega)]; exact en) m2
  refine ⟨m', ?_, k2, m3.tr k3⟩
  unfold wof_passDay
  rw [show (0 : Int32) = nI 0 from rfl, m1]
  exact k1
/-! what holds of a row, a day behind -/
theorem dayWs_w : ∀ (k i : Nat) (S : Nat → Int32), i + k = 8 → (∀ b, b < 8 → jb (S b) 0 99) → jb (S 136) 0 9 → ∀ b, b < 8 → jb (dayWs k i S b) 0 99 := by
  intro k
  induction k with
  | zero => intro i S _ hb _; exact hb
  | succ k ih =>
    intro i S hi hb hr
    refine ih (i + 1) _ (by omega) (fun b hb8 => ?_) (by rw [upd_n (by omega)]; exact hr)
    by_cases e : b = i
    · subst e; rw [upd_s]; exact (min_held9 (wsum_nn (hb b hb8) hr)).2
    · rw [upd_n e]; exact hb b hb8
theorem dayP_per {S : Nat → Int32} {p q : Nat} (h : jPer S q) : jPer (dayP S p) q := by
  by_cases e : p = q
  · subst e
    have hP := h
    obtain ⟨k, m, a, nm, P5⟩ := h
    obtain ⟨lm, hlm, hlm2, elm⟩ := limv_b hP
    unfold dayP
    by_cases d : S (140 + 6 * p + 5) = 0
    · rw [if_pos d]
      refine ⟨?_, ?_, ?_, ?_, ?_⟩
      · rw [upd_n (by omega), upd_n (by omega)]; exact k
      · rw [upd_n (by omega), upd_n (by omega)]; exact m
      · rw [upd_n (by omega), upd_n (by omega)]; exact a
      · rw [upd_n (by omega), upd_n (by omega)]; exact nm
      · rw [upd_s, upd_n (by omega), upd_s]
        rcases P5 with ⟨_, t, ht, et⟩ | ⟨x, _⟩
        · rw [et, elm, nz_s]
          by_cases z : t + 1 ≤ lm
          · rw [if_pos ((nz_le (by omega) (by omega)).mpr z)]
            exact Or.inl ⟨rfl, t + 1, by omega, rfl⟩
          · rw [if_neg (fun e => z ((nz_le (by omega) (by omega)).mp e))]
            exact Or.inr ⟨rfl, t + 1, by omega, rfl⟩
        · rw [d] at x; exact absurd x (by decide)
    · rw [if_neg d]; exact hP
  · unfold jPer at h ⊢
    rw [dayP_o (by omega) (by omega), dayP_o (by omega) (by omega), dayP_o (by omega) (by omega), dayP_o (by omega) (by omega), dayP_o (by omega) (by omega), dayP_o (by omega) (by omega)]
    exact h
theorem dayPs_per : ∀ (k i : Nat) (S : Nat → Int32) (q : Nat), jPer S q → jPer (dayPs k i S) q := by
  intro k
  induction k with
  | zero => intro i S q h; exact h
  | succ k ih =>
    intro i S q h
    exact ih (i + 1) _ q (dayP_per h)
theorem jPer.congr {S T : Nat → Int32} {q : Nat} (h : jPer S q) (e : ∀ j, j < 6 → T (140 + 6 * q + j) = S (140 + 6 * q + j)) : jPer T q := by
  have e0 := e 0 (by omega)
  rw [Nat.add_zero] at e0
  unfold jPer at h ⊢
  rw [e0, e 1 (by omega), e 2 (by omega), e 3 (by omega), e 4 (by omega), e 5 (by omega)]
  exact h
theorem dayS_per {S : Nat → Int32} {n q : Nat} (hq : q < 6) (h : jPer S q) : jPer (dayS n S) q := by
  have h1 : jPer (dayWs 8 0 S) q := h.congr (fun j hj => dayWs_o 8 0 _ S (by omega) (by omega))
  have h2 := dayPs_per n 0 _ q h1
  refine h2.congr (fun j hj => ?_)
  unfold dayS dayE
  rw [upd_n (by omega), upd_n (by omega)]
theorem dayS_137 {n : Nat} {S : Nat → Int32} (hn : n ≤ 6) : dayS n S 137 = S 137 + 1 ∧ dayS n S 138 = S 138 + 1 := by
  unfold dayS dayE
  rw [upd_s, upd_n (show (138 : Nat) ≠ 137 by decide), upd_s, dayPs_o n 0 137 _ (by omega) (by omega), dayPs_o n 0 138 _ (by omega) (by omega), dayWs_o 8 0 137 S (by omega) (by omega), dayWs_o 8 0 138 S (by omega) (by omega)]
  exact ⟨rfl, rfl⟩
theorem dayS_w {n : Nat} {S : Nat → Int32} (hn : n ≤ 6) (hb : ∀ b, b < 8 → jb (S b) 0 99) (hr : jb (S 136) 0 9) : ∀ b, b < 8 → jb (dayS n S b) 0 99 := by
  intro b hb8
  unfold dayS dayE
  rw [upd_n (by omega), upd_n (by omega), dayPs_o n 0 b _ (by omega) (by omega)]
  exact dayWs_w 8 0 S (by omega) hb hr b hb8
theorem jS.day {S : Nat → Int32} {n : Nat} (h : jS S) (hn : n ≤ 6) (en : S 139 = nI n) (h1 : (S 137).toInt < 99999) (h2 : (S 138).toInt < 9999) : jS (dayS n S) := by
  obtain ⟨g1, g2, g3, g4⟩ := h
  obtain ⟨e1, e2⟩ := dayS_137 (n := n) (S := S) hn
  have o1 : (1 : Int32).toInt = 1 := by decide
  have b7 := g1 137 (by omega)
  have b8 := g1 138 (by omega)
  rw [show bdh 137 = 99999 by decide] at b7
  rw [show bdh 138 = 9999 by decide] at b8
  refine ⟨fun j hj => ?_, fun a b ha hb => ?_, fun a ha => ?_, fun p hp => ?_⟩
  · by_cases q : j < 8
    · have := dayS_w (n := n) hn (fun b hb => by have := g1 b (by omega); unfold bdh at this; rw [if_pos hb] at this; exact this) (by have := g1 136 (by omega); rw [show bdh 136 = 9 by decide] at this; exact this) j q
      unfold bdh
      rw [if_pos q]
      exact this
    by_cases q1 : j = 137
    · subst q1
      rw [e1, show bdh 137 = 99999 by decide]
      unfold jb
      rw [nz_addI (by omega) (by omega)]
      omega
    by_cases q2 : j = 138
    · subst q2
      rw [e2, show bdh 138 = 9999 by decide]
      unfold jb
      rw [nz_addI (by omega) (by omega)]
      omega
    rw [dayS_o hn (by omega) q1 q2 (by omega)]
    exact g1 j hj
  · rw [dayS_o hn (by omega) (by omega) (by omega) (by omega), dayS_o hn (by omega) (by omega) (by omega) (by omega)]
    exact g2 a b ha hb
  · rw [dayS_o hn (by omega) (by omega) (by omega) (by omega)]
    exact g3 a ha
  · rw [dayS_o hn (by omega) (by omega) (by omega) (by omega)] at hp
    have : p < 6 := by rw [en, nz_toInt (by omega)] at hp; omega
    exact dayS_per this (g4 p hp)
/-- agreement out of a row and the class's world beside it -/
theorem jI.fin {μ m : jj_M} (h : jI μ) (hS : jS (m 61)) (hA : agC (m 61) m) (e : ∀ k, ¬ (1 ≤ k ∧ k < 15) → k ≠ 61 → m k = μ k) (ht : ∀ j, (j = 179 ∨ j = 180 ∨ (231 ≤ j ∧ j < 331)) → m 61 j = μ 61 j) : jI m :=
  h.mod hS (fun j hj => Or.inr (hA.1 j hj)) ⟨e _ (by omega) (by omega), e _ (by omega) (by omega), e _ (by omega) (by omega), e _ (by omega) (by omega)⟩ ht hA.2 (fun k hk => e k (by omega) (by omega))
