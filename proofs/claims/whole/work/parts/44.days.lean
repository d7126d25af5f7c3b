/-! ===== days, and days by draws ===== -/
theorem nz_div {t c : Nat} (ht : t < 2147483648) (hc : c < 2147483648) : nI t / nI c = nI (t / c) := by
  apply Int32.toInt_inj.mp
  have le : t / c ≤ t := Nat.div_le_self t c
  rw [Int32.toInt_div, nz_toInt ht, nz_toInt hc, nz_toInt (by omega)]
  rw [show (t : Int).tdiv (c : Int) = ((t / c : Nat) : Int) from by rw [Int.tdiv_eq_ediv_of_nonneg (by omega)]; rfl]
  generalize t / c = q at le ⊢
  apply Int.bmod_eq_of_le <;> omega
theorem nz_rem {t c : Nat} (ht : t < 2147483648) (hc : c < 2147483648) : nI t - nI t / nI c * nI c = nI (t % c) := by
  rw [nz_div ht hc, nz_mul, nz_sub (Nat.div_mul_le_self t c)]
  congr 1
  have := Nat.div_add_mod t c
  rw [Nat.mul_comm] at this
  omega
def drw (z : Int32) : Int32 := (Int32.toUInt32 z >>> (Int32.toUInt32 8 &&& Int32.toUInt32 31)).toInt32
theorem drw_ok (z : Int32) : ∃ t, t < 16777216 ∧ drw z = nI t := by
  have e8 : (Int32.toUInt32 8 &&& Int32.toUInt32 31) = (8 : UInt32) := by decide
  refine ⟨(Int32.toUInt32 z >>> (8 : UInt32)).toNat, ?_, ?_⟩
  · rw [UInt32.toNat_shiftRight]
    have h1 : (Int32.toUInt32 z).toNat < 4294967296 := (Int32.toUInt32 z).toNat_lt
    have h2 : (8 : UInt32).toNat % 32 = 8 := by decide
    rw [h2, Nat.shiftRight_eq_div_pow]
    omega
  · unfold drw
    rw [e8]
    generalize Int32.toUInt32 z >>> (8 : UInt32) = u
    have e : u = UInt32.ofNat u.toNat := (UInt32.ofNat_toNat).symm
    exact congrArg UInt32.toInt32 e
def drz (z : Int32) : Int32 := z * 1103515245 + 12345
def drwS (S : Nat → Int32) : Nat → Int32 := upd (upd S 176 (drz (drz (S 176)))) (drw (drz (S 176)) - drw (drz (S 176)) / 8 * 8).toNatClampNeg (drw (drz (drz (S 176))) - drw (drz (drz (S 176))) / 20 * 20)
theorem drwS_ok (S : Nat → Int32) : ∃ w v, w < 8 ∧ v < 20 ∧ drwS S = upd (upd S 176 (drz (drz (S 176)))) w (nI v) ∧ drw (drz (S 176)) - drw (drz (S 176)) / 8 * 8 = nI w ∧ drw (drz (drz (S 176))) - drw (drz (drz (S 176))) / 20 * 20 = nI v := by
  obtain ⟨t1, h1, e1⟩ := drw_ok (drz (S 176))
  obtain ⟨t2, h2, e2⟩ := drw_ok (drz (drz (S 176)))
  have r1 : drw (drz (S 176)) - drw (drz (S 176)) / 8 * 8 = nI (t1 % 8) := by rw [e1, show (8 : Int32) = nI 8 from rfl, nz_rem (by omega) (by omega)]
  have r2 : drw (drz (drz (S 176))) - drw (drz (drz (S 176))) / 20 * 20 = nI (t2 % 20) := by rw [e2, show (20 : Int32) = nI 20 from rfl, nz_rem (by omega) (by omega)]
  refine ⟨t1 % 8, t2 % 20, by omega, by omega, ?_, r1, r2⟩
  unfold drwS
  rw [r1, r2, nz_clamp (by omega)]
theorem draw_c {S : Nat → Int32} {ν : jj_M} (h : agC S ν) : ∃ m, wof_drawWater 1 ν = some m ∧ agC (drwS S) m ∧ frC ν m := by
  obtain ⟨w, v, hw, hv, e, r1, r2⟩ := drwS_ok S
  have a : ν 1 13 = S 176 := h.at (j := 176) (by omega)
  have w1 := h.wr (j := 176) (v := drz (drz (S 176))) ⟨by unfold dm; omega, by omega, fun _ _ _ => by omega⟩
  have w2 := w1.wr (j := w) (v := nI v) ⟨by unfold dm; omega, by omega, fun _ _ _ => by omega⟩
  rw [← e] at w2
  have l1 : lc 1 w = 2 := by unfold lc; rw [if_pos hw]
  have l2 : li w = w := by unfold li; rw [if_pos hw]
  rw [l1, l2] at w2
  have w2 : agC (drwS S) (jj_u (jj_u ν 1 13 (drz (drz (S 176)))) 2 w (nI v)) := w2
  have d1 : wof_draw 1 ν = (drw (drz (S 176)), jj_u ν 1 13 (drz (S 176))) := by
    unfold wof_draw drw drz
    rw [ju_self, a]
  have d2 : wof_draw 1 (jj_u ν 1 13 (drz (S 176))) = (drw (drz (drz (S 176))), jj_u ν 1 13 (drz (drz (S 176)))) := by
    unfold wof_draw drw
    rw [ju_twice, ju_self, ju_self]
    rfl
  refine ⟨_, ?_, w2, (frC.rf.u (by omega)).u (by omega)⟩
  unfold wof_drawWater
  rw [d1]
  simp only []
  rw [d2]
  simp only [r1, r2]
  rw [if_neg (nz_isW hw), if_pos (nz_in hw (by omega)), nz_clamp (by omega), Option.bind_some]
theorem draw_m {ν : jj_M} : ∃ w v, w < 8 ∧ v < 20 ∧ drwS (ν 61) = upd (upd (ν 61) 176 (drz (drz (ν 61 176)))) w (nI v) ∧ ((mdf_draw ν).1) - ((mdf_draw ν).1) / 8 * 8 = nI w ∧ jj_u ((mdf_draw ((mdf_draw ν).2)).2) 61 w (((mdf_draw ((mdf_draw ν).2)).1) - ((mdf_draw ((mdf_draw ν).2)).1) / 20 * 20) = jj_uc ν 61 (drwS (ν 61)) := by
  obtain ⟨w, v, hw, hv, e, r1, r2⟩ := drwS_ok (ν 61)
  have d1 : mdf_draw ν = (drw (drz (ν 61 176)), jj_u ν 61 176 (drz (ν 61 176))) := by
    unfold mdf_draw drw drz
    rw [ju_self]
  have d2 : mdf_draw (jj_u ν 61 176 (drz (ν 61 176))) = (drw (drz (drz (ν 61 176))), jj_u ν 61 176 (drz (drz (ν 61 176)))) := by
    unfold mdf_draw drw
    rw [ju_twice, ju_self, ju_self]
    rfl
  refine ⟨w, v, hw, hv, e, ?_, ?_⟩
  · rw [d1]; exact r1
  · rw [d1]
    simp only []
    rw [d2]
    simp only [r2]
    rw [e]
    funext a
    by_cases q : a = 61
    · subst q; rw [juc_eq, ju_rowS, ju_rowS]
    · rw [juc_ne q, ju_ne q, ju_ne q]
theorem drwS_o {S : Nat → Int32} {j : Nat} (hj : 8 ≤ j) (h : j ≠ 176) : drwS S j = S j := by
  obtain ⟨w, v, hw, hv, e, _, _⟩ := drwS_ok S
  rw [e, upd_n (by omega), upd_n h]
theorem drwS_S {S : Nat → Int32} (h : jS S) : jS (drwS S) := by
  obtain ⟨w, v, hw, hv, e, _, _⟩ := drwS_ok S
  rw [e]
  refine (h.up (j := 176) (by omega) (fun q => by omega)).up (j := w) (by omega) (fun _ => ?_)
  unfold bdh jb
  rw [if_pos hw, nz_toInt (by omega)]
  omega
/-- a day, by draws or not -/
def stS (b : Bool) (n : Nat) (S : Nat → Int32) : Nat → Int32 := dayS n (if b = true then drwS S else S)
def itS (b : Bool) (n : Nat) : Nat → (Nat → Int32) → (Nat → Int32)
  | 0, S => S
  | k + 1, S => itS b n k (stS b n S)
theorem stS_o {b : Bool} {n j : Nat} {S : Nat → Int32} (hn : n ≤ 6) (hj : 8 ≤ j) (h1 : j ≠ 137) (h2 : j ≠ 138) (h3 : j < 140 ∨ 177 ≤ j) : stS b n S j = S j := by
  unfold stS
  rw [dayS_o hn hj h1 h2 (by omega)]
  split
  · exact drwS_o hj (by omega)
  · rfl
theorem stS_S {b : Bool} {n : Nat} {S : Nat → Int32} (h : jS S) (hn : n ≤ 6) (en : S 139 = nI n) (h1 : (S 137).toInt < 99999) (h2 : (S 138).toInt < 9999) : jS (stS b n S) ∧ stS b n S 137 = S 137 + 1 ∧ stS b n S 138 = S 138 + 1 := by
  unfold stS
  by_cases q : b = true
  · rw [if_pos q]
    obtain ⟨e1, e2⟩ := dayS_137 (n := n) (S := drwS S) hn
    rw [drwS_o (by omega) (by omega)] at e1 e2
    exact ⟨(drwS_S h).day hn (by rw [drwS_o (by omega) (by omega)]; exact en) (by rw [drwS_o (by omega) (by omega)]; exact h1) (by rw [drwS_o (by omega) (by omega)]; exact h2), e1, e2⟩
  · rw [if_neg q]
    obtain ⟨e1, e2⟩ := dayS_137 (n := n) (S := S) hn
    exact ⟨h.day hn en h1 h2, e1, e2⟩
theorem itS_o {b : Bool} {n j : Nat} (hn : n ≤ 6) (hj : 8 ≤ j) (h1 : j ≠ 137) (h2 : j ≠ 138) (h3 : j < 140 ∨ 177 ≤ j) : ∀ k S, itS b n k S j = S j := by
  intro k
  induction k with
  | zero => intro S; rfl
  | succ k ih =>
    intro S
    rw [itS, ih, stS_o hn hj h1 h2 h3]
theorem jS.b8 {S : Nat → Int32} (h : jS S) : (∀ b, b < 8 → jb (S b) 0 99) ∧ jb (S 136) 0 9 := by
  refine ⟨fun b hb => ?_, ?_⟩
  · have := h.1 b (by omega)
    unfold bdh at this
    rw [if_pos hb] at this
    exact this
  · have := h.1 136 (by omega)
    rw [show bdh 136 = 9 by decide] at this
    exact this
theorem step_c {N n : Nat} (hN : 10 < N) (hn : n ≤ 6) {S : Nat → Int32} {ν : jj_M} (b : Bool) (h : agC S ν) (hS : jS S) (en : S 139 = nI n) : ∃ m, (if b = true then (wof_drawWater 1 ν).bind fun q5 => wof_passDay N 1 q5 else wof_passDay N 1 ν) = some m ∧ agC (stS b n S) m ∧ frC ν m := by
  unfold stS
  by_cases q : b = true
  · rw [if_pos q, if_pos q]
    obtain ⟨m, m1, m2, m3⟩ := draw_c h
    have hS2 := drwS_S hS
    obtain ⟨m', k1, k2, k3⟩ := day_c hN hn m2 (by rw [drwS_o (by omega) (by omega)]; exact en) hS2.b8.1 hS2.b8.2
    exact ⟨m', by rw [m1, Option.bind_some]; exact k1, k2, m3.tr k3⟩
  · rw [if_neg q, if_neg q]
    exact day_c hN hn h en hS.b8.1 hS.b8.2
theorem days_c {N n c : Nat} (hN : 10 < N) (hn : n ≤ 6) (hc : c ≤ 60) (b : Bool) : ∀ (k i f : Nat) (S : Nat → Int32) (ν : jj_M), i + k = c → k < f → agC S ν → jS S → S 139 = nI n → (S 137).toInt + k ≤ 99999 → (S 138).toInt + k ≤ 9999 → ∃ m, wnf_passDays_L35 N (nI c) (if b = true then 1 else 0) f (nI i) ν = ((wof_deadBehind N 1 0 m).bind fun q2 => some (q2, m)) ∧ agC (itS b n k S) m ∧ frC ν m ∧ jS (itS b n k S) := by
  intro k
  induction k with
  | zero =>
    intro i f S ν hi hf h hS en h1 h2
    obtain ⟨f, rfl⟩ : ∃ m, f = m + 1 := ⟨f - 1, by omega⟩
    have e : i = c := by omega
    subst e
    exact ⟨ν, by rw [wnf_passDays_L35, if_pos (Int32.le_refl _)], h, frC.rf, hS⟩
  | succ k ih =>
    intro i f S ν hi hf h hS en h1 h2
    obtain ⟨f, rfl⟩ : ∃ m, f = m + 1 := ⟨f - 1, by omega⟩
    have cc : ¬ nI c ≤ nI i := by rw [nz_le (by omega) (by omega)]; omega
    obtain ⟨m, m1, m2, m3⟩ := step_c hN hn b h hS en
    obtain ⟨s1, s2, s3⟩ := stS_S (b := b) hS hn en (by omega) (by omega)
    have o1 : (1 : Int32).toInt = 1 := by decide
    have b7 := hS.1 137 (by omega)
    have b8 := hS.1 138 (by omega)
    rw [show bdh 137 = 99999 by decide] at b7
    rw [show bdh 138 = 9999 by decide] at b8
    obtain ⟨m', k1, k2, k3, k4⟩ := ih (i + 1) f (stS b n S) m (by omega) (by omega) m2 s1 (by rw [stS_o hn (by omega) (by omega) (by omega) (by omega)]; exact en) (by rw [s2, nz_addI (by omega) (by omega)]; omega) (by rw [s3, nz_addI (by omega) (by omega)]; omega)
    refine ⟨m', ?_, k2, m3.tr k3, k4⟩
    rw [wnf_passDays_L35, if_neg cc, ← k1, nz_s]
    cases b with
    | true =>
      rw [if_pos rfl] at m1
      rw [if_pos rfl, if_neg (by decide)]
      obtain ⟨y, y1, y2⟩ : ∃ y, wof_drawWater 1 ν = some y ∧ wof_passDay N 1 y = some m := by
        cases z : wof_drawWater 1 ν with
        | none => rw [z] at m1; cases m1
        | some y => rw [z] at m1; exact ⟨y, rfl, m1⟩
      rw [y1, Option.bind_some, y2, Option.bind_some]
    | false =>
      rw [if_neg (by decide)] at m1
      rw [if_pos (show (if false = true then (1 : Int32) else 0) = 0 from rfl), m1, Option.bind_some]
theorem days_m {N n c : Nat} (hN : 10 < N) (hn : n ≤ 6) (hc : c ≤ 60) : ∀ (k i f : Nat) (ν : jj_M), i + k = c → k < f → ν 61 139 = nI n → mdf_days_L20 N (nI c) f (nI i) ν = ((mdf_dead N (jj_uc ν 61 (itS false n k (ν 61)))).bind fun q2 => some (q2, jj_uc ν 61 (itS false n k (ν 61)))) := by
  intro k
  induction k with
  | zero =>
    intro i f ν hi hf en
    obtain ⟨f, rfl⟩ : ∃ m, f = m + 1 := ⟨f - 1, by omega⟩
    have e : i = c := by omega
    subst e
    rw [mdf_days_L20, if_pos (Int32.le_refl _), itS, juc_same]
  | succ k ih =>
    intro i f ν hi hf en
    obtain ⟨f, rfl⟩ : ∃ m, f = m + 1 := ⟨f - 1, by omega⟩
    have cc : ¬ nI c ≤ nI i := by rw [nz_le (by omega) (by omega)]; omega
    have e : stS false n (ν 61) = dayS n (ν 61) := rfl
    rw [mdf_days_L20, if_neg cc, day_m hN hn en, Option.bind_some, nz_s, ih (i + 1) f _ (by omega) (by omega) (by rw [juc_eq, dayS_o hn (by omega) (by omega) (by omega) (by omega)]; exact en), juc_eq, juc_uc, itS, e]
theorem loose_m {N n c : Nat} (hN : 10 < N) (hn : n ≤ 6) (hc : c ≤ 60) : ∀ (k i f : Nat) (ν : jj_M), i + k = c → k < f → ν 61 139 = nI n → mdf_loose_L20 N (nI c) f (nI i) ν = ((mdf_dead N (jj_uc ν 61 (itS true n k (ν 61)))).bind fun q2 => some (q2, jj_uc ν 61 (itS true n k (ν 61)))) := by
  intro k
  induction k with
  | zero =>
    intro i f ν hi hf en
    obtain ⟨f, rfl⟩ : ∃ m, f = m + 1 := ⟨f - 1, by omega⟩
    have e : i = c := by omega
    subst e
    rw [mdf_loose_L20, if_pos (Int32.le_refl _), itS, juc_same]
  | succ k ih =>
    intro i f ν hi hf en
    obtain ⟨f, rfl⟩ : ∃ m, f = m + 1 := ⟨f - 1, by omega⟩
    have cc : ¬ nI c ≤ nI i := by rw [nz_le (by omega) (by omega)]; omega
    have e : stS true n (ν 61) = dayS n (drwS (ν 61)) := rfl
    obtain ⟨w, v, hw, hv, _, r1, r2⟩ := draw_m (ν := ν)
    rw [mdf_loose_L20, if_neg cc, r1, show (0 : Int32) + nI w = nI w from Int32.zero_add _, if_pos (nz_in (by omega) (by omega)), nz_clamp (by omega), r2, Option.bind_some, day_m hN hn (by rw [juc_eq, drwS_o (by omega) (by omega)]; exact en), Option.bind_some, nz_s, juc_eq, juc_uc, ih (i + 1) f _ (by omega) (by omega) (by rw [juc_eq, dayS_o hn (by omega) (by omega) (by omega) (by omega), drwS_o (by omega) (by omega)]; exact en), juc_eq, juc_uc, itS, e]
/-! how many are dead behind d days -/
def cntD (S : Nat → Int32) (d : Nat) : Nat → Nat → Int32 → Int32
  | 0, _, s => s
  | k + 1, i, s => cntD S d k (i + 1) (if S (140 + 6 * i + 5) = 0 then (if d = 0 then s else if S (140 + 6 * i + 4) + nI d ≤ limv S i then s else s + 1) else s + 1)
theorem dead_c (N : Nat) {n d : Nat} (hn : n ≤ 6) (hd : d < 1000) {S : Nat → Int32} {ν : jj_M} (h : agC S ν) (en : S 139 = nI n) : ∀ (k i f : Nat) (s : Int32), i + k = n → k < f → wof_deadBehind_L4 N 1 (nI d) ν f s (nI i) = some (cntD S d k i s) := by
  intro k
  have e7 : ν 1 7 = nI n := (h.at (j := 139) (by omega)).trans en
  induction k with
  | zero =>
    intro i f s hi hf
    obtain ⟨f, rfl⟩ : ∃ m, f = m + 1 := ⟨f - 1, by omega⟩
    have e : i = n := by omega
    subst e
    rw [wof_deadBehind_L4, e7, if_pos (Int32.le_refl _)]
    rfl
  | succ k ih =>
    intro i f s hi hf
    obtain ⟨f, rfl⟩ : ∃ m, f = m + 1 := ⟨f - 1, by omega⟩
    have c : ¬ nI n ≤ nI i := by rw [nz_le (by omega) (by omega)]; omega
    have g : jj_i (nI i) 6 := nz_in (by omega) (by omega)
    have ki : (nI i).toNatClampNeg = i := nz_clamp (by omega)
    have d9 : 1 + 4 + 4 + i = 9 + i := by omega
    have a5 := h.per hn en (p := i) (j := 5) (by omega) (by omega)
    have a4 := h.per hn en (p := i) (j := 4) (by omega) (by omega)
    have lm := limit_c (μ := ν) (S := S) (p := i) (q := 9 + i) (h.per hn en (j := 0) (by omega) (by omega)) (h.per hn en (j := 1) (by omega) (by omega))
    rw [wof_deadBehind_L4, cntD]
    simp only [e7, c, eq_true g, ki, d9, a5, a4, lm, ↓reduceIte, nz_s]
    by_cases q : S (140 + 6 * i + 5) = 0
    · rw [if_pos q, if_pos q]
      by_cases z : d = 0
      · rw [if_pos (by rw [z]; decide), if_pos z]
        exact ih (i + 1) f s (by omega) (by omega)
      · rw [if_neg (by rw [show (0 : Int32) = nI 0 from rfl, nz_le (by omega) (by omega)]; omega), if_neg z]
        by_cases y : S (140 + 6 * i + 4) + nI d ≤ limv S i
        · rw [if_pos y, if_pos y]
          exact ih (i + 1) f s (by omega) (by omega)
        · rw [if_neg y, if_neg y]
          exact ih (i + 1) f (s + 1) (by omega) (by omega)
    · rw [if_neg q, if_neg q]
      exact ih (i + 1) f (s + 1) (by omega) (by omega)
theorem dead_m (N : Nat) {n : Nat} (hn : n ≤ 6) {ν : jj_M} (en : ν 61 139 = nI n) (hd : ∀ p, p < n → ν 61 (140 + 6 * p + 5) = 0 ∨ ν 61 (140 + 6 * p + 5) = 1) : ∀ (k i f : Nat) (s : Int32), i + k = n → k < f → mdf_dead_L4 N ν f s (nI i) = some (cntD (ν 61) 0 k i s) := by
  intro k
  induction k with
  | zero =>
    intro i f s hi hf
    obtain ⟨f, rfl⟩ : ∃ m, f = m + 1 := ⟨f - 1, by omega⟩
    have e : i = n := by omega
    subst e
    rw [mdf_dead_L4, en, if_pos (Int32.le_refl _)]
    rfl
  | succ k ih =>
    intro i f s hi hf
    obtain ⟨f, rfl⟩ : ∃ m, f = m + 1 := ⟨f - 1, by omega⟩
    have c : ¬ nI n ≤ nI i := by rw [nz_le (by omega) (by omega)]; omega
    have t5 : mdf_its (nI i) 5 ν = some (ν 61 (140 + 6 * i + 5)) := its_ok (p := i) (j := 5) (by omega) (by omega)
    rw [mdf_dead_L4, en, if_neg c, t5, Option.bind_some, cntD, nz_s, ih (i + 1) f _ (by omega) (by omega)]
    rcases hd i (by omega) with q | q
    · rw [q, if_pos rfl, if_pos rfl, Int32.add_zero]
    · rw [q, if_neg (by decide)]
theorem agC.uc {S : Nat → Int32} {ν : jj_M} {g : Nat → Int32} (h : agC S ν) : agC S (jj_uc ν 61 g) := by
  refine ⟨fun j hj => ?_, fun p hp => ?_⟩
  · have r := lc_r (w := 1) hj.1
    rw [juc_ne (by omega)]
    exact h.1 j hj
  · rw [juc_ne (by omega)]
    exact h.2 p hp
theorem itS_end {μ a : jj_M} {b : Bool} {n c : Nat} (h : jI μ) (hn : n ≤ 6) (hA : agC (itS b n c (μ 61)) a) (hf : frC μ a) (hS : jS (itS b n c (μ 61))) : jI (jj_uc a 61 (itS b n c (μ 61))) := by
  refine h.fin (by rw [juc_eq]; exact hS) (by rw [juc_eq]; exact hA.uc) (fun k h1 h2 => by rw [juc_ne h2]; exact hf k h1) (fun j hj => ?_)
  rw [juc_eq, itS_o hn (by omega) (by omega) (by omega) (by omega)]
theorem wrong_days {μ : jj_M} {x y : Int32} (hx : ¬ wnf_within x 1 y = 0) : mdf_wrongDays x y μ = if 9999 < μ 61 138 + x then -1000000003 else if μ 61 137 + x ≤ 99999 then 0 else -1000000003 := by
  unfold mdf_wrongDays
  rw [show mdf_in (Int32.toInt64 x) 1 (Int32.toInt64 y) = wnf_within x 1 y from nz_within x 1 y, if_neg hx]
theorem wrong_days0 {μ : jj_M} {x y : Int32} (hx : wnf_within x 1 y = 0) : mdf_wrongDays x y μ = -1000000001 := by
  unfold mdf_wrongDays
  rw [show mdf_in (Int32.toInt64 x) 1 (Int32.toInt64 y) = wnf_within x 1 y from nz_within x 1 y, if_pos hx]
/-- both kinds of days at once -/
theorem passDays_ok {μ : jj_M} (h : jI μ) (x1 : Int32) (b : Bool) {y : Nat} (hy : y ≤ 60) {F : jj_M → Option (Int32 × jj_M)} (hF : ∀ ν, F ν = if mdf_wrongDays x1 (nI y) ν = 0 then (if b = true then mdf_loose_L20 jz_N x1 jz_N 0 ν else mdf_days_L20 jz_N x1 jz_N 0 ν) else (mdf_errs (mdf_wrongDays x1 (nI y) ν) ν).bind fun q2 => some ((q2.1, q2.2))) : ∃ (r : Int32) (μ1 : jj_M) (μ2 : jj_M), wnf_passDays jz_N x1 (nI y) (if b = true then 1 else 0) μ = some (r, μ1) ∧ F μ1 = some (r, μ2) ∧ jI μ2 := by
  have big := jz_ge
  unfold wnf_passDays
  obtain ⟨n, hn, en, en1⟩ := h.n
  by_cases c1 : wnf_within x1 1 (nI y) = 0
  · obtain ⟨m1, m2, a, b', c⟩ := err1 h
    refine ⟨-1000000001, m1, m2, by simp only [c1, a, ↓reduceIte, Option.bind_some], ?_, c⟩
    rw [hF, wrong_days0 c1, if_neg (by decide), b']; rfl
  have hb := w_b c1
  rw [nz_toInt (by omega)] at hb
  have z1 : (1 : Int32).toInt = 1 := by decide
  obtain ⟨c, hc, rfl⟩ := nz_ofb (x := x1) (n := y + 1) (by omega) (by omega)
  rw [nz_toInt (by omega)] at hb
  have b7 := h.S.1 137 (by omega)
  have b8 := h.S.1 138 (by omega)
  rw [show bdh 137 = 99999 by decide] at b7
  rw [show bdh 138 = 9999 by decide] at b8
  obtain ⟨H, hH, eH⟩ := nz_ofb (x := μ 61 137) (n := 100000) (by omega) (by omega)
  obtain ⟨D, hD, eD⟩ := nz_ofb (x := μ 61 138) (n := 10000) (by omega) (by omega)
  have a9 : μ 1 9 = nI H := (h.ag (j := 137) (by omega)).trans eH
  have a10 : μ 1 10 = nI D := (h.ag (j := 138) (by omega)).trans eD
  by_cases q : D + c ≤ 9999 ∧ H + c ≤ 99999
  rotate_left
  · obtain ⟨m1, m2, a, b', cI⟩ := err3 h
    have e61 : m1 61 = μ 61 := err_61 (e := 3) (by omega) a 61 (by decide)
    have hd : wof_hasDays 1 (nI c) μ = 0 := by
      unfold wof_hasDays
      rw [a9, a10, nz_add, nz_add]
      by_cases q1 : 9999 < D + c
      · rw [if_pos (by rw [show (9999 : Int32) = nI 9999 from rfl, nz_lt (by omega) (by omega)]; exact q1)]
      · rw [if_neg (by rw [show (9999 : Int32) = nI 9999 from rfl, nz_lt (by omega) (by omega)]; exact q1), if_pos (by rw [show (99999 : Int32) = nI 99999 from rfl, nz_lt (by omega) (by omega)]; omega)]
    have wd : mdf_wrongDays (nI c) (nI y) m1 = -1000000003 := by
      rw [wrong_days c1, e61, eH, eD, nz_add, nz_add]
      by_cases q1 : 9999 < D + c
      · rw [if_pos (by rw [show (9999 : Int32) = nI 9999 from rfl, nz_lt (by omega) (by omega)]; exact q1)]
      · rw [if_neg (by rw [show (9999 : Int32) = nI 9999 from rfl, nz_lt (by omega) (by omega)]; exact q1), if_neg (by rw [show (99999 : Int32) = nI 99999 from rfl, nz_le (by omega) (by omega)]; omega)]
    refine ⟨-1000000003, m1, m2, by simp only [c1, hd, a, ↓reduceIte, Option.bind_some], ?_, cI⟩
    rw [hF, wd, if_neg (by decide), b']; rfl
  obtain ⟨q1, q2⟩ := q
  have hd : ¬ wof_hasDays 1 (nI c) μ = 0 := by
    unfold wof_hasDays
    rw [a9, a10, nz_add, nz_add, if_neg (by rw [show (9999 : Int32) = nI 9999 from rfl, nz_lt (by omega) (by omega)]; omega), if_neg (by rw [show (99999 : Int32) = nI 99999 from rfl, nz_lt (by omega) (by omega)]; omega)]
    decide
  obtain ⟨m, k1, k2, k3, k4⟩ := days_c (N := jz_N) (by omega) hn (c := c) (by omega) b c 0 jz_N (μ 61) μ (by omega) (by omega) h.agw h.S en (by rw [eH, nz_toInt (by omega)]; omega) (by rw [eD, nz_toInt (by omega)]; omega)
  have e61 : m 61 = μ 61 := k3 61 (by omega)
  have e139 : itS b n c (μ 61) 139 = nI n := by rw [itS_o hn (by omega) (by omega) (by omega) (by omega)]; exact en
  have dc := dead_c jz_N hn (d := 0) (by omega) k2 e139 n 0 jz_N 0 (by omega) (by omega)
  have dm' := dead_m jz_N hn (ν := jj_uc m 61 (itS b n c (μ 61))) (by rw [juc_eq]; exact e139) (fun p hp => by
    rw [juc_eq]
    exact (k4.2.2.2 p (by rw [e139, nz_toInt (by omega)]; omega)).dead) n 0 jz_N 0 (by omega) (by omega)
  rw [juc_eq] at dm'
  have wd : mdf_wrongDays (nI c) (nI y) m = 0 := by
    rw [wrong_days c1, e61, eH, eD, nz_add, nz_add, if_neg (by rw [show (9999 : Int32) = nI 9999 from rfl, nz_lt (by omega) (by omega)]; omega), if_pos (by rw [show (99999 : Int32) = nI 99999 from rfl, nz_le (by omega) (by omega)]; omega)]
  refine ⟨cntD (itS b n c (μ 61)) 0 n 0 0, m, jj_uc m 61 (itS b n c (μ 61)), ?_, ?_, itS_end h hn k2 k3 k4⟩
  · have k1' : wnf_passDays_L35 jz_N (nI c) (if b = true then 1 else 0) jz_N 0 μ = _ := k1
    rw [if_neg c1, if_neg hd, k1']
    have dc' : wof_deadBehind jz_N 1 0 m = some (cntD (itS b n c (μ 61)) 0 n 0 0) := by
      unfold wof_deadBehind
      exact dc
    rw [dc', Option.bind_some]
  · rw [hF, wd, if_pos rfl]
    have dm'' : mdf_dead jz_N (jj_uc m 61 (itS b n c (μ 61))) = some (cntD (itS b n c (μ 61)) 0 n 0 0) := by
      unfold mdf_dead
      exact dm'
    cases b with
    | true =>
      have lm := loose_m (N := jz_N) (by omega) hn (c := c) (by omega) c 0 jz_N m (by omega) (by omega) (by rw [e61]; exact en)
      rw [e61, dm'', Option.bind_some] at lm
      rw [if_pos rfl]
      exact lm
    | false =>
      have lm := days_m (N := jz_N) (by omega) hn (c := c) (by omega) c 0 jz_N m (by omega) (by omega) (by rw [e61]; exact en)
      rw [e61, dm'', Option.bind_some] at lm
      rw [if_neg (show ¬ false = true by decide)]
      exact lm
theorem st_days {μ : jj_M} (h : jI μ) (x1 : Int32) : ∃ (r : Int32) (μ1 : jj_M) (μ2 : jj_M), wnf_days jz_N x1 μ = some (r, μ1) ∧ mdf_days jz_N x1 μ1 = some (r, μ2) ∧ jI μ2 := by
  obtain ⟨r, m1, m2, a, b, c⟩ := passDays_ok h x1 false (y := 60) (by omega) (F := mdf_days jz_N x1) (fun ν => by unfold mdf_days; rw [if_neg (show ¬ false = true by decide), show (60 : Int32) = nI 60 from rfl])
  refine ⟨r, m1, m2, ?_, b, c⟩
  unfold wnf_days
  have a : wnf_passDays jz_N x1 60 0 μ = some (r, m1) := a
  rw [a]
  rfl
theorem st_loose {μ : jj_M} (h : jI μ) (x1 : Int32) : ∃ (r : Int32) (μ1 : jj_M) (μ2 : jj_M), wnf_loose jz_N x1 μ = some (r, μ1) ∧ mdf_loose jz_N x1 μ1 = some (r, μ2) ∧ jI μ2 := by
  obtain ⟨r, m1, m2, a, b, c⟩ := passDays_ok h x1 true (y := 40) (by omega) (F := mdf_loose jz_N x1) (fun ν => by unfold mdf_loose; rw [if_pos rfl, show (40 : Int32) = nI 40 from rfl])
  refine ⟨r, m1, m2, ?_, b, c⟩
  unfold wnf_loose
  have a : wnf_passDays jz_N x1 40 1 μ = some (r, m1) := a
  rw [a]
  rfl
