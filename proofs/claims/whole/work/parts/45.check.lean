/-! ===== check ===== -/
theorem dayP_at {S T : Nat → Int32} {p : Nat} (e : ∀ j, j < 6 → T (140 + 6 * p + j) = S (140 + 6 * p + j)) : ∀ j, j < 6 → dayP T p (140 + 6 * p + j) = dayP S p (140 + 6 * p + j) := by
  intro j hj
  have e0 := e 0 (by omega)
  rw [Nat.add_zero] at e0
  unfold dayP
  rw [e 4 (by omega), e 5 (by omega), limv_congr e0 (e 1 (by omega))]
  by_cases q : S (140 + 6 * p + 5) = 0
  · rw [if_pos q, if_pos q]
    by_cases j5 : j = 5
    · subst j5; rw [upd_s, upd_s]
    · rw [upd_n (i := 140 + 6 * p + j) (k := 140 + 6 * p + 5) (by omega), upd_n (i := 140 + 6 * p + j) (k := 140 + 6 * p + 5) (by omega)]
      by_cases j4 : j = 4
      · subst j4; rw [upd_s, upd_s]
      · rw [upd_n (by omega), upd_n (by omega)]; exact e j hj
  · rw [if_neg q, if_neg q]; exact e j hj
theorem dayPs_lo : ∀ (k i : Nat) (S : Nat → Int32) (p j : Nat), p < i → j < 6 → dayPs k i S (140 + 6 * p + j) = S (140 + 6 * p + j) := by
  intro k
  induction k with
  | zero => intro i S p j _ _; rfl
  | succ k ih =>
    intro i S p j hp hj
    rw [dayPs, ih _ _ _ _ (by omega) hj, dayP_o (by omega) (by omega)]
theorem dayPs_at : ∀ (k i : Nat) (S : Nat → Int32) (p j : Nat), i ≤ p → p < i + k → j < 6 → dayPs k i S (140 + 6 * p + j) = dayP S p (140 + 6 * p + j) := by
  intro k
  induction k with
  | zero => intro i S p j h1 h2 _; omega
  | succ k ih =>
    intro i S p j h1 h2 hj
    rw [dayPs]
    by_cases q : i = p
    · subst q
      exact dayPs_lo k (i + 1) _ i j (by omega) hj
    · rw [ih (i + 1) _ p j (by omega) (by omega) hj]
      exact dayP_at (fun b hb => dayP_o (by omega) (by omega)) j hj
theorem dayS_at {n p j : Nat} {S : Nat → Int32} (hp : p < n) (hj : j < 6) : dayS n S (140 + 6 * p + j) = dayP S p (140 + 6 * p + j) := by
  unfold dayS dayE
  rw [upd_n (by omega), upd_n (by omega), dayPs_at n 0 _ p j (by omega) (by omega) hj]
  exact dayP_at (fun b hb => dayWs_o 8 0 _ S (by omega) (by omega)) j hj
/-- a row, and the same some days behind -/
def dRel (S R : Nat → Int32) (n d : Nat) : Prop := ∀ p, p < n → R (140 + 6 * p) = S (140 + 6 * p) ∧ R (140 + 6 * p + 1) = S (140 + 6 * p + 1) ∧ ((S (140 + 6 * p + 5) = 1 ∧ R (140 + 6 * p + 5) = 1) ∨ (S (140 + 6 * p + 5) = 0 ∧ ∃ t l, t ≤ 36 ∧ l ≤ 36 ∧ S (140 + 6 * p + 4) = nI t ∧ limv S p = nI l ∧ ((d = 0 ∨ t + d ≤ l) → R (140 + 6 * p + 5) = 0 ∧ R (140 + 6 * p + 4) = nI (t + d)) ∧ (¬ (d = 0 ∨ t + d ≤ l) → R (140 + 6 * p + 5) = 1)))
theorem dRel.rf {S : Nat → Int32} {n : Nat} (h : ∀ p, p < n → jPer S p) : dRel S S n 0 := by
  intro p hp
  obtain ⟨l, l1, l2, el⟩ := limv_b (h p hp)
  obtain ⟨_, _, _, _, h5⟩ := h p hp
  refine ⟨rfl, rfl, ?_⟩
  rcases h5 with ⟨a, t, ht, et⟩ | ⟨a, _⟩
  · exact Or.inr ⟨a, t, l, ht, l2, et, el, fun _ => ⟨a, et⟩, fun q => absurd (Or.inl rfl) q⟩
  · exact Or.inl ⟨a, a⟩
theorem dRel.next {S R : Nat → Int32} {n d : Nat} (h : dRel S R n d) (hd : d < 1000) : dRel S (dayS n R) n (d + 1) := by
  intro p hp
  obtain ⟨h0, h1, h5⟩ := h p hp
  have a0 : dayS n R (140 + 6 * p) = R (140 + 6 * p) := by
    have := dayS_at (S := R) hp (j := 0) (by omega)
    rw [Nat.add_zero] at this
    rw [this, dayP_o (by omega) (by omega)]
  have a1 : dayS n R (140 + 6 * p + 1) = R (140 + 6 * p + 1) := by rw [dayS_at hp (by omega), dayP_o (by omega) (by omega)]
  refine ⟨a0.trans h0, a1.trans h1, ?_⟩
  rw [dayS_at hp (j := 5) (by omega), dayS_at hp (j := 4) (by omega)]
  have el : limv R p = limv S p := limv_congr h0 h1
  rcases h5 with ⟨a, b⟩ | ⟨a, t, l, ht, hl, et, ell, b, c⟩
  · left
    refine ⟨a, ?_⟩
    unfold dayP
    rw [if_neg (by rw [b]; decide)]
    exact b
  · right
    refine ⟨a, t, l, ht, hl, et, ell, ?_, ?_⟩
    · intro q
      have q' : t + (d + 1) ≤ l := q.elim (fun x => by omega) id
      obtain ⟨b1, b2⟩ := b (Or.inr (by omega))
      unfold dayP
      rw [if_pos b1, upd_s, upd_n (by omega), upd_s, b2, nz_s, el, ell, if_pos ((nz_le (by omega) (by omega)).mpr (by omega))]
      exact ⟨rfl, rfl⟩
    · intro q
      have q' : ¬ t + (d + 1) ≤ l := fun x => q (Or.inr x)
      by_cases z : d = 0 ∨ t + d ≤ l
      · obtain ⟨b1, b2⟩ := b z
        unfold dayP
        rw [if_pos b1, upd_s, b2, nz_s, el, ell, if_neg (fun x => q' (by have := (nz_le (a := t + d + 1) (b := l) (by omega) (by omega)).mp x; omega))]
      · have b1 := c z
        unfold dayP
        rw [if_neg (by rw [b1]; decide)]
        exact b1
theorem cnt_rel {S R : Nat → Int32} {n d : Nat} (hd : 0 < d) (hd2 : d < 1000) (h : dRel S R n d) : ∀ (k i : Nat) (s : Int32), i + k ≤ n → cntD S d k i s = cntD R 0 k i s := by
  intro k
  induction k with
  | zero => intro i s _; rfl
  | succ k ih =>
    intro i s hi
    obtain ⟨h0, h1, h5⟩ := h i (by omega)
    have d0 : ¬ d = 0 := by omega
    rw [cntD, cntD, ih _ _ (by omega)]
    congr 1
    rcases h5 with ⟨a, b⟩ | ⟨a, t, l, ht, hl, et, ell, b, c⟩
    · rw [if_neg (by rw [a]; decide), if_neg (by rw [b]; decide)]
    · rw [if_pos a, if_neg d0, et, ell, nz_add]
      by_cases z : t + d ≤ l
      · obtain ⟨b1, b2⟩ := b (Or.inr z)
        rw [if_pos ((nz_le (by omega) (by omega)).mpr z), if_pos b1, if_pos rfl]
      · have b1 := c (fun x => x.elim d0 z)
        rw [if_neg (fun x => z ((nz_le (by omega) (by omega)).mp x)), if_neg (by rw [b1]; decide)]
theorem dRel.flag {S R : Nat → Int32} {n d p : Nat} (h : dRel S R n d) (hp : p < n) : R (140 + 6 * p + 5) = 0 ∨ R (140 + 6 * p + 5) = 1 := by
  obtain ⟨_, _, h5⟩ := h p hp
  rcases h5 with ⟨a, b⟩ | ⟨a, t, l, ht, hl, et, ell, b, c⟩
  · exact Or.inr b
  · by_cases z : d = 0 ∨ t + d ≤ l
    · exact Or.inl (b z).1
    · exact Or.inr (c z)
theorem la_ok (N : Nat) : ∀ (k i f : Nat) (μ : jj_M), i + k = 176 → k < f → ∃ m, mdf_laysAside_L2 N f (nI i) μ = some m ∧ (∀ a, a ≠ 63 → m a = μ a) ∧ ∀ b, m 63 b = if i ≤ b ∧ b < 176 then μ 61 b else μ 63 b := by
  intro k
  induction k with
  | zero =>
    intro i f μ hi hf
    obtain ⟨f, rfl⟩ : ∃ m, f = m + 1 := ⟨f - 1, by omega⟩
    have e : i = 176 := by omega
    subst e
    exact ⟨μ, by rw [mdf_laysAside_L2, if_pos (by decide)], fun _ _ => rfl, fun b => by rw [if_neg (by omega)]⟩
  | succ k ih =>
    intro i f μ hi hf
    obtain ⟨f, rfl⟩ : ∃ m, f = m + 1 := ⟨f - 1, by omega⟩
    have c : ¬ (176 : Int32) ≤ nI i := by rw [show (176 : Int32) = nI 176 from rfl, nz_le (by omega) (by omega)]; omega
    have g : jj_i (nI i) 351 := nz_in (by omega) (by omega)
    have g2 : jj_i (nI i) 176 := nz_in (by omega) (by omega)
    have ki : (nI i).toNatClampNeg = i := nz_clamp (by omega)
    obtain ⟨m, m1, m2, m3⟩ := ih (i + 1) f (jj_u μ 63 i (μ 61 i)) (by omega) (by omega)
    refine ⟨m, ?_, fun a ha => by rw [m2 a ha, ju_ne ha], fun b => ?_⟩
    · rw [mdf_laysAside_L2, if_neg c]
      simp only [eq_true g, eq_true g2, ki, ↓reduceIte, nz_s]
      exact m1
    · rw [m3 b, ju_ne (by decide)]
      by_cases q : i + 1 ≤ b ∧ b < 176
      · rw [if_pos q, if_pos (by omega)]
      · rw [if_neg q]
        by_cases e : b = i
        · subst e; rw [ju_self, if_pos (by omega)]
        · rw [ju_other e, if_neg (by omega)]
theorem tb_ok (N : Nat) (x : Int32) : ∀ (k i f : Nat) (μ : jj_M), i + k = 176 → k < f → ∃ m, mdf_takesBack_L2 N x f (nI i) μ = some (x, m) ∧ (∀ a, a ≠ 61 → m a = μ a) ∧ ∀ b, m 61 b = if i ≤ b ∧ b < 176 then μ 63 b else μ 61 b := by
  intro k
  induction k with
  | zero =>
    intro i f μ hi hf
    obtain ⟨f, rfl⟩ : ∃ m, f = m + 1 := ⟨f - 1, by omega⟩
    have e : i = 176 := by omega
    subst e
    exact ⟨μ, by rw [mdf_takesBack_L2, if_pos (by decide)], fun _ _ => rfl, fun b => by rw [if_neg (by omega)]⟩
  | succ k ih =>
    intro i f μ hi hf
    obtain ⟨f, rfl⟩ : ∃ m, f = m + 1 := ⟨f - 1, by omega⟩
    have c : ¬ (176 : Int32) ≤ nI i := by rw [show (176 : Int32) = nI 176 from rfl, nz_le (by omega) (by omega)]; omega
    have g : jj_i (nI i) 351 := nz_in (by omega) (by omega)
    have g2 : jj_i (nI i) 176 := nz_in (by omega) (by omega)
    have ki : (nI i).toNatClampNeg = i := nz_clamp (by omega)
    obtain ⟨m, m1, m2, m3⟩ := ih (i + 1) f (jj_u μ 61 i (μ 63 i)) (by omega) (by omega)
    refine ⟨m, ?_, fun a ha => by rw [m2 a ha, ju_ne ha], fun b => ?_⟩
    · rw [mdf_takesBack_L2, if_neg c]
      simp only [eq_true g, eq_true g2, ki, ↓reduceIte, nz_s]
      exact m1
    · rw [m3 b, ju_ne (by decide)]
      by_cases q : i + 1 ≤ b ∧ b < 176
      · rw [if_pos q, if_pos (by omega)]
      · rw [if_neg q]
        by_cases e : b = i
        · subst e; rw [ju_self, if_pos (by omega)]
        · rw [ju_other e, if_neg (by omega)]
theorem back_ok {N : Nat} (hN : 200 < N) (x : Int32) (ν : jj_M) : ∃ m, mdf_takesBack N x (jj_u ν 61 178 0) = some (x, m) ∧ (∀ a, a ≠ 61 → m a = ν a) ∧ ∀ b, m 61 b = if b < 176 then ν 63 b else if b = 178 then 0 else ν 61 b := by
  obtain ⟨m, m1, m2, m3⟩ := tb_ok N x 176 0 N (jj_u ν 61 178 0) (by omega) (by omega)
  refine ⟨m, ?_, fun a ha => by rw [m2 a ha, ju_ne ha], fun b => ?_⟩
  · unfold mdf_takesBack
    exact m1
  · rw [m3 b, ju_ne (by decide)]
    by_cases q : b < 176
    · rw [if_pos (by omega), if_pos q]
    · rw [if_neg (by omega), if_neg q]
      by_cases e : b = 178
      · subst e; rw [ju_self, if_pos rfl]
      · rw [ju_other e, if_neg e]
theorem chk_ok {N : Nat} (hN : 200 < N) {μ : jj_M} (h : jI μ) {n c : Nat} (hn : n ≤ 6) (en : μ 61 139 = nI n) (hc : c ≤ 20) (ec : μ 1 12 = nI c) : ∀ (k i f g : Nat) (ν : jj_M), i + k = c → k + 1 < f → k + 1 < g → dRel (μ 61) (ν 61) n i → (∀ b, 176 ≤ b → ν 61 b = μ 61 b) → ν 61 139 = nI n → ∃ r m, wnf_check_L4 N μ f 0 (nI i) = some (r, jj_u μ 1 12 0) ∧ mdf_check_L17 N (nI c) g 0 (nI i) ν = some (r, m) ∧ (∀ a, a ≠ 61 → m a = ν a) ∧ ∀ b, m 61 b = if b < 176 then ν 63 b else if b = 178 then 0 else μ 61 b := by
  intro k
  induction k with
  | zero =>
    intro i f g ν hi hf hg hR hb eν
    obtain ⟨f, rfl⟩ : ∃ m, f = m + 1 := ⟨f - 1, by omega⟩
    obtain ⟨g, rfl⟩ : ∃ m, g = m + 1 := ⟨g - 1, by omega⟩
    have e : i = c := by omega
    subst e
    obtain ⟨m, m1, m2, m3⟩ := back_ok hN 0 ν
    refine ⟨0, m, by rw [wnf_check_L4, ec, if_pos (Int32.le_refl _)], by rw [mdf_check_L17, if_pos (Int32.le_refl _), m1, Option.bind_some], m2, fun b => ?_⟩
    rw [m3 b]
    by_cases q : b < 176
    · rw [if_pos q, if_pos q]
    · rw [if_neg q, if_neg q, hb b (by omega)]
  | succ k ih =>
    intro i f g ν hi hf hg hR hb eν
    obtain ⟨f, rfl⟩ : ∃ m, f = m + 1 := ⟨f - 1, by omega⟩
    obtain ⟨g, rfl⟩ : ∃ m, g = m + 1 := ⟨g - 1, by omega⟩
    have cc : ¬ nI c ≤ nI i := by rw [nz_le (by omega) (by omega)]; omega
    have g20 : jj_i (nI i) 20 := nz_in (by omega) (by omega)
    have ki : (nI i).toNatClampNeg = i := nz_clamp (by omega)
    have hR2 := hR.next (by omega)
    have i331 : (331 : Int32) + nI i = nI (331 + i) := by rw [show (331 : Int32) = nI 331 from rfl, nz_add]
    have g331 : jj_i (nI (331 + i)) 351 := nz_in (by omega) (by omega)
    have k331 : (nI (331 + i)).toNatClampNeg = 331 + i := nz_clamp (by omega)
    have dc : wof_deadBehind N 1 (nI (i + 1)) μ = some (cntD (μ 61) (i + 1) n 0 0) := by
      unfold wof_deadBehind
      exact dead_c N hn (by omega) h.agw en n 0 N 0 (by omega) (by omega)
    have e139 : dayS n (ν 61) 139 = nI n := by rw [dayS_o hn (by omega) (by omega) (by omega) (by omega)]; exact eν
    have dm' : mdf_dead N (jj_uc ν 61 (dayS n (ν 61))) = some (cntD (μ 61) (i + 1) n 0 0) := by
      unfold mdf_dead
      have q := dead_m N hn (ν := jj_uc ν 61 (dayS n (ν 61))) (by rw [juc_eq]; exact e139) (fun p hp => by rw [juc_eq]; exact hR2.flag hp) n 0 N 0 (by omega) (by omega)
      rw [juc_eq] at q
      rw [cnt_rel (by omega) (by omega) hR2 n 0 0 (by omega)]
      exact q
    have a8 : μ 8 i = μ 61 (331 + i) := by
      have := h.w.2.1 (331 + i) ⟨by unfold dm; omega, fun a b => by omega⟩
      have l1 : lc 1 (331 + i) = 8 := by
        unfold lc
        rw [if_neg (by omega), if_neg (by omega), if_neg (by omega), if_neg (by omega), if_neg (by omega), if_neg (by omega), if_neg (by omega)]
      have l2 : li (331 + i) = i := by
        unfold li
        rw [if_neg (by omega), if_neg (by omega), if_neg (by omega), if_neg (by omega), if_neg (by omega), if_neg (by omega), if_neg (by omega), if_neg (by omega), if_neg (by omega), if_neg (by omega), if_neg (by omega), if_neg (by omega)]
        omega
      rwa [l1, l2] at this
    have b331 : dayS n (ν 61) (331 + i) = μ 61 (331 + i) := by rw [dayS_o hn (by omega) (by omega) (by omega) (by omega)]; exact hb _ (by omega)
    have M2 : mdf_check_L17 N (nI c) (g + 1) 0 (nI i) ν = if cntD (μ 61) (i + 1) n 0 0 = μ 61 (331 + i) then mdf_check_L17 N (nI c) g 0 (nI (i + 1)) (jj_uc ν 61 (dayS n (ν 61))) else mdf_check_L17 N (nI c) g (1 + nI i) (nI (i + 1)) (jj_uc ν 61 (dayS n (ν 61))) := by
      rw [mdf_check_L17, if_neg cc, if_pos rfl, day_m (by omega) hn eν, Option.bind_some, dm', Option.bind_some]
      simp only [i331, eq_true g331, k331, juc_eq, b331, ↓reduceIte, nz_s]
    have C2 : wnf_check_L4 N μ (f + 1) 0 (nI i) = if μ 61 (331 + i) = cntD (μ 61) (i + 1) n 0 0 then wnf_check_L4 N μ f 0 (nI (i + 1)) else wnf_check_L4 N μ f (1 + nI i) (nI (i + 1)) := by
      rw [wnf_check_L4, ec, if_neg cc, if_pos rfl]
      simp only [eq_true g20, ki, nz_s, dc, a8, ↓reduceIte, Option.bind_some]
    rw [M2, C2]
    by_cases z : cntD (μ 61) (i + 1) n 0 0 = μ 61 (331 + i)
    · rw [if_pos z, if_pos z.symm]
      obtain ⟨r, m, r1, r2, r3, r4⟩ := ih (i + 1) f g (jj_uc ν 61 (dayS n (ν 61))) (by omega) (by omega) (by omega) (by rw [juc_eq]; exact hR2) (fun b hb' => by rw [juc_eq, dayS_o hn (by omega) (by omega) (by omega) (by omega)]; exact hb b hb') (by rw [juc_eq]; exact e139)
      refine ⟨r, m, r1, r2, fun a ha => by rw [r3 a ha, juc_ne ha], fun b => ?_⟩
      rw [r4 b, juc_ne (by decide)]
    · rw [if_neg z, if_neg (fun e => z e.symm)]
      obtain ⟨f, rfl⟩ : ∃ m, f = m + 1 := ⟨f - 1, by omega⟩
      obtain ⟨g, rfl⟩ : ∃ m, g = m + 1 := ⟨g - 1, by omega⟩
      have x : (1 : Int32) + nI i = nI (1 + i) := by rw [show (1 : Int32) = nI 1 from rfl, nz_add]
      have x0 : ¬ nI (1 + i) = 0 := nI_ne (b := 0) (by omega) (by omega) (by omega)
      obtain ⟨m, m1, m2, m3⟩ := back_ok hN (nI (1 + i)) (jj_uc ν 61 (dayS n (ν 61)))
      refine ⟨nI (1 + i), m, ?_, ?_, fun a ha => by rw [m2 a ha, juc_ne ha], fun b => ?_⟩
      · rw [x, wnf_check_L4, ec]
        by_cases y : nI c ≤ nI (i + 1)
        · rw [if_pos y]
        · rw [if_neg y, if_neg x0]
      · rw [x, mdf_check_L17, m1]
        by_cases y : nI c ≤ nI (i + 1)
        · rw [if_pos y, Option.bind_some]
        · rw [if_neg y, if_neg x0, Option.bind_some]
      · rw [m3 b, juc_ne (by decide), juc_eq]
        by_cases q : b < 176
        · rw [if_pos q, if_pos q]
        · rw [if_neg q, if_neg q, dayS_o hn (by omega) (by omega) (by omega) (by omega), hb b (by omega)]
theorem st_check {μ : jj_M} (h : jI μ) : ∃ (r : Int32) (μ1 : jj_M) (μ2 : jj_M), wnf_check jz_N μ = some (r, μ1) ∧ mdf_check jz_N μ1 = some (r, μ2) ∧ jI μ2 := by
  have big := jz_ge
  obtain ⟨n, hn, en, en1⟩ := h.n
  have bw := h.S.1 178 (by omega)
  rw [show bdh 178 = 20 by decide] at bw
  obtain ⟨c, hc, ec⟩ := nz_ofb (x := μ 61 178) (n := 21) (by omega) (by omega)
  have ec1 : μ 1 12 = nI c := (h.ag (j := 178) (by omega)).trans ec
  obtain ⟨A, A1, A2, A3⟩ := la_ok jz_N 176 0 jz_N (jj_u μ 1 12 0) (by omega) (by omega)
  have A61 : A 61 = μ 61 := by rw [A2 61 (by decide), ju_ne (by decide)]
  obtain ⟨r, m, r1, r2, r3, r4⟩ := chk_ok (N := jz_N) (by omega) h hn en (c := c) (by omega) ec1 c 0 jz_N jz_N A (by omega) (by omega) (by omega) (by rw [A61]; exact dRel.rf (fun p hp => h.per hn en hp)) (fun b _ => by rw [A61]) (by rw [A61]; exact en)
  have hw := h.wr (j := 178) (v := 0) (by unfold dm; omega) (by omega) (h.S.up (by omega) (fun _ => by decide))
  have hw : jI (jj_u (jj_u μ 1 12 0) 61 178 0) := hw
  refine ⟨r, jj_u μ 1 12 0, m, ?_, ?_, ?_⟩
  · unfold wnf_check
    exact r1
  · unfold mdf_check mdf_laysAside
    have A1 : mdf_laysAside_L2 jz_N jz_N 0 (jj_u μ 1 12 0) = some A := A1
    rw [A1, Option.bind_some, A61, ec]
    exact r2
  · refine jTh.I ⟨fun k h1 h2 => ?_, fun j _ => by rw [r3 60 (by decide), A2 60 (by decide), ju_ne (show (60 : Nat) ≠ 61 by decide)]⟩ hw
    by_cases e : k = 61
    · subst e
      funext b
      rw [r4 b, ju_rowS, ju_ne (show (61 : Nat) ≠ 1 by decide)]
      by_cases q : b < 176
      · rw [if_pos q, upd_n (by omega), A3 b, if_pos (by omega), ju_ne (by decide)]
      · rw [if_neg q]
        by_cases e : b = 178
        · subst e; rw [if_pos rfl, upd_s]
        · rw [if_neg e, upd_n e]
    · rw [r3 k e, A2 k (by intro x; subst x; exact h1 (by unfold jFree; omega)), ju_ne e]
