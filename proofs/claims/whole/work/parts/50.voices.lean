/-! ===== voices ===== -/
def ntC (x : Int32) (μ : jj_M) : jj_M := if 40 ≤ μ 48 1 then μ else jj_u (jj_u μ 49 (μ 48 1).toNatClampNeg x) 48 1 (μ 48 1 + 1)
def ntsC (l : List Int32) (μ : jj_M) : jj_M := l.foldl (fun μ x => ntC x μ) μ
def ntM (x : Int32) (μ : jj_M) : jj_M := if 40 ≤ μ 60 17 then μ else jj_u (jj_u μ 67 (μ 60 17).toNatClampNeg x) 60 17 (μ 60 17 + 1)
def ntsM (l : List Int32) (μ : jj_M) : jj_M := l.foldl (fun μ x => ntM x μ) μ
def vS (n m : Int32) (K : Nat) (μ : jj_M) : Prop := μ 48 2 = n ∧ μ 48 3 = m ∧ μ 48 4 = nI K ∧ ∃ c, c ≤ 40 ∧ μ 48 1 = nI c
def vM (n m : Int32) (K : Nat) (μ : jj_M) : Prop := μ 60 19 = n ∧ μ 60 20 = m ∧ μ 60 18 = nI K ∧ ∃ c, c ≤ 40 ∧ μ 60 17 = nI c
theorem vS.nt {n m : Int32} {K : Nat} {μ : jj_M} (h : vS n m K μ) (x : Int32) : vof_note x μ = some (ntC x μ) ∧ vS n m K (ntC x μ) := by
  obtain ⟨h2, h3, h4, c, hc, h1⟩ := h
  unfold vof_note ntC
  by_cases q : c = 40
  · have y : (40 : Int32) ≤ μ 48 1 := by rw [h1, q]; decide
    rw [if_pos y, if_pos y]
    exact ⟨rfl, h2, h3, h4, c, hc, h1⟩
  · have y : ¬ (40 : Int32) ≤ μ 48 1 := by rw [h1, show (40 : Int32) = nI 40 from rfl, nz_le (by omega) (by omega)]; omega
    have g : jj_i (μ 48 1) 40 := by rw [h1]; exact nz_in (by omega) (by omega)
    rw [if_neg y, if_neg y, if_pos g, Option.bind_some, ju_ne (show (48 : Nat) ≠ 49 by decide)]
    refine ⟨rfl, ?_, ?_, ?_, c + 1, by omega, ?_⟩
    · rw [ju_other (by decide), ju_ne (by decide)]; exact h2
    · rw [ju_other (by decide), ju_ne (by decide)]; exact h3
    · rw [ju_other (by decide), ju_ne (by decide)]; exact h4
    · rw [ju_self, h1, nz_s]
theorem vM.nt {n m : Int32} {K : Nat} {μ : jj_M} (h : vM n m K μ) (x : Int32) : mdf_ran x μ = some (ntM x μ) ∧ vM n m K (ntM x μ) := by
  obtain ⟨h2, h3, h4, c, hc, h1⟩ := h
  unfold mdf_ran ntM
  by_cases q : c = 40
  · have y : (40 : Int32) ≤ μ 60 17 := by rw [h1, q]; decide
    rw [if_pos y, if_pos y]
    exact ⟨rfl, h2, h3, h4, c, hc, h1⟩
  · have y : ¬ (40 : Int32) ≤ μ 60 17 := by rw [h1, show (40 : Int32) = nI 40 from rfl, nz_le (by omega) (by omega)]; omega
    have g : jj_i (μ 60 17) 40 := by rw [h1]; exact nz_in (by omega) (by omega)
    rw [if_neg y, if_neg y, if_pos g, Option.bind_some, ju_ne (show (60 : Nat) ≠ 67 by decide)]
    refine ⟨rfl, ?_, ?_, ?_, c + 1, by omega, ?_⟩
    · rw [ju_other (by decide), ju_ne (by decide)]; exact h2
    · rw [ju_other (by decide), ju_ne (by decide)]; exact h3
    · rw [ju_other (by decide), ju_ne (by decide)]; exact h4
    · rw [ju_self, h1, nz_s]
theorem vS.nts {n m : Int32} {K : Nat} : ∀ (l : List Int32) (μ : jj_M), vS n m K μ → vS n m K (ntsC l μ) := by
  intro l
  induction l with
  | nil => intro μ h; exact h
  | cons x l ih => intro μ h; exact ih _ (h.nt x).2
theorem vM.nts {n m : Int32} {K : Nat} : ∀ (l : List Int32) (μ : jj_M), vM n m K μ → vM n m K (ntsM l μ) := by
  intro l
  induction l with
  | nil => intro μ h; exact h
  | cons x l ih => intro μ h; exact ih _ (h.nt x).2
theorem ntsC_app (l1 l2 : List Int32) (μ : jj_M) : ntsC (l1 ++ l2) μ = ntsC l2 (ntsC l1 μ) := List.foldl_append ..
theorem ntsM_app (l1 l2 : List Int32) (μ : jj_M) : ntsM (l1 ++ l2) μ = ntsM l2 (ntsM l1 μ) := List.foldl_append ..
theorem ntsC_cons (x : Int32) (l : List Int32) (μ : jj_M) : ntsC (x :: l) μ = ntsC l (ntC x μ) := rfl
theorem ntsM_cons (x : Int32) (l : List Int32) (μ : jj_M) : ntsM (x :: l) μ = ntsM l (ntM x μ) := rfl
/-! who says what, as mathematics -/
def pD (n : Int32) (k : Nat) (x : Int32) : Int32 × List Int32 := if k = 1 ∨ k = 4 then ((x + n) * 3, [20, 10]) else (x + n, [10])
def pO (n m : Int32) (k : Nat) (x : Int32) : Int32 × List Int32 := if k = 6 then ((-(x - m)) ^^^ n, [70, 40, 12]) else if k = 3 then (-(x - m), [40, 12]) else (x - m, [12])
def pC0 (n : Int32) (K : Nat) (x : Int32) : Int32 × List Int32 := ((pD n K x).1 * 2, 11 :: (pD n K x).2)
def pC2 (n m : Int32) (K : Nat) (x : Int32) : Int32 × List Int32 := ((pC0 n K x).1 - (pO n m K 1).1, 30 :: ((pC0 n K x).2 ++ (pO n m K 1).2))
def pC (n m : Int32) (K k : Nat) (x : Int32) : Int32 × List Int32 := if k = 5 then ((pC2 n m K (x + 1)).1, 60 :: (pC2 n m K (x + 1)).2) else if k = 2 then pC2 n m K x else pC0 n K x
def pT0 (n m : Int32) (K : Nat) (x : Int32) : Int32 × List Int32 := ((pC n m K K x).1 ^^^ (pO n m K x).1, 13 :: ((pC n m K K x).2 ++ (pO n m K x).2))
def pT (n m : Int32) (K : Nat) (x : Int32) : Int32 × List Int32 := if K = 4 then ((pT0 n m K x).1 - (pD n K 2).1, 50 :: ((pT0 n m K x).2 ++ (pD n K 2).2)) else if K = 6 then ((pC n m K K x).1 - (pT0 n m K x).1, 71 :: ((pC n m K K x).2 ++ (pT0 n m K x).2)) else pT0 n m K x
/-! the reference's side -/
theorem m_10 {n m : Int32} {K : Nat} {μ : jj_M} (h : vM n m K μ) (x : Int32) : mdf_plainReads x μ = some (x + n, ntsM [10] μ) := by
  unfold mdf_plainReads
  rw [(h.nt 10).1, Option.bind_some, (h.nt 10).2.1]
  rfl
theorem m_D {n m : Int32} {K : Nat} (hK : K < 7) {μ : jj_M} (h : vM n m K μ) (x : Int32) : mdf_readsBy x μ = some ((pD n K x).1, ntsM (pD n K x).2 μ) := by
  have u : ∀ K, K < 7 → (mdf_isUnder (nI K) 1 = 0 ↔ ¬ (K = 1 ∨ K = 4)) := by decide +kernel
  unfold mdf_readsBy pD
  rw [h.2.2.1]
  by_cases q : K = 1 ∨ K = 4
  · rw [if_pos q, if_neg (fun e => (u K hK).mp e q), (h.nt 20).1, Option.bind_some, m_10 (h.nt 20).2, Option.bind_some]
    rfl
  · rw [if_neg q, if_pos ((u K hK).mpr q), m_10 h, Option.bind_some]
theorem m_12 {n m : Int32} {K : Nat} {μ : jj_M} (h : vM n m K μ) (x : Int32) : mdf_plainTakes x μ = some (x - m, ntsM [12] μ) := by
  unfold mdf_plainTakes
  rw [(h.nt 12).1, Option.bind_some, (h.nt 12).2.2.1]
  rfl
theorem m_40 {n m : Int32} {K : Nat} {μ : jj_M} (h : vM n m K μ) (x : Int32) : mdf_lawTakes x μ = some (-(x - m), ntsM [40, 12] μ) := by
  unfold mdf_lawTakes
  rw [(h.nt 40).1, Option.bind_some, m_12 (h.nt 40).2, Option.bind_some]
  rfl
theorem nI_lit {K j : Nat} (hK : K < 7) (hj : j < 7) : nI K = nI j ↔ K = j := ⟨fun e => nz_inj (by omega) (by omega) e, fun e => by rw [e]⟩
theorem m_O {n m : Int32} {K : Nat} (hK : K < 7) {μ : jj_M} (h : vM n m K μ) (x : Int32) : mdf_takesBy x μ = some ((pO n m K x).1, ntsM (pO n m K x).2 μ) := by
  unfold mdf_takesBy pO
  rw [h.2.2.1]
  by_cases q : K = 6
  · have e := m_40 (h.nt 70).2 x
    rw [if_pos q, if_pos (show nI K = 6 by rw [q]; rfl), (h.nt 70).1, Option.bind_some, e, Option.bind_some]
    simp only []
    rw [((h.nt 70).2.nts [40, 12]).1]
    rfl
  rw [if_neg q, if_neg (show ¬ nI K = 6 from fun e => q ((nI_lit (j := 6) hK (by omega)).mp e))]
  by_cases q : K = 3
  · rw [if_pos q, if_pos (show nI K = 3 by rw [q]; rfl), m_40 h, Option.bind_some]
  · rw [if_neg q, if_neg (show ¬ nI K = 3 from fun e => q ((nI_lit (j := 3) hK (by omega)).mp e)), m_12 h, Option.bind_some]
theorem m_C0 {n m : Int32} {K : Nat} (hK : K < 7) {μ : jj_M} (h : vM n m K μ) (x : Int32) : mdf_plainGives x μ = some ((pC0 n K x).1, ntsM (pC0 n K x).2 μ) := by
  unfold mdf_plainGives
  rw [(h.nt 11).1, Option.bind_some, m_D hK (h.nt 11).2, Option.bind_some]
  rfl
theorem m_C2 {n m : Int32} {K : Nat} (hK : K < 7) {μ : jj_M} (h : vM n m K μ) (x : Int32) : mdf_poemGives x μ = some ((pC2 n m K x).1, ntsM (pC2 n m K x).2 μ) := by
  unfold mdf_poemGives
  rw [(h.nt 30).1, Option.bind_some, m_C0 hK (h.nt 30).2, Option.bind_some]
  simp only []
  rw [m_O hK ((h.nt 30).2.nts _), Option.bind_some, ← ntsM_app]
  rfl
theorem m_C {n m : Int32} {K : Nat} (hK : K < 7) {μ : jj_M} (h : vM n m K μ) (x : Int32) : mdf_givesBy x μ = some ((pC n m K K x).1, ntsM (pC n m K K x).2 μ) := by
  unfold mdf_givesBy pC
  rw [h.2.2.1]
  by_cases q : K = 5
  · rw [if_pos q, if_pos (show nI K = 5 by rw [q]; rfl), (h.nt 60).1, Option.bind_some, m_C2 hK (h.nt 60).2, Option.bind_some]
    rfl
  rw [if_neg q, if_neg (show ¬ nI K = 5 from fun e => q ((nI_lit (j := 5) hK (by omega)).mp e))]
  by_cases q : K = 2
  · rw [if_pos q, if_pos (show nI K = 2 by rw [q]; rfl), m_C2 hK h, Option.bind_some]
  · rw [if_neg q, if_neg (show ¬ nI K = 2 from fun e => q ((nI_lit (j := 2) hK (by omega)).mp e)), m_C0 hK h, Option.bind_some]
theorem m_T0 {n m : Int32} {K : Nat} (hK : K < 7) {μ : jj_M} (h : vM n m K μ) (x : Int32) : mdf_plainTells x μ = some ((pT0 n m K x).1, ntsM (pT0 n m K x).2 μ) := by
  unfold mdf_plainTells
  rw [(h.nt 13).1, Option.bind_some, m_C hK (h.nt 13).2, Option.bind_some]
  simp only []
  rw [m_O hK ((h.nt 13).2.nts _), Option.bind_some, ← ntsM_app]
  rfl
theorem m_T {n m : Int32} {K : Nat} (hK : K < 7) {μ : jj_M} (h : vM n m K μ) (x : Int32) : mdf_tellsBy x μ = some ((pT n m K x).1, ntsM (pT n m K x).2 μ) := by
  unfold mdf_tellsBy pT
  rw [h.2.2.1]
  by_cases q : K = 4
  · rw [if_pos q, if_pos (show nI K = 4 by rw [q]; rfl), (h.nt 50).1, Option.bind_some, m_T0 hK (h.nt 50).2, Option.bind_some]
    simp only []
    rw [m_D hK ((h.nt 50).2.nts _), Option.bind_some, ← ntsM_app]
    rfl
  rw [if_neg q, if_neg (show ¬ nI K = 4 from fun e => q ((nI_lit (j := 4) hK (by omega)).mp e))]
  by_cases q : K = 6
  · rw [if_pos q, if_pos (show nI K = 6 by rw [q]; rfl), (h.nt 71).1, Option.bind_some, m_C hK (h.nt 71).2, Option.bind_some]
    simp only []
    rw [m_T0 hK ((h.nt 71).2.nts _), Option.bind_some, ← ntsM_app]
    rfl
  · rw [if_neg q, if_neg (show ¬ nI K = 6 from fun e => q ((nI_lit (j := 6) hK (by omega)).mp e)), m_T0 hK h, Option.bind_some]
/-! the class's side -/
theorem vstep_no {N : Nat} {frun : Int32 → Int32 → Int32 → Int32 → jj_M → Option (Int32 × jj_M)} {x3 x4 : Int32} {μ : jj_M} {k act i f : Nat} (hk : k < 7) (ha : act < 4) (hi : i < 7) (hb : jj_BO (4 * k + act) = 0) : vof_say_L6 N frun (nI act) x3 x4 μ (f + 1) (nI k) (nI i) = vof_say_L6 N frun (nI act) x3 x4 μ f (jj_KA k) (nI (i + 1)) := by
  have e : nI k * 4 + nI act = nI (4 * k + act) := by rw [show (4 : Int32) = nI 4 from rfl, nz_mul, nz_add, Nat.mul_comm]
  have w : ¬ wnf_within (nI k) 0 6 = 0 := by
    rw [nz_w0, nz_toInt (by omega), show (0 : Int32).toInt = 0 by decide, show (6 : Int32).toInt = 6 by decide]
    omega
  have g1 : jj_i (nI (4 * k + act)) 28 := nz_in (by omega) (by omega)
  have k1 : (nI (4 * k + act)).toNatClampNeg = 4 * k + act := nz_clamp (by omega)
  have g2 : jj_i (nI k) 7 := nz_in (by omega) (by omega)
  have k2 : (nI k).toNatClampNeg = k := nz_clamp (by omega)
  have c : ¬ (7 : Int32) ≤ nI i := by rw [show (7 : Int32) = nI 7 from rfl, nz_le (by omega) (by omega)]; omega
  rw [vof_say_L6]
  simp only [c, w, e, eq_true g1, k1, hb, eq_true g2, k2, nz_s, ↓reduceIte]
theorem vstep_yes {N : Nat} {frun : Int32 → Int32 → Int32 → Int32 → jj_M → Option (Int32 × jj_M)} {x3 : Int32} {μ : jj_M} {k act i f d : Nat} (hk : k < 7) (ha : act < 4) (hi : i < 7) (hd : d < 30) (hb : ¬ jj_BO (4 * k + act) = 0) : vof_say_L6 N frun (nI act) x3 (nI d) μ (f + 1) (nI k) (nI i) = frun (jj_BO (4 * k + act)) (jj_KA k) x3 (nI (d + 1)) μ := by
  have e : nI k * 4 + nI act = nI (4 * k + act) := by rw [show (4 : Int32) = nI 4 from rfl, nz_mul, nz_add, Nat.mul_comm]
  have w : ¬ wnf_within (nI k) 0 6 = 0 := by
    rw [nz_w0, nz_toInt (by omega), show (0 : Int32).toInt = 0 by decide, show (6 : Int32).toInt = 6 by decide]
    omega
  have g1 : jj_i (nI (4 * k + act)) 28 := nz_in (by omega) (by omega)
  have k1 : (nI (4 * k + act)).toNatClampNeg = 4 * k + act := nz_clamp (by omega)
  have g2 : jj_i (nI k) 7 := nz_in (by omega) (by omega)
  have k2 : (nI k).toNatClampNeg = k := nz_clamp (by omega)
  have c : ¬ (7 : Int32) ≤ nI i := by rw [show (7 : Int32) = nI 7 from rfl, nz_le (by omega) (by omega)]; omega
  have c30 : ¬ (30 : Int32) ≤ nI d := by rw [show (30 : Int32) = nI 30 from rfl, nz_le (by omega) (by omega)]; omega
  rw [vof_say_L6]
  simp only [c, w, e, eq_true g1, k1, hb, eq_true g2, k2, c30, nz_s, ↓reduceIte]
  cases frun (jj_BO (4 * k + act)) (jj_KA k) x3 (nI (d + 1)) μ <;> rfl
def vka (k : Nat) : Nat := ([0, 0, 0, 0, 1, 2, 3] : List Nat).getD k 0
def vb (k act : Nat) : Int32 := ([10, 11, 12, 13, 20, 11, 12, 13, 10, 30, 12, 13, 10, 11, 40, 13, 20, 11, 12, 50, 10, 60, 12, 13, 10, 11, 70, 71] : List Int32).getD (4 * k + act) 0
def vab (k act : Nat) : Int32 := ([-1, -1, -1, -1, 0, -1, -1, -1, -1, 0, -1, -1, -1, -1, 0, -1, 0, -1, -1, 1, -1, 2, -1, -1, -1, -1, 3, 3] : List Int32).getD (4 * k + act) 0
theorem say_run {N : Nat} (hN : 5 < N) {frun : Int32 → Int32 → Int32 → Int32 → jj_M → Option (Int32 × jj_M)} {x3 : Int32} {μ : jj_M} {k act d : Nat} (hk : k < 7) (ha : act < 4) (hd : d < 30) : vof_say N frun (nI k) (nI act) x3 (nI d) μ = frun (vb k act) (vab k act) x3 (nI (d + 1)) μ := by
  unfold vof_say
  obtain ⟨f, eN⟩ : ∃ f, N = f + 4 := ⟨N - 4, by omega⟩
  generalize N = M at *
  subst eN
  have key : ∀ M : Nat, vof_say_L6 M frun (nI act) x3 (nI d) μ (f + 4) (nI k) (nI 0) = frun (vb k act) (vab k act) x3 (nI (d + 1)) μ := by
    intro M
    by_cases b0 : jj_BO (4 * k + act) = 0
    · rw [vstep_no hk ha (by omega) b0]
      have uA : ∀ k, k < 7 → ∀ act, act < 4 → jj_BO (4 * k + act) = 0 → jj_KA k = nI (vka k) ∧ vka k < 7 := by decide +kernel
      have uB : ∀ k, k < 7 → ∀ act, act < 4 → jj_BO (4 * k + act) = 0 → ¬ jj_BO (4 * vka k + act) = 0 → jj_BO (4 * vka k + act) = vb k act ∧ jj_KA (vka k) = vab k act := by decide +kernel
      have uC : ∀ k, k < 7 → ∀ act, act < 4 → jj_BO (4 * k + act) = 0 → jj_BO (4 * vka k + act) = 0 → jj_KA (vka k) = nI 0 ∧ jj_BO (4 * 0 + act) = vb k act ∧ jj_KA 0 = vab k act := by decide +kernel
      have u0 : ∀ act, act < 4 → ¬ jj_BO (4 * 0 + act) = 0 := by decide +kernel
      obtain ⟨ej, hj⟩ := uA k hk act ha b0
      rw [ej]
      by_cases r : jj_BO (4 * vka k + act) = 0
      · obtain ⟨c1, c2, c3⟩ := uC k hk act ha b0 r
        rw [vstep_no hj ha (by omega) r, c1, vstep_yes (by omega) ha (by omega) hd (u0 act ha), c2, c3]
      · obtain ⟨c1, c2⟩ := uB k hk act ha b0 r
        rw [vstep_yes hj ha (by omega) hd r, c1, c2]
    · have same : ∀ k, k < 7 → ∀ act, act < 4 → ¬ jj_BO (4 * k + act) = 0 → jj_BO (4 * k + act) = vb k act ∧ jj_KA k = vab k act := by decide +kernel
      obtain ⟨s1, s2⟩ := same k hk act ha b0
      rw [vstep_yes hk ha (by omega) hd b0, s1, s2]
  exact key _
theorem say2 {N : Nat} (hN : 5 < N) {x3 : Int32} {μ : jj_M} {k act d g : Nat} (hk : k < 7) (ha : act < 4) (hd : d < 30) : vof_grp N (g + 2) 1 (nI k) (nI act) x3 (nI d) μ = vof_run N (fun a1 a2 a3 a4 μ => vof_grp N g 1 a1 a2 a3 a4 μ) (vb k act) (vab k act) x3 (nI (d + 1)) μ := by
  rw [vof_grp, if_neg (by decide), if_pos rfl, say_run hN hk ha hd, vof_grp, if_pos rfl]
theorem c_12 {N : Nat} {fs : Int32 → Int32 → Int32 → Int32 → jj_M → Option (Int32 × jj_M)} {n m : Int32} {K : Nat} {μ : jj_M} (h : vS n m K μ) (a x d : Int32) : vof_run N fs 12 a x d μ = some (x - m, ntsC [12] μ) := by
  unfold vof_run
  rw [(h.nt 12).1, Option.bind_some, if_neg (by decide), if_neg (by decide), if_pos rfl, (h.nt 12).2.2.1]
  rfl
theorem c_10 {N : Nat} {fs : Int32 → Int32 → Int32 → Int32 → jj_M → Option (Int32 × jj_M)} {n m : Int32} {K : Nat} {μ : jj_M} (h : vS n m K μ) (a x d : Int32) : vof_run N fs 10 a x d μ = some (x + n, ntsC [10] μ) := by
  unfold vof_run
  rw [(h.nt 10).1, Option.bind_some, if_pos rfl, (h.nt 10).2.1]
  rfl
theorem r_11 {N : Nat} {fs : Int32 → Int32 → Int32 → Int32 → jj_M → Option (Int32 × jj_M)} {n m : Int32} {K : Nat} {μ : jj_M} (h : vS n m K μ) (a x d : Int32) : vof_run N fs 11 a x d μ = (fs (nI K) 0 x d (ntC 11 μ)).bind fun q => some (q.1 * 2, q.2) := by
  unfold vof_run
  rw [(h.nt 11).1, Option.bind_some, if_neg (by decide), if_pos rfl, (h.nt 11).2.2.2.1]
theorem r_13 {N : Nat} {fs : Int32 → Int32 → Int32 → Int32 → jj_M → Option (Int32 × jj_M)} {n m : Int32} {K : Nat} {μ : jj_M} (h : vS n m K μ) (a x d : Int32) : vof_run N fs 13 a x d μ = (fs (nI K) 1 x d (ntC 13 μ)).bind fun q7 => (fs (q7.2 48 4) 2 x d q7.2).bind fun q8 => some (q7.1 ^^^ q8.1, q8.2) := by
  unfold vof_run
  rw [(h.nt 13).1, Option.bind_some, if_neg (by decide), if_neg (by decide), if_neg (by decide), if_pos rfl, (h.nt 13).2.2.2.1]
theorem r_20 {N : Nat} {fs : Int32 → Int32 → Int32 → Int32 → jj_M → Option (Int32 × jj_M)} {n m : Int32} {K : Nat} {μ : jj_M} (h : vS n m K μ) (a x d : Int32) : vof_run N fs 20 a x d μ = (fs a 0 x d (ntC 20 μ)).bind fun q => some (q.1 * 3, q.2) := by
  unfold vof_run
  rw [(h.nt 20).1, Option.bind_some, if_neg (by decide), if_neg (by decide), if_neg (by decide), if_neg (by decide), if_pos rfl]
theorem r_30 {N : Nat} {fs : Int32 → Int32 → Int32 → Int32 → jj_M → Option (Int32 × jj_M)} {n m : Int32} {K : Nat} {μ : jj_M} (h : vS n m K μ) (a x d : Int32) : vof_run N fs 30 a x d μ = (fs a 1 x d (ntC 30 μ)).bind fun q12 => (fs (q12.2 48 4) 2 1 d q12.2).bind fun q13 => some (q12.1 - q13.1, q13.2) := by
  unfold vof_run
  rw [(h.nt 30).1, Option.bind_some, if_neg (by decide), if_neg (by decide), if_neg (by decide), if_neg (by decide), if_neg (by decide), if_pos rfl]
theorem r_40 {N : Nat} {fs : Int32 → Int32 → Int32 → Int32 → jj_M → Option (Int32 × jj_M)} {n m : Int32} {K : Nat} {μ : jj_M} (h : vS n m K μ) (a x d : Int32) : vof_run N fs 40 a x d μ = (fs a 2 x d (ntC 40 μ)).bind fun q => some (-q.1, q.2) := by
  unfold vof_run
  rw [(h.nt 40).1, Option.bind_some, if_neg (by decide), if_neg (by decide), if_neg (by decide), if_neg (by decide), if_neg (by decide), if_neg (by decide), if_pos rfl]
theorem r_50 {N : Nat} {fs : Int32 → Int32 → Int32 → Int32 → jj_M → Option (Int32 × jj_M)} {n m : Int32} {K : Nat} {μ : jj_M} (h : vS n m K μ) (a x d : Int32) : vof_run N fs 50 a x d μ = (fs a 3 x d (ntC 50 μ)).bind fun q17 => (fs (q17.2 48 4) 0 2 d q17.2).bind fun q18 => some (q17.1 - q18.1, q18.2) := by
  unfold vof_run
  rw [(h.nt 50).1, Option.bind_some, if_neg (by decide), if_neg (by decide), if_neg (by decide), if_neg (by decide), if_neg (by decide), if_neg (by decide), if_neg (by decide), if_pos rfl]
theorem r_60 {N : Nat} {fs : Int32 → Int32 → Int32 → Int32 → jj_M → Option (Int32 × jj_M)} {n m : Int32} {K : Nat} {μ : jj_M} (h : vS n m K μ) (a x d : Int32) : vof_run N fs 60 a x d μ = (fs a 1 (x + 1) d (ntC 60 μ)).bind fun q20 => some (q20.1, q20.2) := by
  unfold vof_run
  rw [(h.nt 60).1, Option.bind_some, if_neg (by decide), if_neg (by decide), if_neg (by decide), if_neg (by decide), if_neg (by decide), if_neg (by decide), if_neg (by decide), if_neg (by decide), if_pos rfl]
theorem r_70 {N : Nat} {fs : Int32 → Int32 → Int32 → Int32 → jj_M → Option (Int32 × jj_M)} {n m : Int32} {K : Nat} {μ : jj_M} (h : vS n m K μ) (a x d : Int32) : vof_run N fs 70 a x d μ = (fs a 2 x d (ntC 70 μ)).bind fun q22 => some (q22.1 ^^^ (q22.2 48 2), q22.2) := by
  unfold vof_run
  rw [(h.nt 70).1, Option.bind_some, if_neg (by decide), if_neg (by decide), if_neg (by decide), if_neg (by decide), if_neg (by decide), if_neg (by decide), if_neg (by decide), if_neg (by decide), if_neg (by decide), if_pos rfl]
theorem r_71 {N : Nat} {fs : Int32 → Int32 → Int32 → Int32 → jj_M → Option (Int32 × jj_M)} {n m : Int32} {K : Nat} {μ : jj_M} (h : vS n m K μ) (a x d : Int32) : vof_run N fs 71 a x d μ = (fs (nI K) 1 x d (ntC 71 μ)).bind fun q24 => (fs a 3 x d q24.2).bind fun q25 => some (q24.1 - q25.1, q25.2) := by
  unfold vof_run
  rw [(h.nt 71).1, Option.bind_some, if_neg (by decide), if_neg (by decide), if_neg (by decide), if_neg (by decide), if_neg (by decide), if_neg (by decide), if_neg (by decide), if_neg (by decide), if_neg (by decide), if_neg (by decide), if_pos rfl, (h.nt 71).2.2.2.1]
theorem c_D {N : Nat} (hN : 5 < N) {n m : Int32} {K k d g : Nat} (hk : k < 7) (hd : d + 1 < 30) {μ : jj_M} (h : vS n m K μ) (x : Int32) : vof_grp N (g + 4) 1 (nI k) 0 x (nI d) μ = some ((pD n k x).1, ntsC (pD n k x).2 μ) := by
  have e := say2 (μ := μ) (x3 := x) (g := g + 2) hN hk (show 0 < 4 by omega) (show d < 30 by omega)
  have e : vof_grp N (g + 4) 1 (nI k) 0 x (nI d) μ = _ := e
  rw [e]
  have tb : ∀ k, k < 7 → ((k = 1 ∨ k = 4) → vb k 0 = 20 ∧ vab k 0 = nI 0) ∧ (¬ (k = 1 ∨ k = 4) → vb k 0 = 10) := by decide +kernel
  unfold pD
  by_cases q : k = 1 ∨ k = 4
  · obtain ⟨t1, t2⟩ := (tb k hk).1 q
    rw [if_pos q, t1, t2]
    rw [r_20 h]
    have e2 := say2 (μ := ntC 20 μ) (x3 := x) (g := g) hN (show 0 < 7 by omega) (show 0 < 4 by omega) (show d + 1 < 30 by omega)
    have e2 : vof_grp N (g + 2) 1 (nI 0) 0 x (nI (d + 1)) (ntC 20 μ) = _ := e2
    rw [e2, show vb 0 0 = 10 from rfl, c_10 (h.nt 20).2, Option.bind_some]
    rfl
  · rw [if_neg q, (tb k hk).2 q, c_10 h]
theorem c_O {N : Nat} (hN : 5 < N) {n m : Int32} {K k d g : Nat} (hk : k < 7) (hd : d + 2 < 30) {μ : jj_M} (h : vS n m K μ) (x : Int32) : vof_grp N (g + 6) 1 (nI k) 2 x (nI d) μ = some ((pO n m k x).1, ntsC (pO n m k x).2 μ) := by
  have S : ∀ (μ : jj_M) (k d g : Nat), k < 7 → d < 30 → vof_grp N (g + 2) 1 (nI k) 2 x (nI d) μ = vof_run N (fun a1 a2 a3 a4 μ => vof_grp N g 1 a1 a2 a3 a4 μ) (vb k 2) (vab k 2) x (nI (d + 1)) μ := fun μ k d g hk hd => say2 (act := 2) hN hk (by omega) hd
  have p40 : ∀ (μ : jj_M) (d g : Nat), vS n m K μ → d + 1 < 30 → vof_grp N (g + 4) 1 (nI 3) 2 x (nI d) μ = some (-(x - m), ntsC [40, 12] μ) := by
    intro μ d g h hd
    rw [S μ 3 d (g + 2) (by omega) (by omega), show vb 3 2 = 40 from rfl, show vab 3 2 = nI 0 from rfl]
    rw [r_40 h]
    rw [S (ntC 40 μ) 0 (d + 1) g (by omega) (by omega), show vb 0 2 = 12 from rfl, c_12 (h.nt 40).2, Option.bind_some]
    rfl
  have tb : ∀ k, k < 7 → ¬ k = 6 → ¬ k = 3 → vb k 2 = 12 := by decide +kernel
  unfold pO
  by_cases q : k = 6
  · subst q
    rw [if_pos rfl, S μ 6 d (g + 4) (by omega) (by omega), show vb 6 2 = 70 from rfl, show vab 6 2 = nI 3 from rfl]
    rw [r_70 h, p40 _ (d + 1) g (h.nt 70).2 (by omega), Option.bind_some]
    simp only []
    rw [((h.nt 70).2.nts [40, 12]).1]
    rfl
  rw [if_neg q]
  by_cases q3 : k = 3
  · subst q3
    rw [if_pos rfl]
    exact p40 μ d (g + 2) h (by omega)
  · rw [if_neg q3, S μ k d (g + 4) hk (by omega), tb k hk q q3, c_12 h]
theorem c_C0 {N : Nat} (hN : 5 < N) {n m : Int32} {K d g : Nat} (hK : K < 7) (hd : d + 2 < 30) {μ : jj_M} (h : vS n m K μ) (x a : Int32) : vof_run N (fun a1 a2 a3 a4 μ => vof_grp N (g + 4) 1 a1 a2 a3 a4 μ) 11 a x (nI d) μ = some ((pC0 n K x).1, ntsC (pC0 n K x).2 μ) := by
  rw [r_11 h, c_D hN hK (by omega) (h.nt 11).2, Option.bind_some]
  rfl
theorem c_C2 {N : Nat} (hN : 5 < N) {n m : Int32} {K d g : Nat} (hK : K < 7) (hd : d + 4 < 30) {μ : jj_M} (h : vS n m K μ) (x : Int32) : vof_run N (fun a1 a2 a3 a4 μ => vof_grp N (g + 6) 1 a1 a2 a3 a4 μ) 30 (nI 0) x (nI d) μ = some ((pC2 n m K x).1, ntsC (pC2 n m K x).2 μ) := by
  rw [r_30 h]
  have e := say2 (μ := ntC 30 μ) (x3 := x) (g := g + 4) hN (show 0 < 7 by omega) (show 1 < 4 by omega) (show d < 30 by omega)
  have e : vof_grp N (g + 6) 1 (nI 0) 1 x (nI d) (ntC 30 μ) = _ := e
  rw [e, show vb 0 1 = 11 from rfl, c_C0 hN hK (by omega) (h.nt 30).2, Option.bind_some]
  simp only []
  have V := (h.nt 30).2.nts (pC0 n K x).2
  rw [V.2.2.1, c_O hN hK (by omega) V, Option.bind_some, ← ntsC_app]
  rfl
theorem c_C {N : Nat} (hN : 5 < N) {n m : Int32} {K k d g : Nat} (hK : K < 7) (hk : k < 7) (hd : d + 8 < 30) {μ : jj_M} (h : vS n m K μ) (x : Int32) : vof_grp N (g + 10) 1 (nI k) 1 x (nI d) μ = some ((pC n m K k x).1, ntsC (pC n m K k x).2 μ) := by
  have S : ∀ (x : Int32) (μ : jj_M) (k d g : Nat), k < 7 → d < 30 → vof_grp N (g + 2) 1 (nI k) 1 x (nI d) μ = vof_run N (fun a1 a2 a3 a4 μ => vof_grp N g 1 a1 a2 a3 a4 μ) (vb k 1) (vab k 1) x (nI (d + 1)) μ := fun x μ k d g hk hd => say2 (act := 1) hN hk (by omega) hd
  have tb : ∀ k, k < 7 → ¬ k = 5 → ¬ k = 2 → vb k 1 = 11 := by decide +kernel
  unfold pC
  by_cases q : k = 5
  · subst q
    rw [if_pos rfl, S x μ 5 d (g + 8) (by omega) (by omega), show vb 5 1 = 60 from rfl, show vab 5 1 = nI 2 from rfl]
    rw [r_60 h]
    rw [S (x + 1) (ntC 60 μ) 2 (d + 1) (g + 6) (by omega) (by omega), show vb 2 1 = 30 from rfl, show vab 2 1 = nI 0 from rfl, c_C2 hN hK (by omega) (h.nt 60).2, Option.bind_some]
    rfl
  rw [if_neg q]
  by_cases q2 : k = 2
  · subst q2
    rw [if_pos rfl, S x μ 2 d (g + 8) (by omega) (by omega), show vb 2 1 = 30 from rfl, show vab 2 1 = nI 0 from rfl, c_C2 (g := g + 2) hN hK (by omega) h]
  · rw [if_neg q2, S x μ k d (g + 8) hk (by omega), tb k hk q q2, c_C0 (g := g + 4) hN hK (by omega) h]
theorem c_T0 {N : Nat} (hN : 5 < N) {n m : Int32} {K d g : Nat} (hK : K < 7) (hd : d + 10 < 30) {μ : jj_M} (h : vS n m K μ) (x a : Int32) : vof_run N (fun a1 a2 a3 a4 μ => vof_grp N (g + 10) 1 a1 a2 a3 a4 μ) 13 a x (nI d) μ = some ((pT0 n m K x).1, ntsC (pT0 n m K x).2 μ) := by
  rw [r_13 h, c_C hN hK hK (by omega) (h.nt 13).2, Option.bind_some]
  simp only []
  have V := (h.nt 13).2.nts (pC n m K K x).2
  rw [V.2.2.1, c_O (g := g + 4) hN hK (by omega) V, Option.bind_some, ← ntsC_app]
  rfl
theorem c_T {N : Nat} (hN : 5 < N) {n m : Int32} {K d g : Nat} (hK : K < 7) (hd : d + 14 < 30) {μ : jj_M} (h : vS n m K μ) (x : Int32) : vof_grp N (g + 14) 1 (nI K) 3 x (nI d) μ = some ((pT n m K x).1, ntsC (pT n m K x).2 μ) := by
  have S : ∀ (x : Int32) (μ : jj_M) (k d g : Nat), k < 7 → d < 30 → vof_grp N (g + 2) 1 (nI k) 3 x (nI d) μ = vof_run N (fun a1 a2 a3 a4 μ => vof_grp N g 1 a1 a2 a3 a4 μ) (vb k 3) (vab k 3) x (nI (d + 1)) μ := fun x μ k d g hk hd => say2 (act := 3) hN hk (by omega) hd
  have tb : ∀ k, k < 7 → ¬ k = 4 → ¬ k = 6 → vb k 3 = 13 := by decide +kernel
  unfold pT
  by_cases q : K = 4
  · rw [if_pos q, S x μ K d (g + 12) hK (by omega), show vb K 3 = 50 by rw [q]; rfl, show vab K 3 = nI 1 by rw [q]; rfl]
    rw [r_50 h]
    rw [S x (ntC 50 μ) 1 (d + 1) (g + 10) (by omega) (by omega), show vb 1 3 = 13 from rfl, c_T0 hN hK (by omega) (h.nt 50).2, Option.bind_some]
    simp only []
    have V := (h.nt 50).2.nts (pT0 n m K x).2
    rw [V.2.2.1, c_D (g := g + 8) hN hK (by omega) V, Option.bind_some, ← ntsC_app]
    rfl
  rw [if_neg q]
  by_cases q6 : K = 6
  · rw [if_pos q6, S x μ K d (g + 12) hK (by omega), show vb K 3 = 71 by rw [q6]; rfl, show vab K 3 = nI 3 by rw [q6]; rfl]
    rw [r_71 h, c_C (g := g + 2) hN hK hK (by omega) (h.nt 71).2, Option.bind_some]
    simp only []
    have V := (h.nt 71).2.nts (pC n m K K x).2
    rw [S x _ 3 (d + 1) (g + 10) (by omega) (by omega), show vb 3 3 = 13 from rfl, c_T0 hN hK (by omega) V, Option.bind_some, ← ntsC_app]
    rfl
  · rw [if_neg q6, S x μ K d (g + 12) hK (by omega), tb K hK q q6, c_T0 (g := g + 2) hN hK (by omega) h]
