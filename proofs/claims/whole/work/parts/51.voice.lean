/-! voice -/
def vRel (μ ν : jj_M) : Prop := μ 48 1 = ν 60 17 ∧ (∃ c, c ≤ 40 ∧ ν 60 17 = nI c) ∧ ∀ i, i < 40 → μ 49 i = ν 67 i
theorem vRel.nt {μ ν : jj_M} (h : vRel μ ν) (x : Int32) : vRel (ntC x μ) (ntM x ν) := by
  obtain ⟨h1, ⟨c, hc, h2⟩, h3⟩ := h
  unfold ntC ntM
  rw [h1]
  by_cases q : (40 : Int32) ≤ ν 60 17
  · rw [if_pos q, if_pos q]; exact ⟨h1, ⟨c, hc, h2⟩, h3⟩
  · have q' := q
    rw [h2, show (40 : Int32) = nI 40 from rfl, nz_le (by omega) (by omega)] at q'
    rw [if_neg q, if_neg q, h2, nz_clamp (by omega), nz_s]
    refine ⟨by rw [ju_self, ju_self], ⟨c + 1, by omega, ju_self⟩, fun i hi => ?_⟩
    rw [ju_ne (show (49 : Nat) ≠ 48 by decide), ju_ne (show (67 : Nat) ≠ 60 by decide)]
    by_cases e : i = c
    · rw [e, ju_self, ju_self]
    · rw [ju_other e, ju_other e]; exact h3 i hi
theorem vRel.nts : ∀ (l : List Int32) (μ ν : jj_M), vRel μ ν → vRel (ntsC l μ) (ntsM l ν) := by
  intro l
  induction l with
  | nil => intro μ ν h; exact h
  | cons x l ih => intro μ ν h; exact ih _ _ (h.nt x)
theorem ntsC_o : ∀ (l : List Int32) (μ : jj_M) (k : Nat), k ≠ 48 → k ≠ 49 → ntsC l μ k = μ k := by
  intro l
  induction l with
  | nil => intro μ k _ _; rfl
  | cons x l ih =>
    intro μ k h1 h2
    rw [ntsC_cons, ih _ _ h1 h2]
    unfold ntC
    split
    · rfl
    · rw [ju_ne h1, ju_ne h2]
theorem ntsM_o : ∀ (l : List Int32) (μ : jj_M) (k : Nat), k ≠ 60 → k ≠ 67 → ntsM l μ k = μ k := by
  intro l
  induction l with
  | nil => intro μ k _ _; rfl
  | cons x l ih =>
    intro μ k h1 h2
    rw [ntsM_cons, ih _ _ h1 h2]
    unfold ntM
    split
    · rfl
    · rw [ju_ne h1, ju_ne h2]
theorem ntsM_60 : ∀ (l : List Int32) (μ : jj_M) (j : Nat), j ≠ 17 → ntsM l μ 60 j = μ 60 j := by
  intro l
  induction l with
  | nil => intro μ j _; rfl
  | cons x l ih =>
    intro μ j h1
    rw [ntsM_cons, ih _ _ h1]
    unfold ntM
    split
    · rfl
    · rw [ju_other h1, ju_ne (by decide)]
theorem jI.voice {μ m : jj_M} (h : jI μ) (e : ∀ k, k ≠ 48 → k ≠ 49 → k ≠ 60 → k ≠ 67 → m k = μ k) (e60 : m 60 4 = μ 60 4) (r : m 48 1 = m 60 17 ∧ (∃ n, n ≤ 40 ∧ m 60 17 = nI n) ∧ ∀ i, i < 40 → m 49 i = m 67 i) : jI m := by
  obtain ⟨h1, ⟨h2, h3⟩, h4, _, h8⟩ := h
  refine ⟨h1.keep (fun k _ _ _ _ => e k (by omega) (by omega) (by omega) (by omega)) (e 61 (by omega) (by omega) (by omega) (by omega)), ⟨?_, ?_⟩, ?_, r, jShm.keep h8 (fun k _ _ => e k (by omega) (by omega) (by omega) (by omega)) (e 68 (by omega) (by omega) (by omega) (by omega)) (e 69 (by omega) (by omega) (by omega) (by omega)) (e 70 (by omega) (by omega) (by omega) (by omega))⟩
  · rw [e 0 (by omega) (by omega) (by omega) (by omega), e60]; exact h2
  · rw [e 0 (by omega) (by omega) (by omega) (by omega), e 35 (by omega) (by omega) (by omega) (by omega), e 38 (by omega) (by omega) (by omega) (by omega)]; exact h3.imp id (fun q => q.keep (fun k _ _ _ _ => e k (by omega) (by omega) (by omega) (by omega)) (e 62 (by omega) (by omega) (by omega) (by omega)))
  · rw [e 59 (by omega) (by omega) (by omega) (by omega), e 64 (by omega) (by omega) (by omega) (by omega)]; exact h4
def pV (n m : Int32) (K act : Nat) (x : Int32) : Int32 × List Int32 := if act = 0 then pD n K x else if act = 1 then pC n m K K x else if act = 2 then pO n m K x else pT n m K x
theorem st_voice {μ : jj_M} (h : jI μ) (x1 x2 x3 : Int32) : ∃ (r : Int32) (μ1 : jj_M) (μ2 : jj_M), wnf_voice jz_N x1 x2 x3 μ = some (r, μ1) ∧ mdf_voice x1 x2 x3 μ1 = some (r, μ2) ∧ jI μ2 := by
  have big := jz_ge
  unfold wnf_voice mdf_voice
  obtain ⟨n, hn, en, en1⟩ := h.n
  rw [show mdf_in (Int32.toInt64 x2) 0 3 = wnf_within x2 0 3 from nz_within x2 0 3]
  obtain ⟨m1, m2, a, b, c⟩ := err1 h
  have e61 : m1 61 = μ 61 := err_61 (e := 1) (by omega) a 61 (by decide)
  have ip : ∀ m : jj_M, m 61 = μ 61 → mdf_isPerson x1 m = wnf_isPerson x1 μ := fun m e => isPer_ok hn en1 (by rw [e]; exact en) x1
  by_cases c1 : wnf_isPerson x1 μ = 0
  · exact ⟨-1000000001, m1, m2, by simp only [c1, a, ↓reduceIte, Option.bind_some], by simp only [ip m1 e61, c1, b, ↓reduceIte, Option.bind_some], c⟩
  by_cases c2 : wnf_within x2 0 3 = 0
  · exact ⟨-1000000001, m1, m2, by simp only [c1, c2, a, ↓reduceIte, Option.bind_some], by simp only [ip m1 e61, c1, c2, b, ↓reduceIte, Option.bind_some], c⟩
  obtain ⟨p, hp, rfl⟩ := nz_per hn en1 c1
  obtain ⟨act, hact, rfl⟩ : ∃ x, x < 4 ∧ x2 = nI x := by
    have hb := w_b c2
    have z0 : (0 : Int32).toInt = 0 := by decide
    have z1 : (3 : Int32).toInt = 3 := by decide
    exact nz_ofb (by omega) (by omega)
  have P := h.per hn en hp
  obtain ⟨⟨K, hK, eK⟩, _⟩ := P
  have g : jj_i (nI p) 6 := nz_in (by omega) (by omega)
  have kp : (nI p).toNatClampNeg = p := nz_clamp (by omega)
  have d9 : 5 + 4 + p = 9 + p := by omega
  have b0 := h.pag hn en hp (j := 0) (by omega)
  have b1 := h.pag hn en hp (j := 1) (by omega)
  have b0 : μ (9 + p) 0 = nI K := b0.trans eK
  obtain ⟨mm, emm⟩ : ∃ mm, mm = μ 61 (140 + 6 * p + 1) := ⟨_, rfl⟩
  rw [← emm] at b1
  obtain ⟨A, hA⟩ : ∃ A, A = jj_u (jj_u (jj_u (jj_u μ 48 2 (nI p)) 48 3 mm) 48 4 (nI K)) 48 1 0 := ⟨_, rfl⟩
  have VA : vS (nI p) mm K A := by
    rw [hA]
    refine ⟨?_, ?_, ?_, 0, by omega, ?_⟩
    · rw [ju_other (by decide), ju_other (by decide), ju_other (by decide), ju_self]
    · rw [ju_other (by decide), ju_other (by decide), ju_self]
    · rw [ju_other (by decide), ju_self]
    · rw [ju_self]; rfl
  have C1 : vof_say_G jz_N (nI K) (nI act) x3 0 A = some ((pV (nI p) mm K act x3).1, ntsC (pV (nI p) mm K act x3).2 A) := by
    unfold vof_say_G pV
    rcases (by omega : act = 0 ∨ act = 1 ∨ act = 2 ∨ act = 3) with rfl | rfl | rfl | rfl
    · rw [if_pos rfl]
      exact c_D (g := 16) (d := 0) (by omega) hK (by omega) VA x3
    · rw [if_neg (by decide), if_pos rfl]
      exact c_C (g := 10) (d := 0) (by omega) hK hK (by omega) VA x3
    · rw [if_neg (by decide), if_neg (by decide), if_pos rfl]
      exact c_O (g := 14) (d := 0) (by omega) hK (by omega) VA x3
    · rw [if_neg (by decide), if_neg (by decide), if_neg (by decide)]
      exact c_T (g := 6) (d := 0) (by omega) hK (by omega) VA x3
  obtain ⟨B, hB⟩ : ∃ B, B = ntsC (pV (nI p) mm K act x3).2 A := ⟨_, rfl⟩
  rw [← hB] at C1
  have Ao : ∀ k, k ≠ 48 → A k = μ k := fun k hk => by rw [hA, ju_ne hk, ju_ne hk, ju_ne hk, ju_ne hk]
  have Bo : ∀ k, k ≠ 48 → k ≠ 49 → B k = μ k := fun k h1 h2 => by rw [hB, ntsC_o _ _ k h1 h2, Ao k h1]
  have B61 : B 61 = μ 61 := Bo 61 (by decide) (by decide)
  obtain ⟨D, hD⟩ : ∃ D, D = jj_u (jj_u (jj_u (jj_u B 60 17 0) 60 18 (nI K)) 60 19 (nI p)) 60 20 mm := ⟨_, rfl⟩
  have VD : vM (nI p) mm K D := by
    rw [hD]
    refine ⟨?_, ?_, ?_, 0, by omega, ?_⟩
    · rw [ju_other (by decide), ju_self]
    · rw [ju_self]
    · rw [ju_other (by decide), ju_other (by decide), ju_self]
    · rw [ju_other (by decide), ju_other (by decide), ju_other (by decide), ju_self]; rfl
  have t0 : mdf_its (nI p) 0 (jj_u B 60 17 0) = some (nI K) := by
    rw [show (0 : Int32) = nI 0 from rfl, its_ok (by omega) (by omega), ju_ne (by decide), B61]
    exact congrArg some eK
  have t1 : mdf_its (nI p) 1 (jj_u (jj_u (jj_u B 60 17 0) 60 18 (nI K)) 60 19 (nI p)) = some mm := by
    rw [show (1 : Int32) = nI 1 from rfl, its_ok (by omega) (by omega), ju_ne (by decide), ju_ne (by decide), ju_ne (by decide), B61, emm]
  obtain ⟨E, hE⟩ : ∃ E, E = ntsM (pV (nI p) mm K act x3).2 D := ⟨_, rfl⟩
  have Do : ∀ k, k ≠ 60 → D k = B k := fun k hk => by rw [hD, ju_ne hk, ju_ne hk, ju_ne hk, ju_ne hk]
  have Eo : ∀ k, k ≠ 60 → k ≠ 67 → E k = B k := fun k h1 h2 => by rw [hE, ntsM_o _ _ k h1 h2, Do k h1]
  refine ⟨(pV (nI p) mm K act x3).1, B, E, ?_, ?_, ?_⟩
  · rw [if_neg c1, if_neg c2, if_pos g]
    unfold vof_speak
    simp only [kp, d9, Option.bind_some]
    rw [ju_ne (show 9 + p ≠ 48 by omega), b1, ju_ne (show 9 + p ≠ 48 by omega), ju_ne (show 9 + p ≠ 48 by omega), b0, ← hA, VA.2.2.1, C1]
    rfl
  · rw [ip B B61, if_neg c1, if_neg c2, t0, Option.bind_some, t1, Option.bind_some, Option.bind_some, ← hD, hE]
    unfold pV
    rcases (by omega : act = 0 ∨ act = 1 ∨ act = 2 ∨ act = 3) with rfl | rfl | rfl | rfl
    · rw [if_pos (show nI 0 = 0 from rfl), m_D hK VD, if_pos rfl]
      rfl
    · rw [if_neg (by decide), if_pos (show nI 1 = 1 from rfl), m_C hK VD, if_neg (by decide), if_pos rfl]
      rfl
    · rw [if_neg (by decide), if_neg (by decide), if_pos (show nI 2 = 2 from rfl), m_O hK VD, if_neg (by decide), if_neg (by decide), if_pos rfl]
      rfl
    · rw [if_neg (by decide), if_neg (by decide), if_neg (by decide), m_T hK VD, if_neg (by decide), if_neg (by decide), if_neg (by decide)]
      rfl
  · have R0 : vRel A D := by
      refine ⟨?_, ⟨0, by omega, ?_⟩, fun i hi => ?_⟩
      · rw [hA, ju_self, hD, ju_other (by decide), ju_other (by decide), ju_other (by decide), ju_self]
      · rw [hD, ju_other (by decide), ju_other (by decide), ju_other (by decide), ju_self]; rfl
      · rw [Ao 49 (by decide), Do 67 (by decide), Bo 67 (by decide) (by decide)]
        exact h.2.2.2.1.2.2 i hi
    have R := R0.nts (pV (nI p) mm K act x3).2
    rw [← hB, ← hE] at R
    obtain ⟨R1, R2, R3⟩ := R
    refine h.voice (fun k h1 h2 h3 h4 => by rw [Eo k h3 h4, Bo k h1 h2]) ?_ ⟨by rw [Eo 48 (by decide) (by decide)]; exact R1, R2, fun i hi => by rw [Eo 49 (by decide) (by decide)]; exact R3 i hi⟩
    rw [hE, ntsM_60 _ _ 4 (by decide), hD, ju_other (by decide), ju_other (by decide), ju_other (by decide), ju_other (by decide), Bo 60 (by decide) (by decide)]
