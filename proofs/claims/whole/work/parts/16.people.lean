/-! ===== people ===== -/
/-- the agreement without the bounds of the row -/
def jJ (μ : jj_M) : Prop := (jAg 1 61 (dn (μ 61)) μ ∧ jLaw (μ 61) (μ 15) (μ 16) 0 ∧ jLaw (μ 61) (μ 18) (μ 19) 1 ∧ jDd 1 μ) ∧ (μ 0 7 = μ 60 4 ∧ ((μ 0 7 = 0 ∧ μ 35 2 = nI 0 ∧ μ 38 2 = nI 1) ∨ jW 21 62 μ)) ∧ (∀ j, j < 6 → μ 59 j = μ 64 j) ∧ (μ 48 1 = μ 60 17 ∧ (∃ n, n ≤ 40 ∧ μ 60 17 = nI n) ∧ ∀ i, i < 40 → μ 49 i = μ 67 i) ∧ jShm μ
theorem jI.J {μ : jj_M} (h : jI μ) : jJ μ := ⟨⟨h.1.2.1, h.1.2.2.1, h.1.2.2.2.1, h.1.2.2.2.2⟩, h.2⟩
theorem jJ.I {μ : jj_M} (h : jJ μ) (hS : jS (μ 61)) : jI μ := ⟨⟨hS, h.1.1, h.1.2.1, h.1.2.2.1, h.1.2.2.2⟩, h.2⟩
theorem jJ.rest {μ m : jj_M} (h : jJ μ) (e : ∀ k, k = 0 ∨ (20 < k ∧ k ≠ 61) → m k = μ k) : (m 0 7 = m 60 4 ∧ ((m 0 7 = 0 ∧ m 35 2 = nI 0 ∧ m 38 2 = nI 1) ∨ jW 21 62 m)) ∧ (∀ j, j < 6 → m 59 j = m 64 j) ∧ (m 48 1 = m 60 17 ∧ (∃ n, n ≤ 40 ∧ m 60 17 = nI n) ∧ ∀ i, i < 40 → m 49 i = m 67 i) ∧ jShm m := by
  obtain ⟨_, ⟨h2, h3⟩, h4, ⟨h5, h6, h7⟩, h8⟩ := h
  refine ⟨⟨?_, ?_⟩, ?_, ⟨?_, ?_, ?_⟩, jShm.keep h8 (fun k _ _ => e k (by omega)) (e 68 (by omega)) (e 69 (by omega)) (e 70 (by omega))⟩
  · rw [e 0 (by omega), e 60 (by omega)]; exact h2
  · rw [e 0 (by omega), e 35 (by omega), e 38 (by omega)]; exact h3.imp id (fun q => q.keep (fun k _ _ _ _ => e k (by omega)) (e 62 (by omega)))
  · rw [e 59 (by omega), e 64 (by omega)]; exact h4
  · rw [e 48 (by omega), e 60 (by omega)]; exact h5
  · rw [e 60 (by omega)]; exact h6
  · rw [e 49 (by omega), e 67 (by omega)]; exact h7
abbrev jok (j : Nat) (v : Int32) : Prop := dm j ∧ j ≠ 139 ∧ (140 ≤ j → j < 176 → (j - 140) % 6 = 5 → v = 0 ∨ v = 1)
theorem jJ.pw {μ : jj_M} (h : jJ μ) {j : Nat} {v : Int32} (hq : jok j v) : jJ (jj_u (jj_u μ (lc 1 j) (li j) v) 61 j v) := by
  obtain ⟨hj, h139, hd⟩ := hq
  have rj := lc_r (w := 1) hj
  obtain ⟨q2, q3, q4, q5⟩ := h.1
  have e5 := jDd.wr (s := 61) q5 (by omega) hj hd
  have es : jj_u (jj_u μ (lc 1 j) (li j) v) 61 j v 61 = upd (μ 61) j v := by rw [ju_row, if_pos rfl, ju_ne (by omega)]
  have eo : ∀ k, 1 + 14 ≤ k → k < 1 + 20 → jj_u (jj_u μ (lc 1 j) (li j) v) 61 j v k = μ k := fun k a b => by rw [ju_ne (by omega), ju_ne (by omega)]
  refine ⟨⟨?_, ?_, ?_, e5⟩, h.rest (fun k hk => by rw [ju_ne (by omega), ju_ne (by omega)])⟩
  · rw [es]
    refine (q2.wr (fun i hi => hi.1) (by omega) hj).mono (fun i hi => Or.inl ⟨hi.1, fun a b => ?_⟩)
    have := hi.2 a b
    rwa [upd_n (Ne.symm h139)] at this
  · rw [es, eo 15 (by omega) (by omega), eo 16 (by omega) (by omega)]
    exact q3.keep rfl rfl (fun _ _ => rfl) (upd_n (by omega)) (fun i hi => upd_n (by omega))
  · rw [es, eo 18 (by omega) (by omega), eo 19 (by omega) (by omega)]
    exact q4.keep rfl rfl (fun _ _ => rfl) (upd_n (by omega)) (fun i hi => upd_n (by omega))
def cw (L : List (Nat × Int32)) (μ : jj_M) : jj_M := L.foldl (fun m q => jj_u m (lc 1 q.1) (li q.1) q.2) μ
def mw (L : List (Nat × Int32)) (μ : jj_M) : jj_M := L.foldl (fun m q => jj_u m 61 q.1 q.2) μ
theorem cw_comm : ∀ (L : List (Nat × Int32)) (μ : jj_M) (j : Nat) (v : Int32), (∀ q ∈ L, dm q.1) → jj_u (cw L μ) 61 j v = cw L (jj_u μ 61 j v) := by
  intro L
  induction L with
  | nil => intro μ j v _; rfl
  | cons q L ih =>
    intro μ j v h
    show jj_u (cw L (jj_u μ (lc 1 q.1) (li q.1) q.2)) 61 j v = cw L (jj_u (jj_u μ 61 j v) (lc 1 q.1) (li q.1) q.2)
    have r := lc_r (w := 1) (h q List.mem_cons_self)
    rw [ih _ _ _ (fun x hx => h x (List.mem_cons_of_mem _ hx)), ju_comm (by omega)]
theorem jJ.list : ∀ (L : List (Nat × Int32)) (μ : jj_M), (∀ q ∈ L, jok q.1 q.2) → jJ μ → jJ (mw L (cw L μ)) := by
  intro L
  induction L with
  | nil => intro μ _ h; exact h
  | cons q L ih =>
    intro μ h hJ
    show jJ (mw L (jj_u (cw L (jj_u μ (lc 1 q.1) (li q.1) q.2)) 61 q.1 q.2))
    rw [cw_comm _ _ _ _ (fun x hx => (h x (List.mem_cons_of_mem _ hx)).1)]
    exact ih _ (fun x hx => h x (List.mem_cons_of_mem _ hx)) (hJ.pw (h q List.mem_cons_self))
theorem ju_comm2 {μ : jj_M} {a b d : Nat} {v x : Int32} (h : b ≠ d) : jj_u (jj_u μ a b v) a d x = jj_u (jj_u μ a d x) a b v := by
  funext k
  by_cases e : k = a
  · subst e
    rw [ju_rowS, ju_rowS, ju_rowS, ju_rowS]
    funext i
    unfold upd
    by_cases e1 : i = b <;> by_cases e2 : i = d
    · omega
    · rw [if_neg e2, if_pos e1, if_pos e1]
    · rw [if_pos e2, if_neg e1, if_pos e2]
    · rw [if_neg e2, if_neg e1, if_neg e1, if_neg e2]
  · rw [ju_ne e, ju_ne e, ju_ne e, ju_ne e]
/-! where people stand -/
theorem lc_p (p j : Nat) (hp : p < 6) (hj : j < 6) : lc 1 (140 + 6 * p + j) = 9 + p := by
  unfold lc
  rw [if_neg (by omega), if_neg (by omega), if_neg (by omega), if_neg (by omega), if_pos (by omega)]
  omega
theorem li_p (p j : Nat) (hp : p < 6) (hj : j < 6) : li (140 + 6 * p + j) = j := by
  unfold li
  rw [if_neg (by omega), if_neg (by omega), if_neg (by omega), if_neg (by omega), if_neg (by omega), if_neg (by omega), if_neg (by omega), if_pos (by omega)]
  omega
/-- how many people there are -/
theorem jI.n {μ : jj_M} (h : jI μ) : ∃ n, n ≤ 6 ∧ μ 61 139 = nI n ∧ μ 1 7 = nI n := by
  have hb := h.S.1 139 (by omega)
  rw [show bdh 139 = 6 by decide] at hb
  obtain ⟨n, hn, e⟩ := nz_ofb (x := μ 61 139) (n := 7) (by omega) (by omega)
  have ag := h.ag (j := 139) (by omega)
  have ag : μ 1 7 = μ 61 139 := ag
  exact ⟨n, by omega, e, by rw [ag, e]⟩
theorem jI.per {μ : jj_M} (h : jI μ) {n p : Nat} (hn : n ≤ 6) (en : μ 61 139 = nI n) (hp : p < n) : jPer (μ 61) p := h.S.2.2.2 p (by rw [en, nz_toInt (by omega)]; omega)
theorem jI.pag {μ : jj_M} (h : jI μ) {n p j : Nat} (hn : n ≤ 6) (en : μ 61 139 = nI n) (hp : p < n) (hj : j < 6) : μ (9 + p) j = μ 61 (140 + 6 * p + j) := by
  have := h.w.2.1 (140 + 6 * p + j) ⟨by unfold dm; omega, fun a b => by rw [en, nz_toInt (by omega)]; omega⟩
  rwa [lc_p p j (by omega) hj, li_p p j (by omega) hj] at this
theorem isPer_ok {μ m : jj_M} {n : Nat} (hn : n ≤ 6) (e1 : μ 1 7 = nI n) (e2 : m 61 139 = nI n) (x : Int32) : mdf_isPerson x m = wnf_isPerson x μ := by
  unfold mdf_isPerson wnf_isPerson
  rw [e1, e2]
  exact nz_within x 0 (nI n - 1)
theorem nz_per {μ : jj_M} {n : Nat} (hn : n ≤ 6) (e1 : μ 1 7 = nI n) {x : Int32} (h : ¬ wnf_isPerson x μ = 0) : ∃ p, p < n ∧ x = nI p := by
  unfold wnf_isPerson at h
  rw [e1] at h
  have hb := w_b h
  have z0 : (0 : Int32).toInt = 0 := by decide
  have z1 : (1 : Int32).toInt = 1 := by decide
  rw [z0, nz_subI (by rw [nz_toInt (by omega)]; omega) (by rw [nz_toInt (by omega)]; omega), nz_toInt (by omega), z1] at hb
  exact nz_ofb (by omega) (by omega)
theorem spot_ok (p j : Nat) : mdf_spot (nI p) (nI j) = nI (140 + 6 * p + j) := by
  unfold mdf_spot
  rw [show (140 : Int32) = nI 140 from rfl, show (6 : Int32) = nI 6 from rfl, nz_mul, nz_add, nz_add]
theorem its_ok {μ : jj_M} {p j : Nat} (hp : p < 6) (hj : j < 6) : mdf_its (nI p) (nI j) μ = some (μ 61 (140 + 6 * p + j)) := by
  unfold mdf_its
  rw [spot_ok, if_pos (nz_in (by omega) (by omega)), nz_clamp (by omega)]
theorem km_ok {x : Int32} (h : ¬ wnf_within x 0 69 = 0) : ∃ k m, k < 7 ∧ m < 10 ∧ x / 10 = nI k ∧ x - x / 10 * 10 = nI m := by
  have hb := w_b h
  have z0 : (0 : Int32).toInt = 0 := by decide
  have z1 : (69 : Int32).toInt = 69 := by decide
  obtain ⟨n, hn, rfl⟩ := nz_ofb (x := x) (n := 70) (by omega) (by omega)
  revert hn
  have key : ∀ n, n < 70 → nI n / 10 = nI (n / 10) ∧ nI n - nI n / 10 * 10 = nI (n % 10) := by decide +kernel
  intro hn
  exact ⟨n / 10, n % 10, by omega, by omega, (key n hn).1, (key n hn).2⟩
theorem jPer.mk {S : Nat → Int32} {p k m a : Nat} (hk : k < 7) (hm : m < 10) (ha : a < 8) (e0 : S (140 + 6 * p) = nI k) (e1 : S (140 + 6 * p + 1) = nI m) (e2 : S (140 + 6 * p + 2) = nI a) (e3 : S (140 + 6 * p + 3) = -1) (e4 : S (140 + 6 * p + 4) = 0) (e5 : S (140 + 6 * p + 5) = 0) : jPer S p :=
  ⟨⟨k, hk, e0⟩, ⟨m, hm, e1⟩, ⟨a, ha, e2⟩, Or.inl e3, Or.inl ⟨e5, 0, by omega, e4⟩⟩
/-- the row after a change among one person's places -/
theorem jS.person {S T : Nat → Int32} {p : Nat} (h : jS S) (hp : p < 6) (e : ∀ b, (b < 140 + 6 * p ∨ 146 + 6 * p ≤ b) → T b = S b) (hP : (p : Int) < (S 139).toInt → jPer T p) : jS T := by
  obtain ⟨h1, h2, h3, h4⟩ := h
  refine ⟨fun j hj => by rw [e j (by omega)]; exact h1 j hj, fun a b ha hb => by rw [e _ (by omega), e _ (by omega)]; exact h2 a b ha hb, fun a ha => by rw [e _ (by omega)]; exact h3 a ha, fun q hq => ?_⟩
  rw [e 139 (by omega)] at hq
  by_cases c : q = p
  · subst c; exact hP hq
  · have x := h4 q hq
    unfold jPer at x ⊢
    rw [e _ (by omega), e _ (by omega), e _ (by omega), e _ (by omega), e _ (by omega), e _ (by omega)]
    exact x
theorem st_become {μ : jj_M} (h : jI μ) (x1 x2 : Int32) : ∃ (r : Int32) (μ1 : jj_M) (μ2 : jj_M), wnf_become x1 x2 μ = some (r, μ1) ∧ mdf_become x1 x2 μ1 = some (r, μ2) ∧ jI μ2 := by
  unfold wnf_become mdf_become
  obtain ⟨n, hn, en, en1⟩ := h.n
  rw [show wnf_isKindWithNumber x2 = wnf_within x2 0 69 from rfl, show mdf_isMind x2 = wnf_within x2 0 69 from nz_within x2 0 69]
  have err : ∀ m1 : jj_M, m1 = jj_u μ 59 1 (μ 59 1 + 1) → m1 61 139 = nI n := fun m1 e => by rw [e, ju_ne (by decide)]; exact en
  by_cases c1 : wnf_isPerson x1 μ = 0
  · obtain ⟨m1, m2, a, b, c⟩ := err1 h
    have em : m1 = jj_u μ 59 1 (μ 59 1 + 1) := by
      rw [show wnf_refuse 1 μ = _ from refuse_ok (e := 1) (by omega) μ] at a
      exact (Prod.mk.inj (Option.some.inj a)).2.symm
    exact ⟨-1000000001, m1, m2, by rw [if_pos c1, a]; rfl, by rw [isPer_ok hn en1 (err m1 em), if_pos c1, b]; rfl, c⟩
  by_cases c2 : wnf_within x2 0 69 = 0
  · obtain ⟨m1, m2, a, b, c⟩ := err1 h
    have em : m1 = jj_u μ 59 1 (μ 59 1 + 1) := by
      rw [show wnf_refuse 1 μ = _ from refuse_ok (e := 1) (by omega) μ] at a
      exact (Prod.mk.inj (Option.some.inj a)).2.symm
    exact ⟨-1000000001, m1, m2, by rw [if_neg c1, if_pos c2, a]; rfl, by rw [isPer_ok hn en1 (err m1 em), if_neg c1, if_pos c2, b]; rfl, c⟩
  obtain ⟨p, hp, rfl⟩ := nz_per hn en1 c1
  obtain ⟨k, m, hk, hm, ek, ekm⟩ := km_ok c2
  have g : jj_i (nI p) 6 := nz_in (by omega) (by omega)
  have kp : (nI p).toNatClampNeg = p := nz_clamp (by omega)
  have g1 : jj_i (nI (140 + 6 * p + 1)) 351 := nz_in (by omega) (by omega)
  have k1 : (nI (140 + 6 * p + 1)).toNatClampNeg = 140 + 6 * p + 1 := nz_clamp (by omega)
  have d9 : 5 + 4 + p = 9 + p := by omega
  have s0 : mdf_spot (nI p) 0 = nI (140 + 6 * p + 0) := spot_ok p 0
  have s1 : mdf_spot (nI p) 1 = nI (140 + 6 * p + 1) := spot_ok p 1
  have P := h.per hn en hp
  have hJ := jJ.list [(140 + 6 * p + 1, nI m), (140 + 6 * p + 0, nI k)] μ (fun q hq => by
    rcases List.mem_cons.mp hq with rfl | hq
    · exact ⟨by unfold dm; omega, by omega, fun a b c => by omega⟩
    · rw [List.mem_singleton.mp hq]; exact ⟨by unfold dm; omega, by omega, fun a b c => by omega⟩) h.J
  simp only [cw, mw, List.foldl] at hJ
  rw [lc_p p 1 (by omega) (by omega), lc_p p 0 (by omega) (by omega), li_p p 1 (by omega) (by omega), li_p p 0 (by omega) (by omega)] at hJ
  rw [ju_comm2 (μ := μ) (show (1 : Nat) ≠ 0 by decide)] at hJ
  refine ⟨μ (9 + p) 0, jj_u (jj_u μ (9 + p) 0 (nI k)) (9 + p) 1 (nI m), _, ?_, ?_, hJ.I ?_⟩
  · simp only [c1, c2, eq_true g, kp, d9, ek, ekm, ↓reduceIte, not_false_eq_true, Option.bind_some]
    rw [ek] at ekm
    rw [ekm]
  · rw [isPer_ok (m := jj_u (jj_u μ (9 + p) 0 (nI k)) (9 + p) 1 (nI m)) hn en1 (by rw [ju_ne (by omega), ju_ne (by omega)]; exact en)]
    simp only [c1, c2, s1, eq_true g1, k1, s0, ↓reduceIte, not_false_eq_true]
    rw [becomes_ok (by omega), ju_other (by omega), ju_ne (by omega), ju_ne (by omega), h.pag hn en hp (by omega), ek]
    rw [ek] at ekm
    rw [ekm]
    rfl
  · refine h.S.person (p := p) (by omega) (fun b hb => ?_) (fun _ => ?_)
    · rw [ju_other (by omega), ju_other (by omega), ju_ne (by omega), ju_ne (by omega)]
    · obtain ⟨_, _, p3, p4, p5⟩ := P
      have e : ∀ j, 2 ≤ j → jj_u (jj_u (jj_u (jj_u μ (9 + p) 0 (nI k)) (9 + p) 1 (nI m)) 61 (140 + 6 * p + 1) (nI m)) 61 (140 + 6 * p + 0) (nI k) 61 (140 + 6 * p + j) = μ 61 (140 + 6 * p + j) := fun j hj => by rw [ju_other (by omega), ju_other (by omega), ju_ne (by omega), ju_ne (by omega)]
      refine ⟨⟨k, hk, ju_self⟩, ⟨m, hm, by rw [ju_other (by omega), ju_self]⟩, ?_, ?_, ?_⟩
      · rw [e 2 (by omega)]; exact p3
      · rw [e 3 (by omega)]; exact p4
      · rw [e 4 (by omega), e 5 (by omega)]; exact p5
