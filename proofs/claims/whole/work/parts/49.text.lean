/-! ===== text ===== -/
def ptOk (q : pR) (L : Nat) : Prop := q.2.2 = false ∧ q.2.1 = L
theorem read_c {μ : jj_M} {L u : Nat} (hL : L ≤ 50) (hu : u < 2) : ∃ m, ref_read jz_N 7 50 (nI L) (nI u) μ = some ((if (pt (μ 7) L u).2.2 = false ∧ (pt (μ 7) L u).2.1 = L then -1 else nI (pt (μ 7) L u).2.1), m) ∧ (∀ k, k ≠ 45 → k ≠ 46 → k ≠ 47 → m k = μ k) ∧ (pt (μ 7) L u).2.1 ≤ L ∧ ((pt (μ 7) L u).2.2 = false → (pt (μ 7) L u).1.length ≤ L ∧ m 45 1 = nI (pt (μ 7) L u).1.length ∧ ∀ i, i < (pt (μ 7) L u).1.length → m 46 i = (pt (μ 7) L u).1.getD i 0) := by
  have big := jz_ge
  have e : jdf_min (nI L) 50 = nI L := by
    unfold jdf_min
    rw [show (50 : Int32) = nI 50 from rfl]
    by_cases q : nI 50 < nI L
    · rw [nz_lt (by omega) (by omega)] at q; omega
    · rw [if_neg q]
  have k : (nI L).toNatClampNeg = L := nz_clamp (by omega)
  have z2 : (0 : Int32).toNatClampNeg = 0 := by decide
  unfold ref_read
  simp only [e, ju_self, Option.bind_some]
  rw [if_pos (cg_ok hL (by omega)), k, z2]
  obtain ⟨A, hA⟩ : ∃ A, A = jj_uc (jj_u μ 45 3 (nI L)) 47 (va_cpy (jj_u μ 45 3 (nI L) 7) (jj_u μ 45 3 (nI L) 47) 0 0 L) := ⟨_, rfl⟩
  obtain ⟨M, hM⟩ : ∃ M, M = jj_u (jj_u (jj_u (jj_u (jj_u A 45 4 (nI u)) 45 5 0) 45 6 0) 45 1 0) 45 7 0 := ⟨_, rfl⟩
  rw [← hA, ← hM]
  have A47 : ∀ i, i < L → A 47 i = μ 7 i := fun i hi => by rw [hA, juc_eq, cpy0, if_pos hi, ju_ne (by decide)]
  have A3 : A 45 3 = nI L := by rw [hA, juc_ne (by decide), ju_self]
  have M47 : ∀ i, i < L → M 47 i = μ 7 i := fun i hi => by
    rw [hM, ju_ne (by decide), ju_ne (by decide), ju_ne (by decide), ju_ne (by decide), ju_ne (by decide)]
    exact A47 i hi
  have M3 : M 45 3 = nI L := by
    rw [hM, ju_other (by decide), ju_other (by decide), ju_other (by decide), ju_other (by decide), ju_other (by decide)]
    exact A3
  have M4 : M 45 4 = nI u := by rw [hM, ju_other (by decide), ju_other (by decide), ju_other (by decide), ju_other (by decide), ju_self]
  have M5 : M 45 5 = nI 0 := by rw [hM, ju_other (by decide), ju_other (by decide), ju_other (by decide), ju_self]; rfl
  have M6 : M 45 6 = nI 0 := by rw [hM, ju_other (by decide), ju_other (by decide), ju_self]; rfl
  have M1 : M 45 1 = nI 0 := by rw [hM, ju_other (by decide), ju_self]; rfl
  have M7 : M 45 7 = 0 := by rw [hM, ju_self]
  have Mo : ∀ k, k ≠ 45 → k ≠ 46 → k ≠ 47 → M k = μ k := fun k h1 h2 h3 => by rw [hM, ju_ne h1, ju_ne h1, ju_ne h1, ju_ne h1, ju_ne h1, hA, juc_ne h3, ju_ne h1]
  have key : cdO 0 L 0 0 (pt (μ 7) L u) M (ref_readJoined_G jz_N 0 M) := by
    have q := (cd_all (N := jz_N) (by omega) (L := L) (u := u) (T := μ 7) hL hu 50).2 0 0 64 (by omega) (by omega) (by omega) (by omega) 0 0 M (by omega) (by omega) ⟨M3, M4, M47⟩ M5 M6 M7 M1
    unfold pt ref_readJoined_G
    exact q
  obtain ⟨m, f1, f2, f3, f4, f5, f6, f7, f8⟩ := key
  rw [f1, Option.bind_some]
  refine ⟨m, ?_, fun k h1 h2 h3 => by rw [f2.1 k h1 h2, Mo k h1 h2 h3], f5, fun e => ?_⟩
  · cases e : (pt (μ 7) L u).2.2 with
    | true =>
      rw [if_neg (f8 e), if_neg (fun x => by cases x.1), f3]
    | false =>
      rw [if_pos (f7 e).1, f3, f2.2.1, M3]
      by_cases q : (pt (μ 7) L u).2.1 = L
      · rw [if_pos (by rw [q]; exact Int32.le_refl _), if_pos ⟨rfl, q⟩]
      · rw [if_neg (by rw [nz_le (by omega) (by omega)]; omega), if_neg (fun x => q x.2)]
  · obtain ⟨_, _, g3, g4, g5⟩ := f7 e
    refine ⟨by omega, by rw [Nat.zero_add] at g4; exact g4, fun i hi => ?_⟩
    have := g5.2 i hi
    rwa [Nat.zero_add] at this
theorem read_m {μ : jj_M} {L u : Nat} (hL : L ≤ 50) (hu : u < 2) : ∃ v m, mdf_readsText jz_N 181 (nI L) (nI u) 0 0 0 μ = some (v, m) ∧ jTh μ m ∧ m 60 7 = nI (pt (fun i => μ 61 (181 + i)) L u).2.1 ∧ m 60 13 = (if (pt (fun i => μ 61 (181 + i)) L u).2.2 = false ∧ (pt (fun i => μ 61 (181 + i)) L u).2.1 = L then 0 else 1) := by
  have big := jz_ge
  unfold mdf_readsText
  simp only [Option.bind_some]
  obtain ⟨M, hM⟩ : ∃ M, M = jj_u (jj_u (jj_u (jj_u (jj_u (jj_u (jj_u (jj_u (jj_u μ 60 5 181) 60 6 (nI L)) 60 7 0) 60 8 0) 60 9 (nI u)) 60 10 0) 60 11 0) 60 12 0) 60 13 0 := ⟨_, rfl⟩
  rw [← hM]
  have M61 : M 61 = μ 61 := by rw [hM]; iterate 9 rw [ju_ne (by decide)]
  have th : jTh μ M := by
    rw [hM]
    exact ((((((((jTh.rf.u60 (by omega) (by omega)).u60 (by omega) (by omega)).u60 (by omega) (by omega)).u60 (by omega) (by omega)).u60 (by omega) (by omega)).u60 (by omega) (by omega)).u60 (by omega) (by omega)).u60 (by omega) (by omega)).u60 (by omega) (by omega)
  have f5 : M 60 5 = nI 181 := by rw [hM]; iterate 8 rw [ju_other (by decide)]
                                  exact ju_self
  have f6 : M 60 6 = nI L := by rw [hM]; iterate 7 rw [ju_other (by decide)]
                                exact ju_self
  have f7 : M 60 7 = nI 0 := by rw [hM]; iterate 6 rw [ju_other (by decide)]
                                exact ju_self
  have f8 : M 60 8 = nI 0 := by rw [hM]; iterate 5 rw [ju_other (by decide)]
                                exact ju_self
  have f9 : M 60 9 = nI u := by rw [hM]; iterate 4 rw [ju_other (by decide)]
                                exact ju_self
  have f10 : M 60 10 = 0 := by rw [hM]; iterate 3 rw [ju_other (by decide)]
                               exact ju_self
  have f11 : M 60 11 = 0 := by rw [hM]; iterate 2 rw [ju_other (by decide)]
                               exact ju_self
  have f12 : M 60 12 = 0 := by rw [hM, ju_other (by decide)]; exact ju_self
  have f13 : M 60 13 = 0 := by rw [hM]; exact ju_self
  have key : rdO 0 0 0 0 L 0 (pt (fun i => μ 61 (181 + i)) L u) M (mdf_any_G jz_N M) := by
    have q := rd_all (N := jz_N) (a := 0) (b := 0) (c := 0) (by omega) (B := 181) (L := L) (u := u) (T := fun i => μ 61 (181 + i)) (by omega) hL hu 50 0 0 (by omega) (by omega) (by omega) 0 M (by omega) ⟨f5, f6, f9, f10, f11, f12, fun i _ => by rw [M61]⟩ f7 f8 f13
    unfold pt mdf_any_G
    exact q
  obtain ⟨v, m, r1, r2, r3, r4, r5, r6, r7⟩ := key
  have m6 : m 60 6 = nI L := by rw [r2.2 6 (by omega) (by omega) (by omega)]; exact f6
  have T2 := th.tr r2.th
  rw [r1, Option.bind_some]
  simp only []
  cases e : (pt (fun i => μ 61 (181 + i)) L u).2.2 with
  | true =>
    rw [if_neg (r7 e)]
    exact ⟨v, _, rfl, T2.u60 (by omega) (by omega), by rw [ju_other (by decide)]; exact r3, by rw [ju_self, if_neg (fun x => by cases x.1)]⟩
  | false =>
    rw [if_pos (r6 e).1, m6, r3]
    by_cases q : (pt (fun i => μ 61 (181 + i)) L u).2.1 = L
    · rw [if_pos (by rw [q]; exact Int32.le_refl _)]
      exact ⟨v, _, rfl, T2.u60 (by omega) (by omega), by rw [ju_other (by decide)]; exact r3, by rw [ju_self, if_pos ⟨rfl, q⟩]⟩
    · rw [if_neg (by rw [nz_le (by omega) (by omega)]; omega)]
      exact ⟨v, _, rfl, T2.u60 (by omega) (by omega), by rw [ju_other (by decide)]; exact r3, by rw [ju_self, if_neg (fun x => q x.2)]⟩
theorem copy_m (N : Nat) {L u : Nat} (hL : L ≤ 50) (hu : u < 2) : ∀ (k i f : Nat) (μ : jj_M), i + k = L → k < f → μ 61 177 = nI L → ∃ m, mdf_text_L46 N (nI u) f (nI i) μ = mdf_text_B107 N m ∧ (∀ a, a ≠ 61 → m a = μ a) ∧ ∀ b, m 61 b = if b = 179 + u then nI L else if 231 + 50 * u + i ≤ b ∧ b < 231 + 50 * u + L then μ 61 (181 + (b - (231 + 50 * u))) else μ 61 b := by
  intro k
  have e179 : (179 : Int32) + nI u = nI (179 + u) := by rw [show (179 : Int32) = nI 179 from rfl, nz_add]
  have g179 : jj_i (nI (179 + u)) 351 := nz_in (by omega) (by omega)
  have k179 : (nI (179 + u)).toNatClampNeg = 179 + u := nz_clamp (by omega)
  induction k with
  | zero =>
    intro i f μ hi hf e
    obtain ⟨f, rfl⟩ : ∃ m, f = m + 1 := ⟨f - 1, by omega⟩
    have ei : i = L := by omega
    subst ei
    refine ⟨jj_u μ 61 (179 + u) (nI i), ?_, fun a ha => ju_ne ha, fun b => ?_⟩
    · rw [mdf_text_L46, e, if_pos (Int32.le_refl _)]
      simp only [e179, eq_true g179, k179, ↓reduceIte]
    · by_cases q : b = 179 + u
      · rw [if_pos q, q, ju_self]
      · rw [if_neg q, ju_other q, if_neg (by omega)]
  | succ k ih =>
    intro i f μ hi hf e
    obtain ⟨f, rfl⟩ : ∃ m, f = m + 1 := ⟨f - 1, by omega⟩
    have c : ¬ nI L ≤ nI i := by rw [nz_le (by omega) (by omega)]; omega
    have e1 : (181 : Int32) + nI i = nI (181 + i) := by rw [show (181 : Int32) = nI 181 from rfl, nz_add]
    have e2 : (231 : Int32) + 50 * nI u + nI i = nI (231 + 50 * u + i) := by rw [show (231 : Int32) = nI 231 from rfl, show (50 : Int32) = nI 50 from rfl, nz_mul, nz_add, nz_add]
    have g1 : jj_i (nI (181 + i)) 351 := nz_in (by omega) (by omega)
    have g2 : jj_i (nI (231 + 50 * u + i)) 351 := nz_in (by omega) (by omega)
    have k1 : (nI (181 + i)).toNatClampNeg = 181 + i := nz_clamp (by omega)
    have k2 : (nI (231 + 50 * u + i)).toNatClampNeg = 231 + 50 * u + i := nz_clamp (by omega)
    obtain ⟨m, m1, m2, m3⟩ := ih (i + 1) f (jj_u μ 61 (231 + 50 * u + i) (μ 61 (181 + i))) (by omega) (by omega) (by rw [ju_other (by omega)]; exact e)
    refine ⟨m, ?_, fun a ha => by rw [m2 a ha, ju_ne ha], fun b => ?_⟩
    · rw [mdf_text_L46, e, if_neg c]
      simp only [e1, e2, eq_true g1, eq_true g2, k1, k2, ↓reduceIte, Option.bind_some, nz_s]
      exact m1
    · rw [m3 b]
      by_cases q : b = 179 + u
      · rw [if_pos q, if_pos q]
      · rw [if_neg q, if_neg q]
        by_cases r : 231 + 50 * u + (i + 1) ≤ b ∧ b < 231 + 50 * u + L
        · rw [if_pos r, if_pos (by omega), ju_other (by omega)]
        · rw [if_neg r]
          by_cases s : b = 231 + 50 * u + i
          · rw [s, ju_self, if_pos (by omega)]
            congr 1
            omega
          · rw [ju_other s, if_neg (by omega)]
theorem jS.lo {S T : Nat → Int32} (h : jS S) (e : ∀ j, j < 179 → T j = S j) : jS T := by
  obtain ⟨h1, h2, h3, h4⟩ := h
  refine ⟨fun j hj => ?_, fun a b ha hb => by rw [e _ (by omega), e _ (by omega)]; exact h2 a b ha hb, fun a ha => by rw [e _ (by omega)]; exact h3 a ha, fun p hp => ?_⟩
  · rw [e j (by omega)]; exact h1 j hj
  · rw [e 139 (by omega)] at hp
    have b := (h1 139 (by omega)).2
    have b2 : bdh 139 = 6 := by decide
    exact (h4 p hp).congr (fun j hj => e _ (by omega))
/-- a law anew on both sides, and the tape empty -/
theorem jI.newLaw {μ b : jj_M} (h : jI μ) {L u : Nat} (hL : L ≤ 50) (hu : u < 2) (e7 : ∀ i, i < L → μ 7 i = μ 61 (181 + i)) (ok : (pt (μ 7) L u).2.2 = false ∧ (pt (μ 7) L u).2.1 = L) (hl : (pt (μ 7) L u).1.length ≤ L)
    (b1 : ∀ k, 2 ≤ k → k < 15 → b k = μ k) (b0 : b 1 = jj_u μ 1 11 0 1) (bu : b (15 + 3 * u) 1 = nI (pt (μ 7) L u).1.length ∧ b (15 + 3 * u) 2 = nI u ∧ ∀ i, i < (pt (μ 7) L u).1.length → b (16 + 3 * u) i = (pt (μ 7) L u).1.getD i 0)
    (bo : ∀ k, (k = 15 ∨ k = 16 ∨ k = 18 ∨ k = 19) → k ≠ 15 + 3 * u → k ≠ 16 + 3 * u → b k = μ k)
    (bt : ∀ k, (k = 0 ∨ (20 < k ∧ k ≠ 61)) → ¬ jFree k → k ≠ 60 → b k = μ k) (b60 : ∀ j, (j < 5 ∨ 14 ≤ j) → b 60 j = μ 60 j)
    (b61 : ∀ j, b 61 j = if j = 177 then 0 else if j = 179 + u then nI L else if 231 + 50 * u ≤ j ∧ j < 231 + 50 * u + L then μ 61 (181 + (j - (231 + 50 * u))) else μ 61 j) : jI b := by
  haveI : ∀ k, Decidable (jFree k) := fun k => by unfold jFree; infer_instance
  obtain ⟨Y, hY⟩ : ∃ Y : jj_M, Y = fun k => if jFree k ∨ k = 60 then μ k else b k := ⟨_, rfl⟩
  have Yf : ∀ k, (jFree k ∨ k = 60) → Y k = μ k := fun k q => by rw [hY]; exact if_pos q
  have Yb : ∀ k, ¬ jFree k → k ≠ 60 → Y k = b k := fun k q1 q2 => by rw [hY]; exact if_neg (fun x => x.elim q1 q2)
  have ub : ∀ k, (1 ≤ k ∧ k < 17) ∨ k = 18 ∨ k = 19 ∨ k = 61 → Y k = b k := fun k hk => Yb k (by unfold jFree; omega) (by omega)
  have e61 : Y 61 = b 61 := ub 61 (by omega)
  have S1 : jS (upd (μ 61) 177 0) := h.S.up (by omega) (fun _ => by decide)
  have SY : jS (b 61) := S1.lo (fun j hj => by
    rw [b61 j]
    by_cases q : j = 177
    · rw [if_pos q, q, upd_s]
    · rw [if_neg q, if_neg (by omega), if_neg (by omega), upd_n q])
  have A0 := h.agw.wr (j := 177) (v := 0) ⟨by unfold dm; omega, by omega, fun _ _ _ => by omega⟩
  have A0 : agC (upd (μ 61) 177 0) (jj_u μ 1 11 0) := A0
  have rowb : ∀ k, 1 ≤ k → k < 15 → b k = jj_u μ 1 11 0 k := fun k h1 h2 => by
    by_cases q : k = 1
    · rw [q]; exact b0
    · rw [b1 k (by omega) h2, ju_ne q]
  have lawOther : ∀ u', u' < 2 → u' ≠ u → jLaw (b 61) (b (15 + 3 * u')) (b (16 + 3 * u')) u' := by
    intro u' hu' ne
    have h0 : jLaw (μ 61) (μ (15 + 3 * u')) (μ (16 + 3 * u')) u' := by
      rcases (by omega : u' = 0 ∨ u' = 1) with rfl | rfl
      · exact h.w.2.2.1
      · exact h.w.2.2.2.1
    refine h0.keep (by rw [bo _ (by omega) (by omega) (by omega)]) (by rw [bo _ (by omega) (by omega) (by omega)]) (fun i _ => by rw [bo _ (by omega) (by omega) (by omega)]) ?_ (fun i hi => ?_)
    · rw [b61, if_neg (by omega), if_neg (by omega), if_neg (by omega)]
    · rw [b61, if_neg (by omega), if_neg (by omega), if_neg (by omega)]
  have lawNew : jLaw (b 61) (b (15 + 3 * u)) (b (16 + 3 * u)) u := by
    have eq : pt (fun i => b 61 (231 + 50 * u + i)) L u = pt (μ 7) L u := pt_congr (fun i hi => by
      rw [b61, if_neg (by omega), if_neg (by omega), if_pos (by omega), e7 i hi]
      congr 1
      omega)
    have pos : 1 ≤ (pt (μ 7) L u).1.length := by
      obtain ⟨v, ev⟩ := pj_one (ph (μ 7) L) u 0 0 0 50 0 0 0 (by omega) ok.1 []
      have ev : (pt (μ 7) L u).1.foldl (estep 0 0 0) [] = [v] := ev
      cases z : (pt (μ 7) L u).1 with
      | nil => rw [z] at ev; cases ev
      | cons x l => rw [List.length_cons]; omega
    refine ⟨bu.2.1, Or.inr ⟨L, by omega, hL, ?_, ?_, ?_, ?_, ?_, ?_, ?_⟩⟩
    · rw [b61, if_neg (by omega), if_pos rfl]
    · rw [eq]; exact ok.1
    · rw [eq]; exact ok.2
    · rw [eq]; exact pos
    · rw [eq]; omega
    · rw [eq]; exact bu.1
    · rw [eq]; exact bu.2.2
  have law : ∀ u', u' < 2 → jLaw (b 61) (b (15 + 3 * u')) (b (16 + 3 * u')) u' := fun u' hu' => by
    by_cases q : u' = u
    · subst q; exact lawNew
    · exact lawOther u' hu' q
  have IY : jI Y := by
    refine h.world ⟨by rw [e61]; exact SY, ?_, ?_, ?_, ?_⟩ (fun k hk => ?_)
    · intro j hj
      rw [e61] at hj ⊢
      have r := lc_r (w := 1) hj.1
      have hj' : dn (upd (μ 61) 177 0) j := ⟨hj.1, fun a b' => by
        have := hj.2 a b'
        rwa [b61, if_neg (by omega), if_neg (by omega), if_neg (by omega), ← upd_n (f := μ 61) (k := 177) (x := 0) (show (139 : Nat) ≠ 177 by decide)] at this⟩
      rw [ub _ (by omega), rowb _ (by omega) (by omega), A0.1 j hj', b61]
      have dj := hj.1
      unfold dm at dj
      by_cases q : j = 177
      · rw [if_pos q, q, upd_s]
      · rw [if_neg q, if_neg (by omega), if_neg (by omega), upd_n q]
    · rw [e61, ub 15 (by omega), ub 16 (by omega)]
      exact law 0 (by omega)
    · rw [e61, ub 18 (by omega), ub 19 (by omega)]
      exact law 1 (by omega)
    · intro p hp
      rw [ub _ (by omega), b1 _ (by omega) (by omega)]
      exact h.w.2.2.2.2 p hp
    · by_cases q : jFree k ∨ k = 60
      · exact Yf k q
      · rw [Yb k (fun x => q (Or.inl x)) (fun x => q (Or.inr x))]
        exact bt k hk (fun x => q (Or.inl x)) (fun x => q (Or.inr x))
  refine jTh.I ⟨fun k h1 h2 => (Yb k h1 h2).symm, fun j hj => ?_⟩ IY
  rw [b60 j hj, Yf 60 (Or.inr rfl)]
set_option maxHeartbeats 1000000 in
theorem st_text {μ : jj_M} (h : jI μ) (x1 : Int32) : ∃ (r : Int32) (μ1 : jj_M) (μ2 : jj_M), wnf_text jz_N x1 μ = some (r, μ1) ∧ mdf_text jz_N x1 μ1 = some (r, μ2) ∧ jI μ2 := by
  have big := jz_ge
  unfold wnf_text mdf_text
  rw [show wnf_isUse x1 = wnf_within x1 0 1 from rfl, show mdf_in (Int32.toInt64 x1) 0 1 = wnf_within x1 0 1 from nz_within x1 0 1]
  by_cases c1 : wnf_within x1 0 1 = 0
  · obtain ⟨m1, m2, a, b, c⟩ := err1 h
    exact ⟨-1000000001, m1, m2, by simp only [c1, a, ↓reduceIte, Option.bind_some], by simp only [c1, b, ↓reduceIte, Option.bind_some], c⟩
  have hb := w_b c1
  have z0 : (0 : Int32).toInt = 0 := by decide
  have z1 : (1 : Int32).toInt = 1 := by decide
  obtain ⟨u, hu, rfl⟩ := nz_ofb (x := x1) (n := 2) (by omega) (by omega)
  have g2 : jj_i (nI u) 2 := nz_in (by omega) (by omega)
  have ku : (nI u).toNatClampNeg = u := nz_clamp (by omega)
  have bl := h.S.1 177 (by omega)
  rw [show bdh 177 = 50 by decide] at bl
  obtain ⟨L, hL, eL⟩ := nz_ofb (x := μ 61 177) (n := 51) (by omega) (by omega)
  have eL1 : μ 1 11 = nI L := (h.ag (j := 177) (by omega)).trans eL
  have e7 : ∀ i, i < L → μ 7 i = μ 61 (181 + i) := by
    intro i hi
    have := h.w.2.1 (181 + i) ⟨by unfold dm; omega, fun a b => by omega⟩
    have l1 : lc 1 (181 + i) = 7 := by
      unfold lc
      rw [if_neg (by omega), if_neg (by omega), if_neg (by omega), if_neg (by omega), if_neg (by omega), if_neg (by omega), if_pos (by omega)]
    have l2 : li (181 + i) = i := by
      unfold li
      rw [if_neg (by omega), if_neg (by omega), if_neg (by omega), if_neg (by omega), if_neg (by omega), if_neg (by omega), if_neg (by omega), if_neg (by omega), if_neg (by omega), if_neg (by omega), if_neg (by omega), if_pos (by omega)]
      omega
    rwa [l1, l2] at this
  have ept : pt (fun i => μ 61 (181 + i)) L u = pt (μ 7) L u := pt_congr (fun i hi => (e7 i hi).symm)
  obtain ⟨A, A1, A2, A3, A4⟩ := read_c (μ := μ) (L := L) (u := u) (by omega) hu
  have A61 : A 61 = μ 61 := A2 61 (by decide) (by decide) (by decide)
  by_cases ok : (pt (μ 7) L u).2.2 = false ∧ (pt (μ 7) L u).2.1 = L
  · rw [if_pos ok] at A1
    obtain ⟨l1, l2, l3⟩ := A4 ok.1
    obtain ⟨B, B1, B2, B3, B4, B5⟩ := law_cp (15 + 3 * u) 45 (by omega) (by omega) (by omega) (L := (pt (μ 7) L u).1.length) (by omega) (jj_u A 1 11 0)
    have B61 : B 61 = μ 61 := by rw [B2 61 (by omega) (by omega), ju_ne (by decide), A61]
    obtain ⟨v, C, C1, C2, C3, C4⟩ := read_m (μ := B) (L := L) (u := u) (by omega) hu
    rw [B61, ept, if_pos ok] at C4
    have C61 : C 61 = μ 61 := C2.r61.trans B61
    obtain ⟨D, D1, D2, D3⟩ := copy_m jz_N (L := L) (u := u) (by omega) hu L 0 jz_N C (by omega) (by omega) (by rw [C61]; exact eL)
    refine ⟨1, B, jj_u D 61 177 0, ?_, ?_, ?_⟩
    · have d15 : 6 + 9 + 3 * u = 15 + 3 * u := by omega
      have a45 : jj_u A 1 11 0 45 1 = nI (pt (μ 7) L u).1.length := by rw [ju_ne (by decide)]; exact l2
      have B1 : laf_take (15 + 3 * u) 46 50 (nI (pt (μ 7) L u).1.length) (jj_u A 1 11 0) = some B := B1
      simp only [c1, eL1, A1, ↓reduceIte, Option.bind_some]
      rw [if_pos (show (-1 : Int32) < 0 by decide), if_pos g2]
      simp only [ku, d15, a45, B1, Option.bind_some]
    · have D1 : mdf_text_L46 jz_N (nI u) jz_N 0 C = mdf_text_B107 jz_N D := D1
      simp only [c1, B61, eL, C1, C4, D1, ↓reduceIte, Option.bind_some]
      unfold mdf_text_B107
      rw [if_pos]
      rw [ju_ne (by decide), D2 60 (by decide)]
      exact C4
    · refine h.newLaw (L := L) (u := u) (by omega) hu e7 ok l1 ?_ ?_ ?_ ?_ ?_ ?_ ?_
      · intro k h1 h2
        rw [ju_ne (by omega), D2 k (by omega), C2.row (by unfold jFree; omega) (by omega), B2 k (by omega) (by omega), ju_ne (by omega), A2 k (by omega) (by omega) (by omega)]
      · rw [ju_ne (by decide), D2 1 (by decide), C2.row (by unfold jFree; omega) (by omega), B2 1 (by omega) (by omega), ju_rowS, ju_rowS, A2 1 (by omega) (by omega) (by omega)]
      · have r : ∀ k, k = 15 + 3 * u ∨ k = 16 + 3 * u → jj_u D 61 177 0 k = B k := fun k hk => by rw [ju_ne (by omega), D2 k (by omega), C2.row (by unfold jFree; omega) (by omega)]
        rw [r _ (Or.inl rfl), r _ (Or.inr rfl)]
        refine ⟨B3, ?_, fun i hi => ?_⟩
        · rw [B4, ju_ne (by omega), A2 _ (by omega) (by omega) (by omega)]
          rcases (by omega : u = 0 ∨ u = 1) with rfl | rfl
          · exact h.w.2.2.1.1
          · exact h.w.2.2.2.1.1
        · have := B5 i hi
          rw [show 16 + 3 * u = 15 + 3 * u + 1 by omega, this, show 45 + 1 = 46 from rfl, ju_ne (by decide)]
          exact l3 i hi
      · intro k hk h1 h2
        rw [ju_ne (by omega), D2 k (by omega), C2.row (by unfold jFree; omega) (by omega), B2 k h1 (by omega), ju_ne (by omega), A2 k (by omega) (by omega) (by omega)]
      · intro k hk h1 h2
        have n45 : k ≠ 45 ∧ k ≠ 46 ∧ k ≠ 47 := by unfold jFree at h1; omega
        rw [ju_ne (by omega), D2 k (by omega), C2.row h1 h2, B2 k (by omega) (by omega), ju_ne (by omega), A2 k n45.1 n45.2.1 n45.2.2]
      · intro j hj
        rw [ju_ne (by decide), D2 60 (by decide), C2.2 j hj, B2 60 (by omega) (by omega), ju_ne (by decide), A2 60 (by decide) (by decide) (by decide)]
      · intro j
        by_cases q : j = 177
        · rw [if_pos q, q, ju_self]
        · rw [if_neg q, ju_other q, D3 j, C61, Nat.add_zero]
  · rw [if_neg ok] at A1
    obtain ⟨v, C, C1, C2, C3, C4⟩ := read_m (μ := jj_u A 1 11 0) (L := L) (u := u) (by omega) hu
    have e61 : jj_u A 1 11 0 61 = μ 61 := by rw [ju_ne (by decide), A61]
    rw [e61, ept] at C3 C4
    rw [if_neg ok] at C4
    have o : ¬ (1 : Int32) = 0 := by decide
    have ng : ¬ nI (pt (μ 7) L u).2.1 < 0 := by rw [show (0 : Int32) = nI 0 from rfl, nz_lt (by omega) (by omega)]; omega
    refine ⟨-10 - nI (pt (μ 7) L u).2.1, jj_u A 1 11 0, jj_u C 61 177 0, ?_, ?_, ?_⟩
    · simp only [c1, eL1, A1, ng, ↓reduceIte, Option.bind_some]
    · simp only [c1, e61, eL, C1, C4, o, ↓reduceIte, Option.bind_some]
      unfold mdf_text_B107
      rw [ju_ne (show (60 : Nat) ≠ 61 by decide), C4, C3, if_neg o]
    · have hw := h.wr (j := 177) (v := 0) (by unfold dm; omega) (by omega) (h.S.up (by omega) (fun _ => by decide))
      have hw : jI (jj_u (jj_u μ 1 11 0) 61 177 0) := hw
      refine jTh.I ⟨fun k h1 h2 => ?_, fun j hj => ?_⟩ hw
      · have n45 : k ≠ 45 ∧ k ≠ 46 ∧ k ≠ 47 := by unfold jFree at h1; omega
        by_cases q : k = 61
        · subst q
          rw [ju_rowS, ju_rowS, C2.r61, ju_ne (by decide), ju_ne (by decide), A61]
        · rw [ju_ne q, ju_ne q, C2.row h1 h2]
          by_cases q1 : k = 1
          · subst q1
            rw [ju_rowS, ju_rowS, A2 1 (by decide) (by decide) (by decide)]
          · rw [ju_ne q1, ju_ne q1, A2 k n45.1 n45.2.1 n45.2.2]
      · rw [ju_ne (by decide), C2.2 j hj, ju_ne (by decide), A2 60 (by decide) (by decide) (by decide), ju_ne (by decide), ju_ne (by decide)]
