/-! ===== writes around a thought ===== -/
theorem cw_row : ∀ (L : List (Nat × Int32)) (μ ν : jj_M) (k : Nat), μ k = ν k → cw L μ k = cw L ν k := by
  intro L
  induction L with
  | nil => intro μ ν k h; exact h
  | cons q L ih =>
    intro μ ν k h
    refine ih (jj_u μ (lc 1 q.1) (li q.1) q.2) (jj_u ν (lc 1 q.1) (li q.1) q.2) k ?_
    by_cases e : k = lc 1 q.1
    · rw [e, ju_rowS, ju_rowS, ← e, h]
    · rw [ju_ne e, ju_ne e, h]
theorem cw_out : ∀ (L : List (Nat × Int32)) (μ : jj_M) (k : Nat), (∀ q ∈ L, dm q.1) → ¬ (1 ≤ k ∧ k < 15) → cw L μ k = μ k := by
  intro L
  induction L with
  | nil => intro μ k _ _; rfl
  | cons q L ih =>
    intro μ k h hk
    show cw L (jj_u μ (lc 1 q.1) (li q.1) q.2) k = μ k
    have r := lc_r (w := 1) (h q List.mem_cons_self)
    rw [ih _ _ (fun x hx => h x (List.mem_cons_of_mem _ hx)) hk, ju_ne (by omega)]
theorem mw_out : ∀ (L : List (Nat × Int32)) (μ : jj_M) (k : Nat), k ≠ 61 → mw L μ k = μ k := by
  intro L
  induction L with
  | nil => intro μ k _; rfl
  | cons q L ih =>
    intro μ k hk
    show mw L (jj_u μ 61 q.1 q.2) k = μ k
    rw [ih _ _ hk, ju_ne hk]
/-- a thought behind writes is a thought ahead of them -/
theorem cw_th {L : List (Nat × Int32)} {μ m : jj_M} (hL : ∀ q ∈ L, dm q.1) (t : jTh (cw L μ) m) : ∃ B, jTh μ B ∧ m = cw L B := by
  haveI : ∀ k, Decidable (jFree k) := fun k => by unfold jFree; infer_instance
  refine ⟨fun k => if jFree k ∨ k = 60 then m k else μ k, ⟨fun k h1 h2 => ?_, fun j hj => ?_⟩, ?_⟩
  · show (if jFree k ∨ k = 60 then m k else μ k) = μ k
    rw [if_neg (fun e => e.elim h1 h2)]
  · show (if jFree 60 ∨ 60 = 60 then m 60 else μ 60) j = μ 60 j
    rw [if_pos (Or.inr rfl), t.2 j hj, cw_out L μ 60 hL (by omega)]
  · funext k
    by_cases q : jFree k ∨ k = 60
    · rw [cw_out L _ k hL (by unfold jFree at q; omega)]
      show m k = if jFree k ∨ k = 60 then m k else μ k
      rw [if_pos q]
    · rw [t.1 k (fun e => q (Or.inl e)) (fun e => q (Or.inr e))]
      refine cw_row L μ _ k ?_
      show μ k = if jFree k ∨ k = 60 then m k else μ k
      rw [if_neg q]
theorem act_J {μ m : jj_M} {L : List (Nat × Int32)} (h : jI μ) (hL : ∀ q ∈ L, jok q.1 q.2) (t : jTh (cw L μ) m) : jJ (mw L m) := by
  obtain ⟨B, b1, b2⟩ := cw_th (fun q hq => (hL q hq).1) t
  rw [b2]
  exact jJ.list L B hL (b1.I h).J
/-! texts asked at a state whose laws are those of another one -/
theorem needs_m2 {μ : jj_M} {F C : Nat → Int32} (hl : jLaw (μ 61) F C 0) {p : Nat} (hp : p < 6) (x : Int32) : ∃ m, mdf_needsOf jz_N (nI p) x μ = some (needv (μ 61) p x, m) ∧ jTh μ m := by
  have t0 : mdf_its (nI p) 0 μ = some (μ 61 (140 + 6 * p)) := its_ok (p := p) (j := 0) hp (by omega)
  have t1 : mdf_its (nI p) 1 μ = some (μ 61 (140 + 6 * p + 1)) := its_ok (p := p) (j := 1) hp (by omega)
  obtain ⟨m, m1, m2⟩ := gives_m any_N hl (by omega) (μ 61 (140 + 6 * p + 1)) x (μ 61 138)
  rw [if_pos rfl] at m1
  unfold mdf_needsOf needv
  rw [t1, Option.bind_some, t0, Option.bind_some, m1]
  by_cases q : μ 61 (140 + 6 * p) = 3
  · rw [if_pos q, if_pos q]; exact ⟨m, rfl, m2⟩
  rw [if_neg q, if_neg q]
  by_cases q : μ 61 (140 + 6 * p) = 6
  · rw [if_pos q, if_pos q]; exact ⟨m, rfl, m2⟩
  rw [if_neg q, if_neg q]
  exact ⟨μ, rfl, jTh.rf⟩
theorem thirstBy_m2 {μ : jj_M} {F C : Nat → Int32} (hl : jLaw (μ 61) F C 1) {p : Nat} (hp : p < 6) (x : Int32) : ∃ m, mdf_thirstBy jz_N (nI p) x μ = some (parv (μ 61) p x, m) ∧ jTh μ m := by
  have t1 : mdf_its (nI p) 1 μ = some (μ 61 (140 + 6 * p + 1)) := its_ok (p := p) (j := 1) hp (by omega)
  obtain ⟨m, m1, m2⟩ := gives_m any_N hl (by omega) x (μ 61 (140 + 6 * p + 1)) (μ 61 138)
  rw [if_neg (by decide)] at m1
  unfold mdf_thirstBy parv
  rw [t1, Option.bind_some, m1]
  exact ⟨m, rfl, m2⟩
theorem parched_s {S : Nat → Int32} {ν : jj_M} (hl : jLaw S (ν 18) (ν 19) 1) (q : Nat) (x : Int32) : ∃ m, wof_parched jz_N 1 q x ν = some (lawv S 1 x (ν q 1) (ν 1 10), m) ∧ ∀ k, k ≠ 20 → m k = ν k := by
  obtain ⟨m, m1, m2⟩ := gives_ok (p0 := 18) hl (by omega) x (ν q 1) (ν 1 10)
  refine ⟨m, ?_, m2⟩
  unfold wof_parched
  rw [show 1 + 5 + 12 = 18 from rfl, m1]
  rfl
/-! drink -/
def callv (S : Nat → Int32) (p : Nat) (w : Int32) : Int32 := if S (140 + 6 * p) = 3 then (if S 137 - S 137 / 2 * 2 = 0 then w else S (140 + 6 * p + 3)) else if S (140 + 6 * p) = 4 then (if 0 ≤ S (140 + 6 * p + 3) then S (140 + 6 * p + 3) else w) else if S (140 + 6 * p) = 5 then (if S (140 + 6 * p + 3) = w then -1 else w) else if S (140 + 6 * p) = 6 then (if S 137 - S 137 / 2 * 2 = 0 then w else S (140 + 6 * p + 3)) else w
theorem called_m {μ : jj_M} {p : Nat} (hp : p < 6) (w : Int32) : mdf_calledOf (nI p) w μ = some (callv (μ 61) p w) := by
  have t0 : mdf_its (nI p) 0 μ = some (μ 61 (140 + 6 * p)) := its_ok (p := p) (j := 0) hp (by omega)
  have t3 : mdf_its (nI p) 3 μ = some (μ 61 (140 + 6 * p + 3)) := its_ok (p := p) (j := 3) hp (by omega)
  unfold mdf_calledOf callv
  rw [t3, Option.bind_some, t0, Option.bind_some]
  repeat' split
  all_goals rfl
theorem called_c {μ : jj_M} {S : Nat → Int32} {p q : Nat} (P : jPer S p) (e0 : μ q 0 = S (140 + 6 * p)) (e2 : μ q 2 = S (140 + 6 * p + 2)) (e3 : μ q 3 = S (140 + 6 * p + 3)) : pef_called q (S 137) μ = callv S p (S (140 + 6 * p + 2)) := by
  obtain ⟨_, _, _, P4, _⟩ := P
  unfold pef_called callv
  rw [e0, e2, e3]
  have k4 : (if S (140 + 6 * p + 3) = -1 then S (140 + 6 * p + 2) else S (140 + 6 * p + 3)) = if 0 ≤ S (140 + 6 * p + 3) then S (140 + 6 * p + 3) else S (140 + 6 * p + 2) := by
    rcases P4 with z | ⟨v, hv, z⟩
    · rw [z, if_pos rfl, if_neg (by decide)]
    · rw [z, if_pos (nI_nn (by omega)), if_neg]
      intro e
      have : (nI v).toInt = -1 := by rw [e]; decide
      rw [nz_toInt (by omega)] at this
      omega
  rw [k4]
theorem callv_b {S : Nat → Int32} {p : Nat} (P : jPer S p) : callv S p (S (140 + 6 * p + 2)) = -1 ∨ ∃ a, a < 8 ∧ callv S p (S (140 + 6 * p + 2)) = nI a := by
  obtain ⟨_, _, ⟨a, ha, ea⟩, P4, _⟩ := P
  unfold callv
  rw [ea]
  have W : nI a = -1 ∨ ∃ b, b < 8 ∧ nI a = nI b := Or.inr ⟨a, ha, rfl⟩
  repeat' split
  all_goals first | exact P4 | exact W | exact Or.inl rfl
theorem callv_congr {S T : Nat → Int32} {p : Nat} (e0 : T (140 + 6 * p) = S (140 + 6 * p)) (e3 : T (140 + 6 * p + 3) = S (140 + 6 * p + 3)) (eh : T 137 = S 137) (w : Int32) : callv T p w = callv S p w := by
  unfold callv
  rw [e0, e3, eh]
set_option maxHeartbeats 1000000 in
theorem st_drink {μ : jj_M} (h : jI μ) (x1 : Int32) : ∃ (r : Int32) (μ1 : jj_M) (μ2 : jj_M), wnf_drink jz_N x1 μ = some (r, μ1) ∧ mdf_drink jz_N x1 μ1 = some (r, μ2) ∧ jI μ2 := by
  unfold wnf_drink mdf_drink
  obtain ⟨n, hn, en, en1⟩ := h.n
  obtain ⟨m1, m2, a, b, c⟩ := err1 h
  have e61 : m1 61 = μ 61 := err_61 (e := 1) (by omega) a 61 (by decide)
  have ip : ∀ m : jj_M, m 61 = μ 61 → mdf_isPerson x1 m = wnf_isPerson x1 μ := fun m e => isPer_ok hn en1 (by rw [e]; exact en) x1
  by_cases c1 : wnf_isPerson x1 μ = 0
  · exact ⟨-1000000001, m1, m2, by simp only [c1, a, ↓reduceIte, Option.bind_some], by simp only [ip m1 e61, c1, b, ↓reduceIte, Option.bind_some], c⟩
  obtain ⟨p, hp, rfl⟩ := nz_per hn en1 c1
  have P := h.per hn en hp
  have g : jj_i (nI p) 6 := nz_in (by omega) (by omega)
  have kp : (nI p).toNatClampNeg = p := nz_clamp (by omega)
  have d9 : 5 + 4 + p = 9 + p := by omega
  have t : ∀ (m : jj_M) i, i < 6 → mdf_its (nI p) (nI i) m = some (m 61 (140 + 6 * p + i)) := fun m i hi => its_ok (by omega) hi
  have t2 : ∀ m : jj_M, mdf_its (nI p) 2 m = some (m 61 (140 + 6 * p + 2)) := fun m => t m 2 (by omega)
  have t3 : ∀ m : jj_M, mdf_its (nI p) 3 m = some (m 61 (140 + 6 * p + 3)) := fun m => t m 3 (by omega)
  have t4 : ∀ m : jj_M, mdf_its (nI p) 4 m = some (m 61 (140 + 6 * p + 4)) := fun m => t m 4 (by omega)
  have t5 : ∀ m : jj_M, mdf_its (nI p) 5 m = some (m 61 (140 + 6 * p + 5)) := fun m => t m 5 (by omega)
  obtain ⟨M, k1, k2, k3, k4⟩ := needs_cm h hn en hp (μ 61 (140 + 6 * p + 4))
  have eM : M 61 = μ 61 := k3.r61
  have enM : M 61 139 = nI n := by rw [eM]; exact en
  obtain ⟨v, hv, ev⟩ := needv_b P (μ 61 (140 + 6 * p + 4))
  have a5 : M (9 + p) 5 = μ 61 (140 + 6 * p + 5) := by rw [← eM]; exact k4.pag hn enM hp (j := 5) (by omega)
  have a2 : M (9 + p) 2 = μ 61 (140 + 6 * p + 2) := by rw [← eM]; exact k4.pag hn enM hp (j := 2) (by omega)
  have b4 : μ (9 + p) 4 = μ 61 (140 + 6 * p + 4) := h.pag hn en hp (j := 4) (by omega)
  have hPd := P.dead
  have hP := P
  obtain ⟨_, _, ⟨w, hw, ew⟩, _, _⟩ := P
  obtain ⟨m3, m4, a3, b3, c3⟩ := err3 k4
  have f61 : m3 61 = μ 61 := by rw [← eM]; exact err_61 (e := 3) (by omega) a3 61 (by decide)
  have hl3 : ∀ m : jj_M, m 61 = μ 61 → ∃ m', mdf_needsOf jz_N (nI p) (μ 61 (140 + 6 * p + 4)) m = some (nI v, m') ∧ jTh m m' := by
    intro m e
    obtain ⟨m', l1, l2⟩ := needs_m2 (μ := m) (F := μ 15) (C := μ 16) (by rw [e]; exact h.w.2.2.1) (p := p) (by omega) (μ 61 (140 + 6 * p + 4))
    rw [e, ev] at l1
    exact ⟨m', l1, l2⟩
  have err : (μ 61 (140 + 6 * p + 5) = 1 ∨ ¬ nI v ≤ μ 61 w) → ∃ (r : Int32) (μ1 : jj_M) (μ2 : jj_M), wnf_drink jz_N (nI p) μ = some (r, μ1) ∧ mdf_drink jz_N (nI p) μ1 = some (r, μ2) ∧ jI μ2 := by
    intro hc
    obtain ⟨m', l1, l2⟩ := hl3 m3 f61
    have l61 : m' 61 = μ 61 := l2.r61.trans f61
    have g8 : jj_i (nI w) 8 := nz_in (by omega) (by omega)
    have k8 : (nI w).toNatClampNeg = w := nz_clamp (by omega)
    have wM : M 2 w = μ 61 w := by rw [(k4.wat hw).1, eM]
    obtain ⟨I1, I2⟩ : ∃ X, mdf_errs (-1000000003) m' = some (-1000000003, X) ∧ jI X := by
      have em3 : m3 = jj_u M 59 3 (M 59 3 + 1) := by
        rw [show wnf_refuse 3 M = _ from refuse_ok (e := 3) (by omega) M] at a3
        exact (Prod.mk.inj (Option.some.inj a3)).2.symm
      have em' : m' 64 3 = M 59 3 := by
        rw [l2.row (k := 64) (by unfold jFree; omega) (by omega), em3, ju_ne (by decide)]
        exact (k4.2.2.1 3 (by omega)).symm
      refine ⟨_, errs_ok (e := 3) (by omega) m', ?_⟩
      have e4 : m4 = jj_u m3 64 3 (m3 64 3 + 1) := by
        rw [show mdf_errs (-1000000003) m3 = _ from errs_ok (e := 3) (by omega) m3] at b3
        exact (Prod.mk.inj (Option.some.inj b3)).2.symm
      have tt : jTh m4 (jj_u m' 64 3 (m' 64 3 + 1)) := by
        rw [e4]
        have q : m' 64 3 = m3 64 3 := by rw [l2.row (k := 64) (by unfold jFree; omega) (by omega)]
        rw [q]
        refine ⟨fun k h1 h2 => ?_, fun j hj => ?_⟩
        · by_cases e : k = 64
          · subst e
            rw [ju_rowS, ju_rowS, l2.row (k := 64) (by unfold jFree; omega) (by omega)]
          · rw [ju_ne e, ju_ne e]; exact l2.1 k h1 h2
        · rw [ju_ne (by decide), ju_ne (by decide)]; exact l2.2 j hj
      exact tt.I c3
    unfold wnf_drink mdf_drink
    refine ⟨-1000000003, m3, I1, ?_, ?_, I2.2⟩
    · rw [if_neg c1, if_pos g]
      simp only [kp, d9, b4, k1, ev, Option.bind_some, a5, a2, ew, eq_true g8, k8, wM, ↓reduceIte]
      rcases hPd with d | d
      · rw [if_pos d]
        rcases hc with x | x
        · rw [d] at x; exact absurd x (by decide)
        · rw [if_neg x, a3]; rfl
      · rw [d, if_neg (by decide), a3]; rfl
    · rw [ip m3 f61, if_neg c1]
      simp only [t2, t4, t5, f61, l1, Option.bind_some, l61]
      rcases hPd with d | d
      · rw [d, if_neg (by decide), ew, show (0 : Int32) + nI w = nI w from Int32.zero_add _, if_pos (nz_in (by omega) (by omega))]
        simp only [k8]
        rcases hc with x | x
        · rw [d] at x; exact absurd x (by decide)
        · rw [if_neg x, I2.1]; rfl
      · rw [if_pos d, I2.1]; rfl
  by_cases hc : μ 61 (140 + 6 * p + 5) = 1 ∨ ¬ nI v ≤ μ 61 w
  · have := err hc
    unfold wnf_drink mdf_drink at this
    exact this
  have d0 : μ 61 (140 + 6 * p + 5) = 0 := hPd.elim id (fun x => absurd (Or.inl x) hc)
  have hle : nI v ≤ μ 61 w := Decidable.byContradiction (fun x => hc (Or.inr x))
  obtain ⟨wv, wb⟩ := h.wat hw
  have g8 : jj_i (nI w) 8 := nz_in (by omega) (by omega)
  have g351 : jj_i (nI w) 351 := nz_in (by omega) (by omega)
  have k8 : (nI w).toNatClampNeg = w := nz_clamp (by omega)
  have wM : M 2 w = μ 61 w := by rw [(k4.wat hw).1, eM]
  have hle' := hle
  rw [Int32.le_iff_toInt_le, nz_toInt (by omega)] at hle'
  have nb : jb (μ 61 w - nI v) 0 99 := by
    have e := nz_subI (x := μ 61 w) (y := nI v) (by rw [nz_toInt (by omega)]; omega) (by rw [nz_toInt (by omega)]; omega)
    rw [nz_toInt (by omega)] at e
    unfold jb
    omega
  obtain ⟨L, hLdef⟩ : ∃ L : List (Nat × Int32), L = [(w, μ 61 w - nI v), (140 + 6 * p + 4, 0), (140 + 6 * p + 3, callv (μ 61) p (nI w))] := ⟨_, rfl⟩
  have hL : ∀ q ∈ L, jok q.1 q.2 := by
    rw [hLdef]
    intro q hq
    simp only [List.mem_cons, List.not_mem_nil, or_false] at hq
    rcases hq with rfl | rfl | rfl <;> exact ⟨by unfold dm; omega, by omega, fun _ _ _ => by omega⟩
  have l1 : lc 1 w = 2 := by unfold lc; rw [if_pos hw]
  have l2 : li w = w := by unfold li; rw [if_pos hw]
  have cwM : cw L M = jj_u (jj_u (jj_u M 2 w (μ 61 w - nI v)) (9 + p) 4 0) (9 + p) 3 (callv (μ 61) p (nI w)) := by
    rw [hLdef]
    simp only [cw, List.foldl]
    rw [l1, l2, lc_p p 4 (by omega) (by omega), lc_p p 3 (by omega) (by omega), li_p p 4 (by omega) (by omega), li_p p 3 (by omega) (by omega)]
  have c61 : cw L M 61 = μ 61 := by rw [cw_out L M 61 (fun q hq => (hL q hq).1) (by omega), eM]
  obtain ⟨m', s1, s2⟩ := hl3 (cw L M) c61
  have l61 : m' 61 = μ 61 := s2.r61.trans c61
  have hJ := act_J k4 hL s2
  have mwM : mw L m' = jj_u (jj_u (jj_u m' 61 w (μ 61 w - nI v)) 61 (140 + 6 * p + 4) 0) 61 (140 + 6 * p + 3) (callv (μ 61) p (nI w)) := by
    rw [hLdef]
    rfl
  refine ⟨callv (μ 61) p (nI w), cw L M, mw L m', ?_, ?_, hJ.I ?_⟩
  · rw [if_neg c1, if_pos g]
    have ca : pef_called (9 + p) (jj_u (jj_u M 2 w (μ 61 w - nI v)) (9 + p) 4 0 1 9) (jj_u (jj_u M 2 w (μ 61 w - nI v)) (9 + p) 4 0) = callv (μ 61) p (nI w) := by
      rw [ju_ne (show (1 : Nat) ≠ 9 + p by omega), ju_ne (show (1 : Nat) ≠ 2 by omega), show M 1 9 = M 61 137 from k4.ag (j := 137) (by omega), eM, ← ew]
      have q : ∀ j, j ≠ 4 → j < 6 → jj_u (jj_u M 2 w (μ 61 w - nI v)) (9 + p) 4 0 (9 + p) j = μ 61 (140 + 6 * p + j) := fun j hj h6 => by rw [ju_other hj, ju_ne (by omega), k4.pag hn enM hp h6, eM]
      exact called_c hP (q 0 (by omega) (by omega)) (q 2 (by omega) (by omega)) (q 3 (by omega) (by omega))
    simp only [kp, d9, b4, k1, ev, Option.bind_some, a5, a2, ew, eq_true g8, k8, wM, d0, hle, ca, cwM, ju_self, ↓reduceIte]
  · rw [ip (cw L M) c61, if_neg c1]
    have s4 : mdf_spot (nI p) 4 = nI (140 + 6 * p + 4) := spot_ok p 4
    have s3 : mdf_spot (nI p) 3 = nI (140 + 6 * p + 3) := spot_ok p 3
    have g4 : jj_i (nI (140 + 6 * p + 4)) 351 := nz_in (by omega) (by omega)
    have g3 : jj_i (nI (140 + 6 * p + 3)) 351 := nz_in (by omega) (by omega)
    have n4 : (nI (140 + 6 * p + 4)).toNatClampNeg = 140 + 6 * p + 4 := nz_clamp (by omega)
    have n3 : (nI (140 + 6 * p + 3)).toNatClampNeg = 140 + 6 * p + 3 := nz_clamp (by omega)
    have z0 : (0 : Int32) + nI w = nI w := Int32.zero_add _
    have z1 : ¬ (0 : Int32) = 1 := by decide
    have ca : callv (jj_u (jj_u m' 61 w (μ 61 w - nI v)) 61 (140 + 6 * p + 4) 0 61) p (nI w) = callv (μ 61) p (nI w) := by
      refine callv_congr ?_ ?_ ?_ _
      · rw [ju_other (by omega), ju_other (by omega), l61]
      · rw [ju_other (by omega), ju_other (by omega), l61]
      · rw [ju_other (by omega), ju_other (by omega), l61]
    simp only [t2, t4, t5, c61, s1, Option.bind_some, l61, d0, z1, ew, z0, eq_true g351, k8, hle, s4, s3, eq_true g4, eq_true g3, n4, n3, called_m (show p < 6 by omega), ca, t3, ju_self, mwM, ↓reduceIte]
  · rw [mwM]
    have up := h.S.up (j := w) (v := μ 61 w - nI v) (by omega) (fun _ => by unfold bdh; rw [if_pos hw]; exact nb)
    refine up.person (p := p) (by omega) (fun b hb => ?_) (fun _ => ?_)
    · rw [ju_other (by omega), ju_other (by omega), ju_rowS, l61]
    · obtain ⟨p1, p2, p3, p4, p5⟩ := hP
      have o : ∀ j, j ≠ 3 → j ≠ 4 → jj_u (jj_u (jj_u m' 61 w (μ 61 w - nI v)) 61 (140 + 6 * p + 4) 0) 61 (140 + 6 * p + 3) (callv (μ 61) p (nI w)) 61 (140 + 6 * p + j) = μ 61 (140 + 6 * p + j) := fun j h3 h4 => by rw [ju_other (by omega), ju_other (by omega), ju_other (by omega), l61]
      refine ⟨?_, ?_, ?_, ?_, Or.inl ⟨?_, 0, by omega, ?_⟩⟩
      · rw [show 140 + 6 * p = 140 + 6 * p + 0 from rfl, o 0 (by omega) (by omega)]; exact p1
      · rw [o 1 (by omega) (by omega)]; exact p2
      · rw [o 2 (by omega) (by omega)]; exact p3
      · rw [ju_self]
        have := callv_b (h.per hn en hp)
        rw [ew] at this
        exact this
      · rw [o 5 (by omega) (by omega)]; exact d0
      · rw [ju_other (by omega), ju_self]; rfl
