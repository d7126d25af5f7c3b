/-! ===== the class's reader reads as pj does ===== -/
def cdT (μ m : jj_M) : Prop := (∀ k, k ≠ 45 → k ≠ 46 → m k = μ k) ∧ m 45 3 = μ 45 3 ∧ m 45 4 = μ 45 4
theorem cdT.rf {μ : jj_M} : cdT μ μ := ⟨fun _ _ _ => rfl, rfl, rfl⟩
theorem cdT.tr {a b c : jj_M} (h1 : cdT a b) (h2 : cdT b c) : cdT a c := ⟨fun k x y => (h2.1 k x y).trans (h1.1 k x y), h2.2.1.trans h1.2.1, h2.2.2.trans h1.2.2⟩
theorem cdT.u {μ m : jj_M} (h : cdT μ m) {j : Nat} {v : Int32} (h3 : j ≠ 3) (h4 : j ≠ 4) : cdT μ (jj_u m 45 j v) := ⟨fun a x y => (ju_ne x).trans (h.1 a x y), (ju_other (by omega)).trans h.2.1, (ju_other (by omega)).trans h.2.2⟩
theorem cdT.u6 {μ m : jj_M} (h : cdT μ m) {j : Nat} {v : Int32} : cdT μ (jj_u m 46 j v) := ⟨fun a x y => (ju_ne y).trans (h.1 a x y), (by rw [ju_ne (by decide)]; exact h.2.1), (by rw [ju_ne (by decide)]; exact h.2.2)⟩
def cdC (L u : Nat) (T : Nat → Int32) (μ : jj_M) : Prop := μ 45 3 = nI L ∧ μ 45 4 = nI u ∧ ∀ i, i < L → μ 47 i = T i
theorem cdC.t {L u : Nat} {T : Nat → Int32} {μ m : jj_M} (h : cdC L u T μ) (t : cdT μ m) : cdC L u T m := ⟨t.2.1.trans h.1, t.2.2.trans h.2.1, fun i hi => by rw [t.1 47 (by omega) (by omega)]; exact h.2.2 i hi⟩
/-- the steps emitted so far -/
def cdK (c : Nat) (l : List Int32) (μ m : jj_M) : Prop := (∀ i, i < c → m 46 i = μ 46 i) ∧ ∀ i, i < l.length → m 46 (c + i) = l.getD i 0
theorem cdK.nil {c : Nat} {μ m : jj_M} (h : m 46 = μ 46) : cdK c [] μ m := ⟨fun i _ => by rw [h], fun i hi => absurd hi (Nat.not_lt_zero i)⟩
theorem getD_app {l1 l2 : List Int32} {i : Nat} : (l1 ++ l2).getD i 0 = if i < l1.length then l1.getD i 0 else l2.getD (i - l1.length) 0 := by
  rw [List.getD_eq_getElem?_getD, List.getElem?_append]
  by_cases q : i < l1.length
  · rw [if_pos q, if_pos q, List.getD_eq_getElem?_getD]
  · rw [if_neg q, if_neg q, List.getD_eq_getElem?_getD]
theorem cdK.app {c : Nat} {l1 l2 : List Int32} {a b d : jj_M} (h1 : cdK c l1 a b) (h2 : cdK (c + l1.length) l2 b d) : cdK c (l1 ++ l2) a d := by
  refine ⟨fun i hi => (h2.1 i (by omega)).trans (h1.1 i hi), fun i hi => ?_⟩
  rw [List.length_append] at hi
  rw [getD_app]
  by_cases q : i < l1.length
  · rw [if_pos q, h2.1 (c + i) (by omega)]
    exact h1.2 i q
  · rw [if_neg q]
    have := h2.2 (i - l1.length) (by omega)
    rwa [show c + l1.length + (i - l1.length) = c + i by omega] at this
theorem cdK.row {c : Nat} {l : List Int32} {a b d : jj_M} (h : cdK c l a b) (e : d 46 = b 46) : cdK c l a d := by
  unfold cdK
  rw [e]
  exact h
theorem cdK.row0 {c : Nat} {l : List Int32} {a b d : jj_M} (h : cdK c l b d) (e : b 46 = a 46) : cdK c l a d := by
  unfold cdK at h ⊢
  rw [e] at h
  exact h
theorem next_ok {L u : Nat} {T : Nat → Int32} {μ : jj_M} (hC : cdC L u T μ) (hL : L ≤ 50) {pos : Nat} (h5 : μ 45 5 = nI pos) (hp : pos ≤ L) : ref_next μ = some (ph T L pos) := by
  unfold ref_next ph
  rw [h5, hC.1, if_neg (by rw [show (0 : Int32) = nI 0 from rfl, nz_lt (by omega) (by omega)]; omega)]
  by_cases q : pos < L
  · rw [if_neg (by rw [nz_le (by omega) (by omega)]; omega), if_pos (nz_in (by omega) (by omega)), if_pos q, nz_clamp (by omega), hC.2.2 pos q]
  · rw [if_pos (by rw [nz_le (by omega) (by omega)]; omega), if_neg q]
theorem emit_ok {μ : jj_M} {c : Nat} (hc : c < 50) (h : μ 45 1 = nI c) (x : Int32) : ref_emit x μ = some (jj_u (jj_u μ 46 c x) 45 1 (nI (c + 1))) := by
  unfold ref_emit
  have k1 : (nI c).toNatClampNeg = c := nz_clamp (by omega)
  have g : jj_i (nI c) 50 := nz_in (by omega) (by omega)
  have n : ¬ (50 : Int32) ≤ nI c := by rw [show (50 : Int32) = nI 50 from rfl, nz_le (by omega) (by omega)]; omega
  have e : jj_u μ 46 c x 45 1 = nI c := by rw [ju_ne (by decide)]; exact h
  simp only [h, n, eq_true g, k1, e, nz_s, ↓reduceIte, Option.bind_some]
theorem emit_any {μ : jj_M} {c : Nat} (hc : c ≤ 50) (h : μ 45 1 = nI c) (x : Int32) : ∃ m, ref_emit x μ = some m ∧ cdT μ m ∧ (∃ c', c' ≤ 50 ∧ m 45 1 = nI c') ∧ ∀ j, j ≠ 1 → m 45 j = μ 45 j := by
  by_cases q : c < 50
  · refine ⟨_, emit_ok q h x, (cdT.rf.u6).u (by omega) (by omega), ⟨c + 1, by omega, ju_self⟩, fun j hj => by rw [ju_other hj, ju_ne (by decide)]⟩
  · refine ⟨μ, ?_, cdT.rf, ⟨c, hc, h⟩, fun _ _ => rfl⟩
    unfold ref_emit
    rw [h, if_pos (by rw [show (50 : Int32) = nI 50 from rfl, nz_le (by omega) (by omega)]; omega)]
theorem emit_K {μ : jj_M} {c : Nat} {x v : Int32} : cdK c [x] μ (jj_u (jj_u μ 46 c x) 45 1 v) := by
  refine ⟨fun i hi => by rw [ju_ne (by decide), ju_other (by omega)], fun i hi => ?_⟩
  rw [List.length_singleton] at hi
  have e : i = 0 := by omega
  subst e
  rw [ju_ne (by decide), Nat.add_zero, ju_self]
  rfl
/-- a reading's end -/
def cdO (op L pos c : Nat) (q : pR) (μ : jj_M) (o : Option jj_M) : Prop := ∃ m, o = some m ∧ cdT μ m ∧ m 45 5 = nI q.2.1 ∧ pos ≤ q.2.1 ∧ q.2.1 ≤ L ∧ (∃ c', c' ≤ 50 ∧ m 45 1 = nI c') ∧ (q.2.2 = false → m 45 7 = 0 ∧ m 45 6 = nI op ∧ pos + q.1.length ≤ q.2.1 ∧ m 45 1 = nI (c + q.1.length) ∧ cdK c q.1 μ m) ∧ (q.2.2 = true → ¬ m 45 7 = 0)
abbrev cdG (L u : Nat) (T : Nat → Int32) (op : Nat) (P : Nat → pR) (F : jj_M → Option jj_M) : Prop := ∀ pos c μ, pos ≤ L → c ≤ pos → cdC L u T μ → μ 45 5 = nI pos → μ 45 6 = nI op → μ 45 7 = 0 → μ 45 1 = nI c → cdO op L pos c (P pos) μ (F μ)
theorem rank_ok (x : Int32) {r : Nat} (hr : r < 5) : ref_rankOf x = nI r ↔ prk x = r := by
  have key : ref_rankOf x = if prk x = 9 then -1 else nI (prk x) := by
    unfold ref_rankOf prk
    by_cases q1 : x = 37
    · subst q1; decide
    by_cases q2 : x = 38
    · subst q2; decide
    by_cases q3 : x = 42
    · subst q3; decide
    by_cases q4 : x = 43
    · subst q4; decide
    by_cases q5 : x = 45
    · subst q5; decide
    by_cases q6 : x = 47
    · subst q6; decide
    by_cases q7 : x = 60
    · subst q7; decide
    by_cases q8 : x = 61
    · subst q8; decide
    by_cases q9 : x = 62
    · subst q9; decide
    by_cases q10 : x = 124
    · subst q10; decide
    simp only [q1, q2, q3, q4, q5, q6, q7, q8, q9, q10, ↓reduceIte]
  have b : prk x ≤ 9 := by
    unfold prk
    repeat' split
    all_goals omega
  rw [key]
  by_cases q : prk x = 9
  · rw [if_pos q]
    refine ⟨fun e => ?_, fun e => by omega⟩
    have : (nI r).toInt = -1 := by rw [← e]; decide
    rw [nz_toInt (by omega)] at this
    omega
  · rw [if_neg q]
    exact ⟨fun e => nz_inj (by omega) (by omega) e, fun e => by rw [e]⟩
theorem loop_stop {N : Nat} {fs : jj_M → Option jj_M} {fj : Int32 → jj_M → Option jj_M} {x1 x2 x3 : Int32} {k : Nat} {m : jj_M} (h : ¬ m 45 7 = 0) : ref_readJoined_L31 N fs fj x1 x2 (k + 1) x3 m = some m := by
  rw [ref_readJoined_L31]
  by_cases q : x2 ≤ x3
  · rw [if_pos q]
  · rw [if_neg q, if_neg h]
theorem pch_c {L u : Nat} {T : Nat → Int32} (hL : L ≤ 50) {N r op most : Nat} (hr : r < 5) (hmost : most ≤ 50) {P : Nat → pR} {fs : jj_M → Option jj_M} {fj : Int32 → jj_M → Option jj_M} (hF : cdG L u T op P (fj (nI (r + 1)))) :
    ∀ (n i k pos0 c0 : Nat) (q : pR) (μ0 μ : jj_M), i + n = most → n + 1 < k → cdC L u T μ → cdT μ0 μ → μ 45 5 = nI q.2.1 → q.2.1 ≤ L → pos0 + q.1.length ≤ q.2.1 → c0 ≤ pos0 → q.2.2 = false → μ 45 7 = 0 → μ 45 6 = nI op → μ 45 1 = nI (c0 + q.1.length) → cdK c0 q.1 μ0 μ → cdO op L pos0 c0 (pch (ph T L) P r n q) μ0 (ref_readJoined_L31 N fs fj (nI r) (nI most) k (nI i) μ) := by
  intro n
  induction n with
  | zero =>
    intro i k pos0 c0 q μ0 μ hi hk hC hT h5 hp hp0 hc hq h7 h6 h1 hK
    obtain ⟨k, rfl⟩ : ∃ m, k = m + 1 := ⟨k - 1, by omega⟩
    have e : i = most := by omega
    subst e
    rw [pch, ref_readJoined_L31, if_pos (Int32.le_refl _)]
    exact ⟨μ, rfl, hT, h5, by omega, hp, ⟨_, by omega, h1⟩, fun _ => ⟨h7, h6, hp0, h1, hK⟩, fun e => by rw [hq] at e; cases e⟩
  | succ n ih =>
    intro i k pos0 c0 q μ0 μ hi hk hC hT h5 hp hp0 hc hq h7 h6 h1 hK
    obtain ⟨k, rfl⟩ : ∃ m, k = m + 1 := ⟨k - 1, by omega⟩
    have hh := next_ok hC hL h5 hp
    have cc : ¬ nI most ≤ nI i := by rw [nz_le (by omega) (by omega)]; omega
    rw [pch, ref_readJoined_L31, if_neg cc, if_pos h7, hh, Option.bind_some]
    by_cases g : prk (ph T L q.2.1) = r
    rotate_left
    · rw [if_neg (fun e => g e.2), if_neg (fun e => g ((rank_ok _ hr).mp e))]
      exact ⟨μ, rfl, hT, h5, by omega, hp, ⟨_, by omega, h1⟩, fun _ => ⟨h7, h6, hp0, h1, hK⟩, fun e => by rw [hq] at e; cases e⟩
    rw [if_pos ⟨hq, g⟩, if_pos ((rank_ok _ hr).mpr g), Option.bind_some, nz_s r, nz_s i]
    have lt : q.2.1 < L := ph_lt (fun e => prk_m1 hr (by rw [← e]; exact g))
    have e5 : jj_u μ 45 5 (μ 45 5 + 1) 45 5 = nI (q.2.1 + 1) := by rw [ju_self, h5, nz_s]
    have T1 : cdT μ (jj_u μ 45 5 (μ 45 5 + 1)) := cdT.rf.u (by omega) (by omega)
    have r46 : jj_u μ 45 5 (μ 45 5 + 1) 46 = μ 46 := ju_ne (by decide)
    obtain ⟨m, f1, f2, f3, f4, f5, ⟨c', f6, f6'⟩, f7, f8⟩ := hF (q.2.1 + 1) (c0 + q.1.length) (jj_u μ 45 5 (μ 45 5 + 1)) lt (by omega) (hC.t T1) e5 (by rw [ju_other (by omega)]; exact h6) (by rw [ju_other (by omega)]; exact h7) (by rw [ju_other (by omega)]; exact h1)
    have T2 := (hT.tr T1).tr f2
    rw [f1, Option.bind_some]
    cases e : (P (q.2.1 + 1)).2.2 with
    | true =>
      have m7 := f8 e
      obtain ⟨m', k1, k2, k3, k4⟩ := emit_any f6 f6' (-(ph T L q.2.1))
      obtain ⟨k, rfl⟩ : ∃ m, k = m + 1 := ⟨k - 1, by omega⟩
      rw [pch_t n _ rfl, k1, Option.bind_some, loop_stop (by rw [k4 7 (by omega)]; exact m7)]
      exact ⟨m', rfl, T2.tr k2, by rw [k4 5 (by omega)]; exact f3, by show pos0 ≤ (P (q.2.1 + 1)).2.1; omega, f5, k3, fun x => (by cases x), fun _ => by rw [k4 7 (by omega)]; exact m7⟩
    | false =>
      obtain ⟨m7, m6, m5, m1, mK⟩ := f7 e
      rw [emit_ok (c := c0 + q.1.length + (P (q.2.1 + 1)).1.length) (by omega) m1, Option.bind_some]
      have el : (q.1 ++ (P (q.2.1 + 1)).1 ++ [-(ph T L q.2.1)]).length = q.1.length + (P (q.2.1 + 1)).1.length + 1 := by rw [List.length_append, List.length_append, List.length_singleton]
      obtain ⟨M, hM⟩ : ∃ M, M = jj_u (jj_u m 46 (c0 + q.1.length + (P (q.2.1 + 1)).1.length) (-(ph T L q.2.1))) 45 1 (nI (c0 + q.1.length + (P (q.2.1 + 1)).1.length + 1)) := ⟨_, rfl⟩
      have TM : cdT m M := by rw [hM]; exact (cdT.rf.u6).u (by omega) (by omega)
      have e45 : ∀ j, j ≠ 1 → M 45 j = m 45 j := fun j hj => by rw [hM, ju_other hj, ju_ne (by decide)]
      rw [← hM]
      refine ih (i + 1) k pos0 c0 (q.1 ++ (P (q.2.1 + 1)).1 ++ [-(ph T L q.2.1)], (P (q.2.1 + 1)).2.1, false) μ0 M (by omega) (by omega) (hC.t ((T1.tr f2).tr TM)) (T2.tr TM) (by rw [e45 5 (by omega)]; exact f3) f5 ?_ hc rfl (by rw [e45 7 (by omega)]; exact m7) (by rw [e45 6 (by omega)]; exact m6) ?_ ?_
      · show pos0 + (q.1 ++ (P (q.2.1 + 1)).1 ++ [-(ph T L q.2.1)]).length ≤ (P (q.2.1 + 1)).2.1
        rw [el]
        omega
      · show _ = nI (c0 + (q.1 ++ (P (q.2.1 + 1)).1 ++ [-(ph T L q.2.1)]).length)
        rw [el, hM, ju_self]
        congr 1
        omega
      · have K1 : cdK c0 (q.1 ++ (P (q.2.1 + 1)).1) μ0 m := hK.app (mK.row0 r46)
        refine K1.app ?_
        rw [List.length_append, show c0 + (q.1.length + (P (q.2.1 + 1)).1.length) = c0 + q.1.length + (P (q.2.1 + 1)).1.length by omega]
        rw [hM]
        exact emit_K
theorem joined_c {L u : Nat} {T : Nat → Int32} (hL : L ≤ 50) {N r op : Nat} (hN : 60 < N) (hr : r < 5) {P : Nat → pR} {fs : jj_M → Option jj_M} {fj : Int32 → jj_M → Option jj_M} (hF : cdG L u T op P (fj (nI (r + 1)))) : cdG L u T op (fun pos => pch (ph T L) P r (if r = 2 then 1 else 50) (P pos)) (ref_readJoined N fs fj (nI r)) := by
  intro pos c μ hp hc hC h5 h6 h7 h1
  show cdO op L pos c (pch (ph T L) P r (if r = 2 then 1 else 50) (P pos)) μ (ref_readJoined N fs fj (nI r) μ)
  obtain ⟨m, f1, f2, f3, f4, f5, f6, f7, f8⟩ := hF pos c μ hp hc hC h5 h6 h7 h1
  unfold ref_readJoined
  rw [if_pos (show nI r < 5 by rw [show (5 : Int32) = nI 5 from rfl, nz_lt (by omega) (by omega)]; exact hr), nz_s, f1, Option.bind_some]
  obtain ⟨N', eN⟩ : ∃ N', N = N' + 1 := ⟨N - 1, by omega⟩
  have key : ∀ most, most ≤ 50 → cdO op L pos c (pch (ph T L) P r most (P pos)) μ (ref_readJoined_L31 N fs fj (nI r) (nI most) N 0 m) := by
    intro most hm
    cases e : (P pos).2.2 with
    | true =>
      have m7 := f8 e
      have st := loop_stop (N := N) (fs := fs) (fj := fj) (x1 := nI r) (x2 := nI most) (x3 := 0) (k := N') m7
      rw [← eN] at st
      rw [pch_t most _ e, st]
      exact ⟨m, rfl, f2, f3, f4, f5, f6, fun x => (by rw [e] at x; cases x), fun _ => m7⟩
    | false =>
      obtain ⟨m7, m6, m5, m1, mK⟩ := f7 e
      exact pch_c hL hr hm hF most 0 N pos c (P pos) μ m (by omega) (by omega) (hC.t f2) f2 f3 f5 m5 hc e m7 m6 m1 mK
  by_cases q : r = 2
  · subst q
    rw [if_pos rfl, if_pos (show nI 2 = 2 from rfl)]
    exact key 1 (by omega)
  · rw [if_neg q, if_neg (show ¬ nI r = 2 from nI_ne (b := 2) (by omega) (by omega) q)]
    exact key 50 (by omega)
