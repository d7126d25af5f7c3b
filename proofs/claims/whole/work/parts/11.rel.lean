/-! ===== texts, as mathematics: a reader of bytes that gives steps, a place, and whether it went wrong ===== -/
def ph (T : Nat → Int32) (L pos : Nat) : Int32 := if pos < L then T pos else -1
def prk (c : Int32) : Nat := if c = 124 then 0 else if c = 38 then 1 else if c = 60 then 2 else if c = 61 then 2 else if c = 62 then 2 else if c = 43 then 3 else if c = 45 then 3 else if c = 42 then 4 else if c = 47 then 4 else if c = 37 then 4 else 9
def pnm (u : Nat) (c : Int32) : Nat := if c = 109 then (if u = 0 then 1 else 2) else if c = 116 then (if u = 0 then 2 else 0) else if c = 108 then (if u = 0 then 0 else 1) else if c = 100 then 3 else 0
abbrev pdg (c : Int32) : Prop := 48 ≤ c.toInt ∧ c.toInt ≤ 57
abbrev pR : Type := List Int32 × Nat × Bool
def pnum (H : Nat → Int32) : Nat → Nat → Nat → Nat × Nat
  | 0, pos, v => (v, pos)
  | k + 1, pos, v => if pdg (H pos) then pnum H k (pos + 1) (10 * v + (H pos).toInt.toNat - 48) else (v, pos)
def pch (H : Nat → Int32) (P : Nat → pR) (r : Nat) : Nat → pR → pR
  | 0, q => q
  | n + 1, q => if q.2.2 = false ∧ prk (H q.2.1) = r then pch H P r n (q.1 ++ (P (q.2.1 + 1)).1 ++ [-(H q.2.1)], (P (q.2.1 + 1)).2.1, (P (q.2.1 + 1)).2.2) else q
def pj (H : Nat → Int32) (u : Nat) : Nat → Nat → Nat → Nat → pR
  | 0, _, _, pos => ([], pos, true)
  | f + 1, r, op, pos =>
    if r = 5 then
      if pdg (H pos) then ([nI (pnum H 4 pos 0).1], (pnum H 4 pos 0).2, false)
      else if 0 < pnm u (H pos) then ([nI (9999 + pnm u (H pos))], pos + 1, false)
      else if H pos = 33 ∧ op < 5 then ((pj H u f 5 (op + 1) (pos + 1)).1 ++ [-33], (pj H u f 5 (op + 1) (pos + 1)).2.1, (pj H u f 5 (op + 1) (pos + 1)).2.2)
      else if H pos = 40 ∧ op < 5 then (if (pj H u f 0 (op + 1) (pos + 1)).2.2 = false ∧ H (pj H u f 0 (op + 1) (pos + 1)).2.1 = 41 then ((pj H u f 0 (op + 1) (pos + 1)).1, (pj H u f 0 (op + 1) (pos + 1)).2.1 + 1, false) else ((pj H u f 0 (op + 1) (pos + 1)).1, (pj H u f 0 (op + 1) (pos + 1)).2.1, true))
      else ([], pos, true)
    else pch H (pj H u f (r + 1) op) r (if r = 2 then 1 else 50) (pj H u f (r + 1) op pos)
/-- a whole text -/
def pt (T : Nat → Int32) (L u : Nat) : pR := pj (ph T L) u 50 0 0 0
theorem pt_congr {T T1 : Nat → Int32} {L u : Nat} (h : ∀ i, i < L → T1 i = T i) : pt T1 L u = pt T L u := by
  have e : ph T1 L = ph T L := by
    funext pos
    unfold ph
    by_cases q : pos < L
    · rw [if_pos q, if_pos q, h pos q]
    · rw [if_neg q, if_neg q]
  unfold pt
  rw [e]
/-! what steps give -/
def ejoin (k a b : Int32) : Int32 := if k = 38 then (if a = 0 then 0 else if b = 0 then 0 else 1) else if k = 42 then a * b else if k = 43 then a + b else if k = 45 then a - b else if k = 47 then (if b = 0 then 0 else a / b) else if k = 60 then (if b ≤ a then 0 else 1) else if k = 61 then (if a = b then 1 else 0) else if k = 62 then (if a ≤ b then 0 else 1) else if k = 124 then (if a = 0 then (if b = 0 then 0 else 1) else 1) else (if b = 0 then 0 else a - a / b * b)
def estep (a b c : Int32) (st : List Int32) (x : Int32) : List Int32 :=
  if 0 ≤ x then laf_plain x a b c :: st
  else if x = -33 then (match st with | v :: r => (if v = 0 then 1 else 0) :: r | [] => [])
  else (match st with | y :: z :: r => ejoin (-x) z y :: r | r => r)
def erun (a b c : Int32) (code : List Int32) (st : List Int32) : List Int32 := code.foldl (estep a b c) st
/-- what a text gives -/
def eval (code : List Int32) (a b c : Int32) : Int32 := (erun a b c code []).headD 0
/-! ===== what holds of a row of the reference, and how the class's cells agree with it ===== -/
abbrev jb (x : Int32) (lo hi : Int) : Prop := lo ≤ x.toInt ∧ x.toInt ≤ hi
/-- somebody -/
def jPer (S : Nat → Int32) (p : Nat) : Prop := (∃ k, k < 7 ∧ S (140 + 6 * p) = nI k) ∧ (∃ m, m < 10 ∧ S (140 + 6 * p + 1) = nI m) ∧ (∃ a, a < 8 ∧ S (140 + 6 * p + 2) = nI a) ∧ (S (140 + 6 * p + 3) = -1 ∨ ∃ a, a < 8 ∧ S (140 + 6 * p + 3) = nI a) ∧ ((S (140 + 6 * p + 5) = 0 ∧ ∃ t, t ≤ 36 ∧ S (140 + 6 * p + 4) = nI t) ∨ (S (140 + 6 * p + 5) = 1 ∧ ∃ t, t ≤ 200 ∧ S (140 + 6 * p + 4) = nI t))
/-- the most that a place of the row holds -/
def bdh (j : Nat) : Int := if j < 8 then 99 else if j < 72 then 20 else if j < 136 then 9999 else if j = 136 then 9 else if j = 137 then 99999 else if j = 138 then 9999 else if j = 139 then 6 else if j = 177 then 50 else 20
/-- a row of the reference: within bounds, roads the same both ways, people as they may be -/
def jS (S : Nat → Int32) : Prop := (∀ j, (j < 140 ∨ j = 177 ∨ j = 178) → jb (S j) 0 (bdh j)) ∧ (∀ a b, a < 8 → b < 8 → S (8 + (8 * a + b)) = S (8 + (8 * b + a))) ∧ (∀ a, a < 8 → S (8 + (8 * a + a)) = 0) ∧ ∀ p : Nat, (p : Int) < (S 139).toInt → jPer S p
/-- a law of the class and the text of the reference -/
def jLaw (S : Nat → Int32) (F C : Nat → Int32) (u : Nat) : Prop := F 2 = nI u ∧ ((S (179 + u) = -1 ∧ F 1 = 0) ∨ ∃ L, 1 ≤ L ∧ L ≤ 50 ∧ S (179 + u) = nI L ∧ (pt (fun i => S (231 + 50 * u + i)) L u).2.2 = false ∧ (pt (fun i => S (231 + 50 * u + i)) L u).2.1 = L ∧ 1 ≤ (pt (fun i => S (231 + 50 * u + i)) L u).1.length ∧ (pt (fun i => S (231 + 50 * u + i)) L u).1.length ≤ 50 ∧ F 1 = nI (pt (fun i => S (231 + 50 * u + i)) L u).1.length ∧ ∀ i, i < (pt (fun i => S (231 + 50 * u + i)) L u).1.length → C i = (pt (fun i => S (231 + 50 * u + i)) L u).1.getD i 0)
theorem jLaw.keep {S S1 F F1 C C1 : Nat → Int32} {u : Nat} (h : jLaw S F C u) (h1 : F1 1 = F 1) (h2 : F1 2 = F 2) (hC : ∀ i, i < 50 → C1 i = C i) (h3 : S1 (179 + u) = S (179 + u)) (h4 : ∀ i, i < 50 → S1 (231 + 50 * u + i) = S (231 + 50 * u + i)) : jLaw S1 F1 C1 u := by
  obtain ⟨a, b⟩ := h
  refine ⟨by rw [h2]; exact a, ?_⟩
  rcases b with ⟨b, c⟩ | ⟨L, l1, l2, l3, l4, l5, l6, l7, l8, l9⟩
  · exact Or.inl ⟨by rw [h3]; exact b, by rw [h1]; exact c⟩
  · have e : pt (fun i => S1 (231 + 50 * u + i)) L u = pt (fun i => S (231 + 50 * u + i)) L u := pt_congr (fun i hi => h4 i (by omega))
    refine Or.inr ⟨L, l1, l2, by rw [h3]; exact l3, ?_⟩
    rw [e, h1]
    exact ⟨l4, l5, l6, l7, l8, fun i hi => by rw [hC i (by omega)]; exact l9 i hi⟩
/-- where the class keeps what the reference has at place j of its row: the cell, the place in it -/
def lc (w j : Nat) : Nat := if j < 8 then w + 1 else if j < 72 then w + 2 else if j < 136 then w + 3 else if j < 140 then w else if j < 176 then w + 8 + (j - 140) / 6 else if j < 179 then w else if j < 231 then w + 6 else w + 7
def li (j : Nat) : Nat := if j < 8 then j else if j < 72 then j - 8 else if j < 136 then j - 72 else if j = 136 then 8 else if j = 137 then 9 else if j = 138 then 10 else if j = 139 then 7 else if j < 176 then (j - 140) % 6 else if j = 176 then 13 else if j = 177 then 11 else if j = 178 then 12 else if j < 231 then j - 181 else j - 331
/-- places that both keep -/
abbrev dm (j : Nat) : Prop := j < 179 ∨ (181 ≤ j ∧ j < 231) ∨ (331 ≤ j ∧ j < 351)
/-- those of them that matter: people that are there -/
def dn (S : Nat → Int32) (j : Nat) : Prop := dm j ∧ (140 ≤ j → j < 176 → ((j - 140) / 6 : Nat) < (S 139).toInt)
theorem lc_w (w j : Nat) : lc w j = w + lc 0 j := by
  unfold lc
  by_cases a1 : j < 8
  · rw [if_pos a1, if_pos a1] <;> omega
  by_cases a2 : j < 72
  · rw [if_neg a1, if_pos a2, if_neg a1, if_pos a2] <;> omega
  by_cases a3 : j < 136
  · rw [if_neg a1, if_neg a2, if_pos a3, if_neg a1, if_neg a2, if_pos a3] <;> omega
  by_cases a4 : j < 140
  · rw [if_neg a1, if_neg a2, if_neg a3, if_pos a4, if_neg a1, if_neg a2, if_neg a3, if_pos a4] <;> omega
  by_cases a5 : j < 176
  · rw [if_neg a1, if_neg a2, if_neg a3, if_neg a4, if_pos a5, if_neg a1, if_neg a2, if_neg a3, if_neg a4, if_pos a5] <;> omega
  by_cases a6 : j < 179
  · rw [if_neg a1, if_neg a2, if_neg a3, if_neg a4, if_neg a5, if_pos a6, if_neg a1, if_neg a2, if_neg a3, if_neg a4, if_neg a5, if_pos a6] <;> omega
  by_cases a7 : j < 231
  · rw [if_neg a1, if_neg a2, if_neg a3, if_neg a4, if_neg a5, if_neg a6, if_pos a7, if_neg a1, if_neg a2, if_neg a3, if_neg a4, if_neg a5, if_neg a6, if_pos a7] <;> omega
  · rw [if_neg a1, if_neg a2, if_neg a3, if_neg a4, if_neg a5, if_neg a6, if_neg a7, if_neg a1, if_neg a2, if_neg a3, if_neg a4, if_neg a5, if_neg a6, if_neg a7] <;> omega
def l_iv (c x : Nat) : Nat := if c = 1 then x else if c = 2 then x + 8 else if c = 3 then x + 72 else if c = 0 then (if x = 7 then 139 else if x < 11 then x + 128 else if x = 13 then 176 else x + 166) else if c = 6 then x + 181 else if c = 7 then x + 331 else 140 + 6 * (c - 8) + x
theorem l_ivs : ∀ j, j < 351 → dm j → l_iv (lc 0 j) (li j) = j := by decide +kernel
theorem l_inj {w i j : Nat} (hi : dm i) (hj : dm j) (h1 : lc w i = lc w j) (h2 : li i = li j) : i = j := by
  rw [lc_w w i, lc_w w j] at h1
  have e1 : lc 0 i = lc 0 j := by omega
  have a := l_ivs i (by unfold dm at hi; omega) hi
  have b := l_ivs j (by unfold dm at hj; omega) hj
  rw [← a, ← b, e1, h2]
def jAg (w s : Nat) (D : Nat → Prop) (μ : jj_M) : Prop := ∀ j, D j → μ (lc w j) (li j) = μ s j
/-- dead or not: of all six people of the class, those that aren't there yet too -/
def jDd (w : Nat) (μ : jj_M) : Prop := ∀ p, p < 6 → μ (w + 8 + p) 5 = 0 ∨ μ (w + 8 + p) 5 = 1
def jW (w s : Nat) (μ : jj_M) : Prop := jS (μ s) ∧ jAg w s (dn (μ s)) μ ∧ jLaw (μ s) (μ (w + 14)) (μ (w + 15)) 0 ∧ jLaw (μ s) (μ (w + 17)) (μ (w + 18)) 1 ∧ jDd w μ
theorem lc_r {w j : Nat} (h : dm j) : w ≤ lc w j ∧ lc w j < w + 14 := by
  unfold dm at h
  unfold lc
  repeat' split
  all_goals omega
theorem jW.keep {w s : Nat} {μ m : jj_M} (q : jW w s μ) (e : ∀ k, w ≤ k → k < w + 20 → k ≠ w + 16 → k ≠ w + 19 → m k = μ k) (hs : m s = μ s) : jW w s m := by
  obtain ⟨q1, q2, q3, q4, q5⟩ := q
  unfold jW
  rw [hs]
  refine ⟨q1, fun j hj => ?_, ?_, ?_, fun p hp => by rw [e (w + 8 + p) (by omega) (by omega) (by omega) (by omega)]; exact q5 p hp⟩
  · have := lc_r (w := w) hj.1
    rw [e _ (by omega) (by omega) (by omega) (by omega), hs]
    exact q2 j hj
  · rw [e (w + 14) (by omega) (by omega) (by omega) (by omega), e (w + 15) (by omega) (by omega) (by omega) (by omega)]; exact q3
  · rw [e (w + 17) (by omega) (by omega) (by omega) (by omega), e (w + 18) (by omega) (by omega) (by omega) (by omega)]; exact q4
def jSh (B Z Nn : Nat → Int32) (F C : Nat → Nat → Int32) : Prop := ∀ k, k < 4 → F k 1 = B k ∧ F k 2 = Z k ∧ (B k = 0 ∨ B k = 8 ∨ B k = 16 ∨ B k = 32) ∧ (∃ n, n ≤ 40 ∧ Z k = nI n ∧ (B k = 0 → n = 0)) ∧ ∀ j, j < 40 → C k j = Nn (40 * k + j)
/-- class and reference agree -/
def jI (μ : jj_M) : Prop := jW 1 61 μ ∧ (μ 0 7 = μ 60 4 ∧ ((μ 0 7 = 0 ∧ μ 35 2 = nI 0 ∧ μ 38 2 = nI 1) ∨ jW 21 62 μ)) ∧ (∀ j, j < 6 → μ 59 j = μ 64 j) ∧ (μ 48 1 = μ 60 17 ∧ (∃ n, n ≤ 40 ∧ μ 60 17 = nI n) ∧ ∀ i, i < 40 → μ 49 i = μ 67 i) ∧ jSh (μ 68) (μ 69) (μ 70) (fun k => μ (51 + 2 * k)) (fun k => μ (52 + 2 * k))
/-- the cells that no agreement speaks of: ways, reader, stacks, what is thought only -/
def jFree (k : Nat) : Prop := k = 17 ∨ k = 20 ∨ k = 37 ∨ k = 40 ∨ k = 41 ∨ k = 42 ∨ k = 43 ∨ k = 44 ∨ k = 45 ∨ k = 46 ∨ k = 47 ∨ k = 63 ∨ k = 65 ∨ k = 66 ∨ k = 71 ∨ k = 72
abbrev jShm (μ : jj_M) : Prop := jSh (μ 68) (μ 69) (μ 70) (fun k => μ (51 + 2 * k)) (fun k => μ (52 + 2 * k))
theorem jShm.keep {μ m : jj_M} (h : jShm μ) (e : ∀ k, 51 ≤ k → k < 59 → m k = μ k) (e1 : m 68 = μ 68) (e2 : m 69 = μ 69) (e3 : m 70 = μ 70) : jShm m := by
  unfold jShm
  rw [e1, e2, e3]
  intro k hk
  show m (51 + 2 * k) 1 = _ ∧ m (51 + 2 * k) 2 = _ ∧ _ ∧ _ ∧ ∀ j, j < 40 → m (52 + 2 * k) j = _
  rw [e (51 + 2 * k) (by omega) (by omega), e (52 + 2 * k) (by omega) (by omega)]
  exact h k hk
/-- only what is thought has changed -/
def jTh (μ m : jj_M) : Prop := (∀ k, ¬ jFree k → k ≠ 60 → m k = μ k) ∧ ∀ j, (j < 5 ∨ 14 ≤ j) → m 60 j = μ 60 j
theorem jTh.rf {μ : jj_M} : jTh μ μ := ⟨fun _ _ _ => rfl, fun _ _ => rfl⟩
theorem jTh.tr {a b c : jj_M} (h1 : jTh a b) (h2 : jTh b c) : jTh a c := ⟨fun k x y => (h2.1 k x y).trans (h1.1 k x y), fun j x => (h2.2 j x).trans (h1.2 j x)⟩
theorem jTh.u {μ m : jj_M} (h : jTh μ m) {k j : Nat} {v : Int32} (hk : jFree k) : jTh μ (jj_u m k j v) := ⟨fun a x y => (ju_ne (show a ≠ k from fun e => x (by rw [e]; exact hk))).trans (h.1 a x y), fun i x => (show jj_u m k j v 60 i = m 60 i by rw [ju_ne]; intro e; subst e; revert hk; unfold jFree; omega).trans (h.2 i x)⟩
theorem jTh.uc {μ m : jj_M} (h : jTh μ m) {k : Nat} {f : Nat → Int32} (hk : jFree k) : jTh μ (jj_uc m k f) := ⟨fun a x y => (juc_ne (show a ≠ k from fun e => x (by rw [e]; exact hk))).trans (h.1 a x y), fun i x => (show jj_uc m k f 60 i = m 60 i by rw [juc_ne]; intro e; subst e; revert hk; unfold jFree; omega).trans (h.2 i x)⟩
theorem jTh.u60 {μ m : jj_M} (h : jTh μ m) {j : Nat} {v : Int32} (hj : 5 ≤ j) (hj2 : j < 14) : jTh μ (jj_u m 60 j v) := ⟨fun a x y => (ju_ne y).trans (h.1 a x y), fun i x => (ju_other (by omega)).trans (h.2 i x)⟩
theorem jTh.row {μ m : jj_M} (h : jTh μ m) {k : Nat} (h1 : ¬ jFree k) (h2 : k ≠ 60) : m k = μ k := h.1 k h1 h2
theorem jTh.I {μ m : jj_M} (h : jTh μ m) (hI : jI μ) : jI m := by
  have e : ∀ k, (k < 17 ∨ (k = 18 ∨ k = 19) ∨ (20 < k ∧ k < 37) ∨ k = 38 ∨ k = 39 ∨ (47 < k ∧ k < 60) ∨ k = 61 ∨ k = 62 ∨ k = 64 ∨ (66 < k ∧ k < 71)) → m k = μ k := fun k hk => h.1 k (by unfold jFree; omega) (by omega)
  obtain ⟨h1, ⟨h2, h3⟩, h4, ⟨h5, h6, h7⟩, h8⟩ := hI
  refine ⟨h1.keep (fun k _ _ _ _ => e k (by omega)) (e 61 (by omega)), ⟨?_, ?_⟩, ?_, ⟨?_, ?_, ?_⟩, jShm.keep h8 (fun k _ _ => e k (by omega)) (e 68 (by omega)) (e 69 (by omega)) (e 70 (by omega))⟩
  · rw [e 0 (by omega), h.2 4 (by omega)]; exact h2
  · rw [e 0 (by omega), e 35 (by omega), e 38 (by omega)]; exact h3.imp id (fun q => q.keep (fun k _ _ _ _ => e k (by omega)) (e 62 (by omega)))
  · rw [e 59 (by omega), e 64 (by omega)]; exact h4
  · rw [e 48 (by omega), h.2 17 (by omega)]; exact h5
  · rw [h.2 17 (by omega)]; exact h6
  · rw [e 49 (by omega), e 67 (by omega)]; exact h7
/-- the agreement out of its pieces, where rows outside a world stay -/
theorem jI.world {μ m : jj_M} (h : jI μ) (hw : jW 1 61 m) (e : ∀ k, k = 0 ∨ (20 < k ∧ k ≠ 61) → m k = μ k) : jI m := by
  obtain ⟨h1, ⟨h2, h3⟩, h4, ⟨h5, h6, h7⟩, h8⟩ := h
  refine ⟨hw, ⟨?_, ?_⟩, ?_, ⟨?_, ?_, ?_⟩, jShm.keep h8 (fun k _ _ => e k (by omega)) (e 68 (by omega)) (e 69 (by omega)) (e 70 (by omega))⟩
  · rw [e 0 (by omega), e 60 (by omega)]; exact h2
  · rw [e 0 (by omega), e 35 (by omega), e 38 (by omega)]; exact h3.imp id (fun q => q.keep (fun k _ _ _ _ => e k (by omega)) (e 62 (by omega)))
  · rw [e 59 (by omega), e 64 (by omega)]; exact h4
  · rw [e 48 (by omega), e 60 (by omega)]; exact h5
  · rw [e 60 (by omega)]; exact h6
  · rw [e 49 (by omega), e 67 (by omega)]; exact h7
/-- an error is counted on both sides -/
theorem jI.err {μ : jj_M} (h : jI μ) {e : Nat} {v : Int32} : jI (jj_u (jj_u μ 59 e v) 64 e v) := by
  have r : ∀ k, k ≠ 59 → k ≠ 64 → jj_u (jj_u μ 59 e v) 64 e v k = μ k := fun k a b => (ju_ne b).trans (ju_ne a)
  obtain ⟨h1, ⟨h2, h3⟩, h4, ⟨h5, h6, h7⟩, h8⟩ := h
  refine ⟨h1.keep (fun k _ _ _ _ => r k (by omega) (by omega)) (r 61 (by omega) (by omega)), ⟨h2, h3.imp id (fun q => q.keep (fun k _ _ _ _ => r k (by omega) (by omega)) (r 62 (by omega) (by omega)))⟩, fun j hj => ?_, ⟨h5, h6, h7⟩, jShm.keep h8 (fun k _ _ => r k (by omega) (by omega)) rfl rfl rfl⟩
  show upd (μ 59) e v j = upd (μ 64) e v j
  unfold upd
  by_cases q : j = e
  · rw [if_pos q, if_pos q]
  · rw [if_neg q, if_neg q]; exact h4 j hj
/-! writes of one place on both sides -/
theorem ju_rowS {μ : jj_M} {k j : Nat} {v : Int32} : jj_u μ k j v k = upd (μ k) j v := if_pos rfl
theorem ju_comm {μ : jj_M} {a b c d : Nat} {v x : Int32} (h : a ≠ c) : jj_u (jj_u μ a b v) c d x = jj_u (jj_u μ c d x) a b v := by
  funext k
  by_cases e1 : k = c
  · have e2 : k ≠ a := fun q => h (q.symm.trans e1)
    rw [ju_ne (μ := jj_u μ c d x) e2]
    subst e1
    rw [ju_rowS, ju_rowS, ju_ne e2]
  · rw [ju_ne (μ := jj_u μ a b v) e1]
    by_cases e2 : k = a
    · subst e2
      rw [ju_rowS, ju_rowS, ju_ne e1]
    · rw [ju_ne e2, ju_ne e2, ju_ne e1]
theorem jAg.wr {w s : Nat} {D : Nat → Prop} {μ : jj_M} {j : Nat} {v : Int32} (h : jAg w s D μ) (hD : ∀ i, D i → dm i) (hws : s < w ∨ w + 20 ≤ s) (hj : dm j) : jAg w s (fun i => D i ∨ i = j) (jj_u (jj_u μ (lc w j) (li j) v) s j v) := by
  intro i hi
  have rj := lc_r (w := w) hj
  by_cases e : i = j
  · subst e
    rw [ju_self, ju_ne (by omega), ju_self]
  · have hi' : D i := hi.elim id (fun q => absurd q e)
    have ri := lc_r (w := w) (hD i hi')
    rw [ju_other e, ju_ne (show s ≠ lc w j by omega), ju_ne (show lc w i ≠ s by omega), ju_app]
    by_cases e2 : lc w i = lc w j
    · rw [if_pos e2, if_neg (fun q => e (l_inj (hD i hi') hj e2 q)), ← e2]
      exact h i hi'
    · rw [if_neg e2]
      exact h i hi'
theorem jAg.mono {w s : Nat} {D E : Nat → Prop} {μ : jj_M} (h : jAg w s D μ) (hE : ∀ i, E i → D i) : jAg w s E μ := fun i hi => h i (hE i hi)
theorem upd_s {f : Nat → Int32} {k : Nat} {x : Int32} : upd f k x k = x := if_pos rfl
theorem upd_n {f : Nat → Int32} {k i : Nat} {x : Int32} (h : i ≠ k) : upd f k x i = f i := if_neg h
theorem jDd.wr {w s : Nat} {μ : jj_M} {j : Nat} {v : Int32} (h : jDd w μ) (hws : s < w ∨ w + 20 ≤ s) (hj : dm j) (hd : 140 ≤ j → j < 176 → (j - 140) % 6 = 5 → v = 0 ∨ v = 1) : jDd w (jj_u (jj_u μ (lc w j) (li j) v) s j v) := by
  intro p hp
  rw [ju_ne (show w + 8 + p ≠ s by omega), ju_app]
  by_cases e : w + 8 + p = lc w j
  · rw [if_pos e]
    have a : 140 ≤ j ∧ j < 176 ∧ (j - 140) / 6 = p := by
      have e' := e
      rw [lc_w] at e'
      unfold lc at e'
      unfold dm at hj
      by_cases a1 : j < 8
      · rw [if_pos a1] at e'; omega
      by_cases a2 : j < 72
      · rw [if_neg a1, if_pos a2] at e'; omega
      by_cases a3 : j < 136
      · rw [if_neg a1, if_neg a2, if_pos a3] at e'; omega
      by_cases a4 : j < 140
      · rw [if_neg a1, if_neg a2, if_neg a3, if_pos a4] at e'; omega
      by_cases a5 : j < 176
      · rw [if_neg a1, if_neg a2, if_neg a3, if_neg a4, if_pos a5] at e'; omega
      by_cases a6 : j < 179
      · rw [if_neg a1, if_neg a2, if_neg a3, if_neg a4, if_neg a5, if_pos a6] at e'; omega
      by_cases a7 : j < 231
      · rw [if_neg a1, if_neg a2, if_neg a3, if_neg a4, if_neg a5, if_neg a6, if_pos a7] at e'; omega
      · rw [if_neg a1, if_neg a2, if_neg a3, if_neg a4, if_neg a5, if_neg a6, if_neg a7] at e'; omega
    have b : li j = (j - 140) % 6 := by
      unfold li
      rw [if_neg (by omega), if_neg (by omega), if_neg (by omega), if_neg (by omega), if_neg (by omega), if_neg (by omega), if_neg (by omega), if_pos (by omega)]
    by_cases c : 5 = li j
    · rw [if_pos c]; exact hd a.1 a.2.1 (by omega)
    · rw [if_neg c, ← e]; exact h p hp
  · rw [if_neg e]; exact h p hp
theorem jW.wr {w s : Nat} {μ : jj_M} {j : Nat} {v : Int32} (h : jW w s μ) (hws : s < w ∨ w + 20 ≤ s) (hj : dm j) (h139 : j ≠ 139) (hS : jS (upd (μ s) j v)) (hd : 140 ≤ j → j < 176 → (j - 140) % 6 = 5 → v = 0 ∨ v = 1) : jW w s (jj_u (jj_u μ (lc w j) (li j) v) s j v) := by
  obtain ⟨q1, q2, q3, q4, q5⟩ := h
  have rj := lc_r (w := w) hj
  have e5 := jDd.wr q5 hws hj hd
  have es : jj_u (jj_u μ (lc w j) (li j) v) s j v s = upd (μ s) j v := by rw [ju_row, if_pos rfl, ju_ne (by omega)]
  have eo : ∀ k, w + 14 ≤ k → k < w + 20 → jj_u (jj_u μ (lc w j) (li j) v) s j v k = μ k := fun k a b => by rw [ju_ne (by omega), ju_ne (by omega)]
  unfold jW
  rw [es, eo _ (by omega) (by omega), eo _ (by omega) (by omega), eo _ (by omega) (by omega), eo _ (by omega) (by omega)]
  refine ⟨hS, (q2.wr (fun i hi => hi.1) hws hj).mono (fun i hi => ?_), q3.keep rfl rfl (fun _ _ => rfl) (upd_n (by omega)) (fun i hi => upd_n (by omega)), q4.keep rfl rfl (fun _ _ => rfl) (upd_n (by omega)) (fun i hi => upd_n (by omega)), e5⟩
  refine Or.inl ⟨hi.1, fun a b => ?_⟩
  have := hi.2 a b
  rwa [upd_n (Ne.symm h139)] at this
/-- a place that is no road and no person's -/
theorem jS.up {S : Nat → Int32} {j : Nat} {v : Int32} (h : jS S) (hj : j < 8 ∨ (72 ≤ j ∧ j < 139) ∨ 176 ≤ j) (hb : (j < 140 ∨ j = 177 ∨ j = 178) → jb v 0 (bdh j)) : jS (upd S j v) := by
  obtain ⟨h1, h2, h3, h4⟩ := h
  refine ⟨fun i hi => ?_, fun a b ha hb => ?_, fun a ha => ?_, fun p hp => ?_⟩
  · by_cases e : i = j
    · subst e; rw [upd_s]; exact hb hi
    · rw [upd_n e]; exact h1 i hi
  · rw [upd_n (by omega), upd_n (by omega)]; exact h2 a b ha hb
  · rw [upd_n (by omega)]; exact h3 a ha
  · have e139 : upd S j v 139 = S 139 := upd_n (by omega)
    rw [e139] at hp
    have b := (h1 139 (by omega)).2
    have b2 : bdh 139 = 6 := by decide
    have q := h4 p hp
    unfold jPer at q ⊢
    rw [upd_n (by omega), upd_n (by omega), upd_n (by omega), upd_n (by omega), upd_n (by omega), upd_n (by omega)]
    exact q
theorem jI.w {μ : jj_M} (h : jI μ) : jW 1 61 μ := h.1
theorem jI.S {μ : jj_M} (h : jI μ) : jS (μ 61) := h.1.1
theorem jI.ag {μ : jj_M} (h : jI μ) {j : Nat} (hj : j < 140 ∨ j = 176 ∨ j = 177 ∨ j = 178) : μ (lc 1 j) (li j) = μ 61 j := h.1.2.1 j ⟨by unfold dm; omega, fun a b => by omega⟩
/-- one place of the world written on both sides -/
theorem jI.wr {μ : jj_M} (h : jI μ) {j : Nat} {v : Int32} (hj : dm j) (h139 : j ≠ 139) (hS : jS (upd (μ 61) j v)) (hd : 140 ≤ j → j < 176 → (j - 140) % 6 = 5 → v = 0 ∨ v = 1 := by omega) : jI (jj_u (jj_u μ (lc 1 j) (li j) v) 61 j v) := by
  have r := lc_r (w := 1) hj
  exact h.world (h.w.wr (by omega) hj h139 hS hd) (fun k hk => by rw [ju_ne (by omega), ju_ne (by omega)])
