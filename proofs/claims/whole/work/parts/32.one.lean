/-! a right text leaves one number -/
theorem nI_nn {n : Nat} (h : n < 2147483648) : (0 : Int32) ≤ nI n := by rw [show (0 : Int32) = nI 0 from rfl, nz_le (by omega) (by omega)]; omega
theorem pnum_b (H : Nat → Int32) : ∀ k pos v, (pnum H k pos v).1 + 1 ≤ (v + 1) * 10 ^ k := by
  intro k
  induction k with
  | zero => intro pos v; rw [pnum]; omega
  | succ k ih =>
    intro pos v
    rw [pnum]
    by_cases q : pdg (H pos)
    · rw [if_pos q]
      refine Nat.le_trans (ih _ _) ?_
      rw [Nat.pow_succ, Nat.mul_comm (10 ^ k) 10, ← Nat.mul_assoc]
      refine Nat.mul_le_mul_right _ ?_
      obtain ⟨q1, q2⟩ := q
      omega
    · rw [if_neg q]
      exact Nat.le_mul_of_pos_right _ (Nat.pow_pos (by decide))
theorem prk_neg {x : Int32} {r : Nat} (h : prk x = r) (hr : r < 5) : ¬ 0 ≤ -x ∧ ¬ -x = -33 := by
  unfold prk at h
  by_cases q1 : x = 124
  · subst q1; decide
  by_cases q2 : x = 38
  · subst q2; decide
  by_cases q3 : x = 60
  · subst q3; decide
  by_cases q4 : x = 61
  · subst q4; decide
  by_cases q5 : x = 62
  · subst q5; decide
  by_cases q6 : x = 43
  · subst q6; decide
  by_cases q7 : x = 45
  · subst q7; decide
  by_cases q8 : x = 42
  · subst q8; decide
  by_cases q9 : x = 47
  · subst q9; decide
  by_cases q10 : x = 37
  · subst q10; decide
  rw [if_neg q1, if_neg q2, if_neg q3, if_neg q4, if_neg q5, if_neg q6, if_neg q7, if_neg q8, if_neg q9, if_neg q10] at h
  omega
abbrev pOne (a b c : Int32) (q : pR) : Prop := q.2.2 = false → ∀ st, ∃ v, q.1.foldl (estep a b c) st = v :: st
theorem pch_one {H : Nat → Int32} {a b c : Int32} {P : Nat → pR} {r : Nat} (hr : r < 5) (hP : ∀ pos, pOne a b c (P pos)) : ∀ n q, pOne a b c q → pOne a b c (pch H P r n q) := by
  intro n
  induction n with
  | zero => intro q hq; exact hq
  | succ n ih =>
    intro q hq
    rw [pch]
    by_cases g : q.2.2 = false ∧ prk (H q.2.1) = r
    · rw [if_pos g]
      apply ih
      intro w st
      obtain ⟨v1, e1⟩ := hq g.1 st
      obtain ⟨v2, e2⟩ := hP (q.2.1 + 1) w (v1 :: st)
      obtain ⟨n1, n2⟩ := prk_neg g.2 hr
      refine ⟨ejoin (- -H q.2.1) v1 v2, ?_⟩
      show List.foldl (estep a b c) st (q.1 ++ (P (q.2.1 + 1)).1 ++ [-(H q.2.1)]) = _
      rw [List.foldl_append, List.foldl_append, e1, e2, List.foldl_cons, List.foldl_nil]
      unfold estep
      rw [if_neg n1, if_neg n2]
    · rw [if_neg g]
      exact hq
theorem pj_one (H : Nat → Int32) (u : Nat) (a b c : Int32) : ∀ f r op pos, r ≤ 5 → pOne a b c (pj H u f r op pos) := by
  intro f
  induction f with
  | zero => intro r op pos _ w; rw [pj] at w; cases w
  | succ f ih =>
    intro r op pos hr
    rw [pj]
    by_cases r5 : r = 5
    rotate_left
    · rw [if_neg r5]
      exact pch_one (by omega) (fun p => ih (r + 1) op p (by omega)) _ _ (ih (r + 1) op pos (by omega))
    rw [if_pos r5]
    by_cases g1 : pdg (H pos)
    · rw [if_pos g1]
      intro _ st
      have bn := pnum_b H 4 pos 0
      refine ⟨laf_plain (nI (pnum H 4 pos 0).1) a b c, ?_⟩
      · show List.foldl (estep a b c) st [nI (pnum H 4 pos 0).1] = _
        rw [List.foldl_cons, List.foldl_nil]
        unfold estep
        rw [if_pos (nI_nn (by omega))]
    rw [if_neg g1]
    by_cases g2 : 0 < pnm u (H pos)
    · rw [if_pos g2]
      intro _ st
      have bn : pnm u (H pos) ≤ 3 := by
        unfold pnm
        repeat' split
        all_goals omega
      refine ⟨laf_plain (nI (9999 + pnm u (H pos))) a b c, ?_⟩
      · show List.foldl (estep a b c) st [nI (9999 + pnm u (H pos))] = _
        rw [List.foldl_cons, List.foldl_nil]
        unfold estep
        rw [if_pos (nI_nn (by omega))]
    rw [if_neg g2]
    by_cases g3 : H pos = 33 ∧ op < 5
    · rw [if_pos g3]
      intro w st
      obtain ⟨v, e⟩ := ih 5 (op + 1) (pos + 1) (by omega) w st
      refine ⟨if v = 0 then 1 else 0, ?_⟩
      show List.foldl (estep a b c) st ((pj H u f 5 (op + 1) (pos + 1)).1 ++ [-33]) = _
      rw [List.foldl_append, e, List.foldl_cons, List.foldl_nil]
      unfold estep
      rw [if_neg (by decide), if_pos rfl]
    rw [if_neg g3]
    by_cases g4 : H pos = 40 ∧ op < 5
    · rw [if_pos g4]
      by_cases g5 : (pj H u f 0 (op + 1) (pos + 1)).2.2 = false ∧ H (pj H u f 0 (op + 1) (pos + 1)).2.1 = 41
      · rw [if_pos g5]
        intro _ st
        exact ih 0 (op + 1) (pos + 1) (by omega) g5.1 st
      · rw [if_neg g5]
        intro w
        cases w
    · rw [if_neg g4]
      intro w
      cases w
