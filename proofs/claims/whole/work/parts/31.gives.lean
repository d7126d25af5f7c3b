/-! steps of a text, worked by the class -/
theorem joined_ok (k a b : Int32) : laf_joined k a b = some (ejoin k a b) := by
  unfold laf_joined ejoin
  by_cases q1 : k = 38
  · rw [if_pos q1, if_pos q1]
    by_cases a0 : a = 0
    · rw [if_pos a0, if_pos a0]
    · rw [if_neg a0, if_neg a0]
      by_cases b0 : b = 0
      · rw [if_pos b0, if_pos b0]
      · rw [if_neg b0, if_neg b0]
  rw [if_neg q1, if_neg q1]
  by_cases q2 : k = 42
  · rw [if_pos q2, if_pos q2]
  rw [if_neg q2, if_neg q2]
  by_cases q3 : k = 43
  · rw [if_pos q3, if_pos q3]
  rw [if_neg q3, if_neg q3]
  by_cases q4 : k = 45
  · rw [if_pos q4, if_pos q4]
  rw [if_neg q4, if_neg q4]
  by_cases q5 : k = 47
  · rw [if_pos q5, if_pos q5]
    by_cases b0 : b = 0
    · rw [if_pos b0, if_pos b0]
    · rw [if_neg b0, if_pos b0, if_neg b0]
  rw [if_neg q5, if_neg q5]
  by_cases q6 : k = 60
  · rw [if_pos q6, if_pos q6]
    by_cases b0 : b ≤ a
    · rw [if_pos b0, if_pos b0]
    · rw [if_neg b0, if_neg b0]
  rw [if_neg q6, if_neg q6]
  by_cases q7 : k = 61
  · rw [if_pos q7, if_pos q7]
    by_cases b0 : a = b
    · rw [if_pos b0, if_pos b0]
    · rw [if_neg b0, if_neg b0]
  rw [if_neg q7, if_neg q7]
  by_cases q8 : k = 62
  · rw [if_pos q8, if_pos q8]
    by_cases b0 : a ≤ b
    · rw [if_pos b0, if_pos b0]
    · rw [if_neg b0, if_neg b0]
  rw [if_neg q8, if_neg q8]
  by_cases q9 : k = 124
  · rw [if_pos q9, if_pos q9]
    by_cases a0 : a = 0
    · rw [if_pos a0, if_pos a0]
      by_cases b0 : b = 0
      · rw [if_pos b0, if_pos b0]
      · rw [if_neg b0, if_neg b0]
    · rw [if_neg a0, if_neg a0]
  rw [if_neg q9, if_neg q9]
  by_cases b0 : b = 0
  · rw [if_pos b0, if_pos b0]
  · rw [if_neg b0, if_pos b0, if_neg b0]
def jStk (μ : jj_M) (q : Nat) (st : List Int32) : Prop := ∀ j, j < st.length → μ q (st.length - 1 - j) = st.getD j 0
theorem jStk.push {μ : jj_M} {q : Nat} {st : List Int32} (h : jStk μ q st) (v : Int32) : jStk (jj_u μ q st.length v) q (v :: st) := by
  intro j hj
  rw [List.length_cons] at hj ⊢
  by_cases e : j = 0
  · subst e
    rw [show st.length + 1 - 1 - 0 = st.length by omega, ju_self]
    rfl
  · obtain ⟨i, rfl⟩ : ∃ i, j = i + 1 := ⟨j - 1, by omega⟩
    rw [show st.length + 1 - 1 - (i + 1) = st.length - 1 - i by omega, ju_other (by omega), h i (by omega)]
    rfl
theorem jStk.pop {μ : jj_M} {q : Nat} {y : Int32} {r : List Int32} (h : jStk μ q (y :: r)) : jStk μ q r := by
  intro j hj
  have := h (j + 1) (by rw [List.length_cons]; omega)
  rw [List.length_cons] at this
  rw [show r.length + 1 - 1 - (j + 1) = r.length - 1 - j by omega] at this
  exact this
theorem jStk.top {μ : jj_M} {q : Nat} {y : Int32} {r : List Int32} (h : jStk μ q (y :: r)) : μ q r.length = y := by
  have := h 0 (by rw [List.length_cons]; omega)
  rw [List.length_cons] at this
  rw [show r.length + 1 - 1 - 0 = r.length by omega] at this
  exact this
theorem gv_run (N p0 : Nat) (a b c : Int32) (code : List Int32) (hL : code.length ≤ 50) : ∀ (k i f : Nat) (st : List Int32) (μ : jj_M), i + k = code.length → k < f → st.length ≤ i → μ p0 1 = nI code.length → (∀ j, j < code.length → μ (p0 + 1) j = code.getD j 0) → jStk μ (p0 + 2) st → ∃ m, laf_worked_L6 N p0 a b c f (nI st.length) (nI i) μ = some (m (p0 + 2) 0, m) ∧ (∀ x, x ≠ p0 + 2 → m x = μ x) ∧ jStk m (p0 + 2) ((code.drop i).foldl (estep a b c) st) := by
  intro k
  induction k with
  | zero =>
    intro i f st μ hi hf hs h1 h2 h3
    obtain ⟨f, rfl⟩ : ∃ m, f = m + 1 := ⟨f - 1, by omega⟩
    have e : i = code.length := by omega
    subst e
    refine ⟨μ, ?_, fun _ _ => rfl, ?_⟩
    · rw [laf_worked_L6, h1, if_pos (Int32.le_refl _)]
    · rw [List.drop_length]; exact h3
  | succ k ih =>
    intro i f st μ hi hf hs h1 h2 h3
    obtain ⟨f, rfl⟩ : ∃ m, f = m + 1 := ⟨f - 1, by omega⟩
    have cc : ¬ nI code.length ≤ nI i := by rw [nz_le (by omega) (by omega)]; omega
    have gi : jj_i (nI i) 50 := nz_in (by omega) (by omega)
    have ki : (nI i).toNatClampNeg = i := nz_clamp (by omega)
    have hx := h2 i (by omega)
    obtain ⟨x, ex⟩ : ∃ x, x = code.getD i 0 := ⟨_, rfl⟩
    rw [← ex] at hx
    have hd : code.drop i = x :: code.drop (i + 1) := by
      rw [List.drop_eq_getElem_cons (by omega), ex]
      congr 1
      rw [List.getD_eq_getElem?_getD, List.getElem?_eq_getElem (by omega)]
      rfl
    rw [hd, List.foldl_cons]
    have step : ∃ st2 m2, st2 = estep a b c st x ∧ st2.length ≤ i + 1 ∧ (∀ y, y ≠ p0 + 2 → m2 y = μ y) ∧ jStk m2 (p0 + 2) st2 ∧ laf_worked_L6 N p0 a b c (f + 1) (nI st.length) (nI i) μ = laf_worked_L6 N p0 a b c f (nI st2.length) (nI (i + 1)) m2 := by
      by_cases q : x < 0
      rotate_left
      · have q' : 0 ≤ x := Int32.not_lt.mp q
        have g : jj_i (nI st.length) 50 := nz_in (by omega) (by omega)
        have kk : (nI st.length).toNatClampNeg = st.length := nz_clamp (by omega)
        have c50 : ¬ (50 : Int32) ≤ nI st.length := by rw [show (50 : Int32) = nI 50 from rfl, nz_le (by omega) (by omega)]; omega
        refine ⟨laf_plain x a b c :: st, jj_u μ (p0 + 2) st.length (laf_plain x a b c), by unfold estep; rw [if_pos q'], by rw [List.length_cons]; omega, fun y hy => ju_ne hy, h3.push _, ?_⟩
        rw [laf_worked_L6]
        simp only [h1, cc, eq_true gi, ki, hx, q, c50, eq_true g, kk, nz_s, List.length_cons, ↓reduceIte, Option.bind_some]
      · have q' : ¬ 0 ≤ x := fun e => absurd q (Int32.not_lt.mpr e)
        have e57 : laf_worked_L6 N p0 a b c (f + 1) (nI st.length) (nI i) μ = laf_worked_B57 N (laf_worked_L6 N p0 a b c f) p0 a b c (nI st.length) (nI i) x μ := by
          rw [laf_worked_L6]
          simp only [h1, cc, eq_true gi, ki, hx, q, ↓reduceIte]
        have join : (x = -33 → st = []) → ∃ st2 m2, st2 = estep a b c st x ∧ st2.length ≤ i + 1 ∧ (∀ y, y ≠ p0 + 2 → m2 y = μ y) ∧ jStk m2 (p0 + 2) st2 ∧ laf_worked_B98 N (laf_worked_L6 N p0 a b c f) p0 a b c (nI st.length) (nI i) x μ = laf_worked_L6 N p0 a b c f (nI st2.length) (nI (i + 1)) m2 := by
          intro hn
          unfold laf_worked_B98
          match st, hs, h3, hn with
          | [], hs, h3, hn =>
            refine ⟨[], μ, ?_, by rw [List.length_nil]; omega, fun _ _ => rfl, h3, ?_⟩
            · unfold estep
              rw [if_neg q']
              by_cases z : x = -33
              · rw [if_pos z]
              · rw [if_neg z]
            · rw [if_pos (by decide), nz_s]
          | [y], hs, h3, hn =>
            have z : ¬ x = -33 := fun e => by have := hn e; cases this
            refine ⟨[y], μ, ?_, by rw [List.length_singleton]; omega, fun _ _ => rfl, h3, ?_⟩
            · unfold estep
              rw [if_neg q', if_neg z]
            · rw [show nI [y].length = 1 from rfl, if_pos (by decide), nz_s]
          | y :: w :: r, hs, h3, hn =>
            have z : ¬ x = -33 := fun e => by have := hn e; cases this
            rw [List.length_cons, List.length_cons] at hs
            have t1 := h3.top
            have t2 := h3.pop.top
            rw [List.length_cons] at t1
            have n1 : ¬ nI (r.length + 1 + 1) ≤ 1 := by
              rw [show (1 : Int32) = nI 1 from rfl, nz_le (by omega) (by omega)]; omega
            have e1 : nI (r.length + 1 + 1) + -1 = nI (r.length + 1) := by
              rw [← Int32.sub_eq_add_neg, show (1 : Int32) = nI 1 from rfl, nz_sub (by omega)]
              rfl
            have e2 : nI (r.length + 1) - 1 = nI r.length := by rw [show (1 : Int32) = nI 1 from rfl, nz_sub (by omega)]; rfl
            have g1 : jj_i (nI (r.length + 1)) 50 := nz_in (by omega) (by omega)
            have g2 : jj_i (nI r.length) 50 := nz_in (by omega) (by omega)
            have k1 : (nI (r.length + 1)).toNatClampNeg = r.length + 1 := nz_clamp (by omega)
            have k2 : (nI r.length).toNatClampNeg = r.length := nz_clamp (by omega)
            refine ⟨ejoin (-x) w y :: r, jj_u μ (p0 + 2) r.length (ejoin (-x) w y), ?_, by rw [List.length_cons]; omega, fun y hy => ju_ne hy, h3.pop.pop.push _, ?_⟩
            · unfold estep
              rw [if_neg q', if_neg z]
            · simp only [n1, e1, e2, eq_true g1, eq_true g2, k1, k2, t1, t2, joined_ok, nz_s, List.length_cons, ↓reduceIte, Option.bind_some]
        rw [e57]
        unfold laf_worked_B57
        by_cases z : x = -33
        · rw [if_pos z]
          match st, hs, h3, join with
          | [], hs, h3, join =>
            rw [if_pos (by decide)]
            exact join (fun _ => rfl)
          | y :: r, hs, h3, join =>
            rw [List.length_cons] at hs
            have t1 := h3.top
            have n1 : ¬ nI (r.length + 1) ≤ 0 := by
              rw [show (0 : Int32) = nI 0 from rfl, nz_le (by omega) (by omega)]; omega
            have e1 : nI (r.length + 1) - 1 = nI r.length := by
              rw [show (1 : Int32) = nI 1 from rfl, nz_sub (by omega)]
              rfl
            have g2 : jj_i (nI r.length) 50 := nz_in (by omega) (by omega)
            have k2 : (nI r.length).toNatClampNeg = r.length := nz_clamp (by omega)
            refine ⟨(if y = 0 then 1 else 0) :: r, jj_u μ (p0 + 2) r.length (if y = 0 then 1 else 0), ?_, by rw [List.length_cons]; omega, fun y hy => ju_ne hy, h3.pop.push _, ?_⟩
            · unfold estep
              rw [if_neg q', if_pos z]
            · by_cases y0 : y = 0
              · simp only [n1, e1, eq_true g2, k2, t1, y0, nz_s, List.length_cons, ↓reduceIte]
              · simp only [n1, e1, eq_true g2, k2, t1, y0, nz_s, List.length_cons, ↓reduceIte]
        · rw [if_neg z]
          exact join (fun e => absurd e z)
    obtain ⟨st2, m2, e1, e2, e3, e4, e5⟩ := step
    obtain ⟨m, r1, r2, r3⟩ := ih (i + 1) f st2 m2 (by omega) (by omega) e2 (by rw [e3 p0 (by omega)]; exact h1) (fun j hj => by rw [e3 (p0 + 1) (by omega)]; exact h2 j hj) e4
    rw [← e1]
    exact ⟨m, by rw [e5]; exact r1, fun x hx => by rw [r2 x hx, e3 x hx], r3⟩
