/-! what a law gives -/
def lvv (S : Nat → Int32) (u : Nat) (a b c : Int32) : Int32 := if S (179 + u) = -1 then (if u = 0 then 1 + b / 4 else a) else eval (pt (fun i => S (231 + 50 * u + i)) (S (179 + u)).toNatClampNeg u).1 a b c
def lawv (S : Nat → Int32) (u : Nat) (a b c : Int32) : Int32 := jdf_max 0 (jdf_min 99 (lvv S u a b c))
theorem gives_ok {μ : jj_M} {S : Nat → Int32} {p0 u : Nat} (hl : jLaw S (μ p0) (μ (p0 + 1)) u) (hu : u < 2) (a b c : Int32) : ∃ m, laf_gives jz_N p0 a b c μ = some (lawv S u a b c, m) ∧ ∀ x, x ≠ p0 + 2 → m x = μ x := by
  obtain ⟨h2, hl⟩ := hl
  unfold laf_gives lawv lvv
  rcases hl with ⟨e, f⟩ | ⟨L, l1, l2, l3, l4, l5, l6, l7, l8, l9⟩
  · refine ⟨μ, ?_, fun _ _ => rfl⟩
    rw [if_pos f, if_pos e]
    unfold laf_withoutText
    rw [h2]
    by_cases q : u = 0
    · rw [if_pos q, q, if_pos (show nI 0 = 0 from rfl)]
    · rw [if_neg q, if_neg (by rw [show (0 : Int32) = nI 0 from rfl]; exact nI_ne (by omega) (by omega) q)]
  · have n0 : ¬ μ p0 1 = 0 := by
      rw [l8, show (0 : Int32) = nI 0 from rfl]
      exact nI_ne (by omega) (by omega) (by omega)
    have n1 : ¬ S (179 + u) = -1 := by
      intro e
      rw [l3] at e
      have x : (nI L).toInt = -1 := by rw [e]; decide
      rw [nz_toInt (by omega)] at x
      omega
    rw [if_neg n0, if_neg n1, l3, nz_clamp (by omega)]
    obtain ⟨v, ev⟩ := pj_one (ph (fun i => S (231 + 50 * u + i)) L) u a b c 50 0 0 0 (by omega) l4 []
    have big := jz_ge
    obtain ⟨m, m1, m2, m3⟩ := gv_run jz_N p0 a b c (pt (fun i => S (231 + 50 * u + i)) L u).1 l7 (pt (fun i => S (231 + 50 * u + i)) L u).1.length 0 jz_N [] μ (by omega) (by omega) (by rw [List.length_nil]; omega) l8 l9 (fun j hj => by rw [List.length_nil] at hj; omega)
    have e2 : (pt (fun i => S (231 + 50 * u + i)) L u).1.foldl (estep a b c) [] = [v] := ev
    rw [List.drop_zero, e2] at m3
    have t := m3 0 (by rw [List.length_singleton]; omega)
    have t : m (p0 + 2) 0 = v := t
    refine ⟨m, ?_, m2⟩
    unfold laf_worked
    have m1 : laf_worked_L6 jz_N p0 a b c jz_N 0 0 μ = some (m (p0 + 2) 0, m) := m1
    rw [m1, Option.bind_some, t]
    unfold eval erun
    rw [e2]
    rfl
