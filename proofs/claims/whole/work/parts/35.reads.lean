/-! the reference's reading of a text, if its recursive part reads right -/
def anyOk (N : Nat) : Prop := ∀ (μ : jj_M) (L u : Nat) (a b c : Int32), L ≤ 50 → u < 2 → μ 60 5 = nI (231 + 50 * u) → μ 60 6 = nI L → μ 60 7 = 0 → μ 60 8 = 0 → μ 60 9 = nI u → μ 60 10 = a → μ 60 11 = b → μ 60 12 = c → μ 60 13 = 0 → (pt (fun i => μ 61 (231 + 50 * u + i)) L u).2.2 = false → (pt (fun i => μ 61 (231 + 50 * u + i)) L u).2.1 = L → ∃ m, mdf_any_G N μ = some (eval (pt (fun i => μ 61 (231 + 50 * u + i)) L u).1 a b c, m) ∧ jTh μ m ∧ m 60 13 = 0 ∧ m 60 6 = nI L ∧ m 60 7 = nI L
theorem reads_ok {N : Nat} (hA : anyOk N) {μ : jj_M} {L u : Nat} (a b c : Int32) (hL : L ≤ 50) (hu : u < 2) (h1 : (pt (fun i => μ 61 (231 + 50 * u + i)) L u).2.2 = false) (h2 : (pt (fun i => μ 61 (231 + 50 * u + i)) L u).2.1 = L) : ∃ m, mdf_readsText N (nI (231 + 50 * u)) (nI L) (nI u) a b c μ = some (eval (pt (fun i => μ 61 (231 + 50 * u + i)) L u).1 a b c, m) ∧ jTh μ m := by
  unfold mdf_readsText
  simp only [Option.bind_some]
  obtain ⟨M, hM⟩ : ∃ M, M = jj_u (jj_u (jj_u (jj_u (jj_u (jj_u (jj_u (jj_u (jj_u μ 60 5 (nI (231 + 50 * u))) 60 6 (nI L)) 60 7 0) 60 8 0) 60 9 (nI u)) 60 10 a) 60 11 b) 60 12 c) 60 13 0 := ⟨_, rfl⟩
  rw [← hM]
  have M61 : M 61 = μ 61 := by rw [hM]; iterate 9 rw [ju_ne (by decide)]
  have th : jTh μ M := by
    rw [hM]
    exact ((((((((jTh.rf.u60 (by omega) (by omega)).u60 (by omega) (by omega)).u60 (by omega) (by omega)).u60 (by omega) (by omega)).u60 (by omega) (by omega)).u60 (by omega) (by omega)).u60 (by omega) (by omega)).u60 (by omega) (by omega)).u60 (by omega) (by omega)
  have f5 : M 60 5 = nI (231 + 50 * u) := by rw [hM]; iterate 8 rw [ju_other (by decide)]
                                             exact ju_self
  have f6 : M 60 6 = nI L := by rw [hM]; iterate 7 rw [ju_other (by decide)]
                                exact ju_self
  have f7 : M 60 7 = 0 := by rw [hM]; iterate 6 rw [ju_other (by decide)]
                             exact ju_self
  have f8 : M 60 8 = 0 := by rw [hM]; iterate 5 rw [ju_other (by decide)]
                             exact ju_self
  have f9 : M 60 9 = nI u := by rw [hM]; iterate 4 rw [ju_other (by decide)]
                                exact ju_self
  have f10 : M 60 10 = a := by rw [hM]; iterate 3 rw [ju_other (by decide)]
                               exact ju_self
  have f11 : M 60 11 = b := by rw [hM]; iterate 2 rw [ju_other (by decide)]
                               exact ju_self
  have f12 : M 60 12 = c := by rw [hM, ju_other (by decide)]; exact ju_self
  have f13 : M 60 13 = 0 := by rw [hM]; exact ju_self
  obtain ⟨m, m1, m2, m3, m4, m5⟩ := hA M L u a b c hL hu f5 f6 f7 f8 f9 f10 f11 f12 f13 (by rw [M61]; exact h1) (by rw [M61]; exact h2)
  rw [M61] at m1
  refine ⟨jj_u m 60 13 0, ?_, (th.tr m2).u60 (by omega) (by omega)⟩
  rw [m1]
  simp only [Option.bind_some, m3, m4, m5, Int32.le_refl, ↓reduceIte]
theorem worked_ok {N : Nat} (hA : anyOk N) {μ : jj_M} {L u : Nat} (a b c : Int32) (hL : L ≤ 50) (hu : u < 2) (eL : μ 61 (179 + u) = nI L) (h1 : (pt (fun i => μ 61 (231 + 50 * u + i)) L u).2.2 = false) (h2 : (pt (fun i => μ 61 (231 + 50 * u + i)) L u).2.1 = L) : ∃ m, mdf_worked N (nI u) a b c μ = some (eval (pt (fun i => μ 61 (231 + 50 * u + i)) L u).1 a b c, m) ∧ jTh μ m := by
  unfold mdf_worked
  have e1 : (179 : Int32) + nI u = nI (179 + u) := by rw [show (179 : Int32) = nI 179 from rfl, nz_add]
  have e2 : (231 : Int32) + 50 * nI u = nI (231 + 50 * u) := by rw [show (231 : Int32) = nI 231 from rfl, show (50 : Int32) = nI 50 from rfl, nz_mul, nz_add]
  have g : jj_i (nI (179 + u)) 351 := nz_in (by omega) (by omega)
  have k : (nI (179 + u)).toNatClampNeg = 179 + u := nz_clamp (by omega)
  obtain ⟨m, m1, m2⟩ := reads_ok hA a b c hL hu h1 h2
  refine ⟨m, ?_, m2⟩
  simp only [e1, e2, eq_true g, k, eL, m1, ↓reduceIte, Option.bind_some]
theorem gives_m {μ : jj_M} {F C : Nat → Int32} {u : Nat} (hA : anyOk jz_N) (hl : jLaw (μ 61) F C u) (hu : u < 2) (a b c : Int32) : ∃ m, (if u = 0 then mdf_needed jz_N a b c μ else mdf_parched jz_N a b c μ) = some (lawv (μ 61) u a b c, m) ∧ jTh μ m := by
  obtain ⟨h2, hl⟩ := hl
  unfold lawv lvv
  rw [← held_ok]
  have neg : ¬ (0 : Int32) ≤ -1 := by decide
  rcases hl with ⟨e, f⟩ | ⟨L, l1, l2, l3, l4, l5, l6, l7, l8, l9⟩
  · refine ⟨μ, ?_, jTh.rf⟩
    rcases (by omega : u = 0 ∨ u = 1) with rfl | rfl
    · have e : μ 61 179 = -1 := e
      unfold mdf_needed
      rw [if_pos rfl, e, if_neg neg, if_pos rfl, if_pos rfl]
    · have e : μ 61 180 = -1 := e
      unfold mdf_parched
      rw [if_neg (by decide), e, if_neg neg, if_pos rfl, if_neg (by decide)]
  · have n1 : ¬ μ 61 (179 + u) = -1 := by
      intro e
      rw [l3] at e
      have x : (nI L).toInt = -1 := by rw [e]; decide
      rw [nz_toInt (by omega)] at x
      omega
    obtain ⟨m, m1, m2⟩ := worked_ok hA a b c l2 hu l3 l4 l5
    rw [if_neg n1]
    have eL : (μ 61 (179 + u)).toNatClampNeg = L := by rw [l3, nz_clamp (by omega)]
    have pos : (0 : Int32) ≤ nI L := nI_nn (by omega)
    refine ⟨m, ?_, m2⟩
    rcases (by omega : u = 0 ∨ u = 1) with rfl | rfl
    · have l3 : μ 61 179 = nI L := l3
      have m1 : mdf_worked jz_N 0 a b c μ = _ := m1
      unfold mdf_needed
      rw [if_pos rfl, l3, if_pos pos, m1, nz_clamp (show L < 2147483648 by omega)]
      rfl
    · have l3 : μ 61 180 = nI L := l3
      have m1 : mdf_worked jz_N 1 a b c μ = _ := m1
      unfold mdf_parched
      rw [if_neg (by decide), l3, if_pos pos, m1, nz_clamp (show L < 2147483648 by omega)]
      rfl
