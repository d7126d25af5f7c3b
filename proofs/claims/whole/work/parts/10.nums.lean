/-! ===== numbers and memory ===== -/
theorem nz_add (a b : Nat) : nI a + nI b = nI (a + b) := by unfold nI; rw [Int32.ofNat_add]
theorem nz_mul (a b : Nat) : nI a * nI b = nI (a * b) := by unfold nI; rw [Int32.ofNat_mul]
theorem nz_lit (n : Nat) : (OfNat.ofNat n : Int32) = nI n := rfl
theorem nz_toInt {n : Nat} (h : n < 2147483648) : (nI n).toInt = (n : Int) := nI_toInt h
theorem nz_clamp {n : Nat} (h : n < 2147483648) : (nI n).toNatClampNeg = n := nI_clamp h
theorem nz_inj {a b : Nat} (ha : a < 2147483648) (hb : b < 2147483648) (h : nI a = nI b) : a = b := by
  have h1 := congrArg Int32.toNatClampNeg h
  rwa [nz_clamp ha, nz_clamp hb] at h1
theorem nz_le {a b : Nat} (ha : a < 2147483648) (hb : b < 2147483648) : nI a ≤ nI b ↔ a ≤ b := by
  rw [Int32.le_iff_toInt_le, nz_toInt ha, nz_toInt hb]; omega
theorem nz_lt {a b : Nat} (ha : a < 2147483648) (hb : b < 2147483648) : nI a < nI b ↔ a < b := by
  rw [Int32.lt_iff_toInt_lt, nz_toInt ha, nz_toInt hb]; omega
/-- a number that is not below 0 is one of the naturals -/
theorem nz_of {x : Int32} (h : 0 ≤ x.toInt) : x = nI x.toInt.toNat := by
  apply Int32.toInt_inj.mp
  rw [nz_toInt (by have := x.toInt_lt; omega)]
  omega
theorem nz_ofb {x : Int32} {n : Nat} (h : 0 ≤ x.toInt) (h2 : x.toInt < n) : ∃ k, k < n ∧ x = nI k := ⟨x.toInt.toNat, by omega, nz_of h⟩
theorem nz_addI {x y : Int32} (h1 : -2147483648 ≤ x.toInt + y.toInt) (h2 : x.toInt + y.toInt ≤ 2147483647) : (x + y).toInt = x.toInt + y.toInt := by
  rw [Int32.toInt_add]; apply Int.bmod_eq_of_le <;> omega
theorem nz_subI {x y : Int32} (h1 : -2147483648 ≤ x.toInt - y.toInt) (h2 : x.toInt - y.toInt ≤ 2147483647) : (x - y).toInt = x.toInt - y.toInt := by
  rw [Int32.toInt_sub]; apply Int.bmod_eq_of_le <;> omega
theorem nz_mulI {x y : Int32} (h1 : -2147483648 ≤ x.toInt * y.toInt) (h2 : x.toInt * y.toInt ≤ 2147483647) : (x * y).toInt = x.toInt * y.toInt := by
  rw [Int32.toInt_mul]; apply Int.bmod_eq_of_le <;> omega
theorem nz_in {n N : Nat} (h : n < N) (hN : N ≤ 2147483648) : jj_i (nI n) N := by
  intro q
  rcases q with q | q
  · rw [Int32.lt_iff_toInt_lt, nz_toInt (by omega)] at q
    have : (0 : Int32).toInt = 0 := by decide
    omega
  · rw [nz_clamp (by omega)] at q
    omega
theorem nz_sub {a b : Nat} (h : b ≤ a) : nI a - nI b = nI (a - b) := by
  have h1 : nI (a - b) + nI b = nI a := by rw [nz_add]; congr 1; omega
  rw [← h1, Int32.add_sub_cancel]
/-- reading behind a write -/
theorem ju_app (μ : jj_M) (k j : Nat) (v : Int32) (a b : Nat) : jj_u μ k j v a b = if a = k then (if b = j then v else μ k b) else μ a b := by
  unfold jj_u
  by_cases h : a = k
  · rw [if_pos h, if_pos h]; rfl
  · rw [if_neg h, if_neg h]
theorem ju_row (μ : jj_M) (k j : Nat) (v : Int32) (a : Nat) : jj_u μ k j v a = if a = k then upd (μ k) j v else μ a := rfl
theorem ju_ne {μ : jj_M} {k j : Nat} {v : Int32} {a : Nat} (h : a ≠ k) : jj_u μ k j v a = μ a := if_neg h
theorem juc_ne {μ : jj_M} {k : Nat} {f : Nat → Int32} {a : Nat} (h : a ≠ k) : jj_uc μ k f a = μ a := if_neg h
theorem juc_eq {μ : jj_M} {k : Nat} {f : Nat → Int32} : jj_uc μ k f k = f := if_pos rfl
theorem ju_self {μ : jj_M} {k j : Nat} {v : Int32} : jj_u μ k j v k j = v := by rw [ju_app, if_pos rfl, if_pos rfl]
theorem ju_other {μ : jj_M} {k j b : Nat} {v : Int32} (h : b ≠ j) : jj_u μ k j v k b = μ k b := by rw [ju_app, if_pos rfl, if_neg h]
/-! tests of both sides are the same -/
theorem nz_cmp (x y : Int32) : (lg_cmp (Int32.toInt64 x) (Int32.toInt64 y) < 0 ↔ x < y) ∧ (0 < lg_cmp (Int32.toInt64 x) (Int32.toInt64 y) ↔ y < x) := by
  unfold lg_cmp
  have e : Int32.toInt64 x = Int32.toInt64 y ↔ x = y := by
    rw [← Int64.toInt_inj, Int32.toInt_toInt64, Int32.toInt_toInt64, Int32.toInt_inj]
  by_cases h1 : y < x
  · have h2 : Int32.toInt64 y < Int32.toInt64 x := Int32.toInt64_lt.mpr h1
    rw [if_pos h2]
    have h3 : ¬ x < y := by rw [Int32.lt_iff_toInt_lt] at h1 ⊢; omega
    exact ⟨⟨fun q => absurd q (by decide), fun q => absurd q h3⟩, ⟨fun _ => h1, fun _ => by decide⟩⟩
  · have h2 : ¬ Int32.toInt64 y < Int32.toInt64 x := fun q => h1 (Int32.toInt64_lt.mp q)
    rw [if_neg h2]
    by_cases h3 : x = y
    · rw [if_pos (e.mpr h3)]
      subst h3
      exact ⟨⟨fun q => absurd q (by decide), fun q => absurd q h1⟩, ⟨fun q => absurd q (by decide), fun q => absurd q h1⟩⟩
    · rw [if_neg (fun q => h3 (e.mp q))]
      have h4 : x < y := by
        rw [Int32.lt_iff_toInt_lt] at h1 ⊢
        have : x.toInt ≠ y.toInt := fun q => h3 (Int32.toInt_inj.mp q)
        omega
      exact ⟨⟨fun _ => h4, fun _ => by decide⟩, ⟨fun q => absurd q (by decide), fun q => absurd q h1⟩⟩
theorem nz_within (x a b : Int32) : mdf_in (Int32.toInt64 x) (Int32.toInt64 a) (Int32.toInt64 b) = wnf_within x a b := by
  unfold mdf_in wnf_within
  simp only [(nz_cmp x a).1, (nz_cmp x b).2]
theorem nz_isWell (x : Int32) : mdf_isWell x = wnf_isWell x := nz_within x 0 7
theorem nz_w0 {x a b : Int32} : wnf_within x a b = 0 ↔ ¬ (a.toInt ≤ x.toInt ∧ x.toInt ≤ b.toInt) := by
  unfold wnf_within
  simp only [Int32.lt_iff_toInt_lt]
  by_cases h1 : x.toInt < a.toInt
  · rw [if_pos h1]; exact ⟨fun _ q => by omega, fun _ => rfl⟩
  · rw [if_neg h1]
    by_cases h2 : b.toInt < x.toInt
    · rw [if_pos h2]; exact ⟨fun _ q => by omega, fun _ => rfl⟩
    · rw [if_neg h2]; exact ⟨fun q => absurd q (by decide), fun q => absurd ⟨by omega, by omega⟩ q⟩
theorem nz_well {x : Int32} (h : ¬ wnf_isWell x = 0) : ∃ n, n < 8 ∧ x = nI n := by
  unfold wnf_isWell at h
  rw [nz_w0] at h
  have h1 : (0 : Int32).toInt = 0 := by decide
  have h2 : (7 : Int32).toInt = 7 := by decide
  rw [h1, h2] at h
  exact nz_ofb (n := 8) (by omega) (by omega)
theorem nz_isW {n : Nat} (h : n < 8) : ¬ wnf_isWell (nI n) = 0 := by
  unfold wnf_isWell
  rw [nz_w0, nz_toInt (by omega)]
  have h1 : (0 : Int32).toInt = 0 := by decide
  have h2 : (7 : Int32).toInt = 7 := by decide
  omega
