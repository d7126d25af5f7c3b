/-! ===== the calls, one by one: simple ones ===== -/
theorem refuse_ok {e : Nat} (he : e < 6) (μ : jj_M) : wnf_refuse (nI e) μ = some (-1000000000 - nI e, jj_u μ 59 e (μ 59 e + 1)) := by
  unfold wnf_refuse
  have g : jj_i (nI e) 6 := nz_in he (by omega)
  rw [if_pos g, if_pos g, nz_clamp (by omega)]
theorem errs_ok {e : Nat} (he : e < 6) (μ : jj_M) : mdf_errs (-1000000000 - nI e) μ = some (-1000000000 - nI e, jj_u μ 64 e (μ 64 e + 1)) := by
  unfold mdf_errs
  have e1 : (-1000000000 : Int32) - (-1000000000 - nI e) = nI e := by
    apply Int32.toInt_inj.mp
    have h1 : (-1000000000 : Int32).toInt = -1000000000 := by decide
    have h2 : (nI e).toInt = e := nz_toInt (by omega)
    have h3 : ((-1000000000 : Int32) - nI e).toInt = -1000000000 - e := by rw [nz_subI (by omega) (by omega), h1, h2]
    rw [nz_subI (by omega) (by omega), h1, h3, h2]
    omega
  have g : jj_i (nI e) 6 := nz_in he (by omega)
  rw [e1, if_pos g, if_pos g, nz_clamp (by omega)]
  rfl
/-- both sides refuse -/
theorem both_err {μ : jj_M} (h : jI μ) {e : Nat} (he : e < 6) : ∃ m1 m2, wnf_refuse (nI e) μ = some (-1000000000 - nI e, m1) ∧ mdf_errs (-1000000000 - nI e) m1 = some (-1000000000 - nI e, m2) ∧ jI m2 := by
  refine ⟨_, _, refuse_ok he μ, errs_ok he _, ?_⟩
  have e1 : jj_u μ 59 e (μ 59 e + 1) 64 e = μ 59 e := by
    rw [ju_ne (by omega)]
    exact (h.2.2.1 e he).symm
  rw [e1]
  exact h.err
theorem err1 {μ : jj_M} (h : jI μ) : ∃ m1 m2, wnf_refuse 1 μ = some (-1000000001, m1) ∧ mdf_errs (-1000000001) m1 = some (-1000000001, m2) ∧ jI m2 := both_err h (e := 1) (by omega)
theorem err2 {μ : jj_M} (h : jI μ) : ∃ m1 m2, wnf_refuse 2 μ = some (-1000000002, m1) ∧ mdf_errs (-1000000002) m1 = some (-1000000002, m2) ∧ jI m2 := both_err h (e := 2) (by omega)
theorem err3 {μ : jj_M} (h : jI μ) : ∃ m1 m2, wnf_refuse 3 μ = some (-1000000003, m1) ∧ mdf_errs (-1000000003) m1 = some (-1000000003, m2) ∧ jI m2 := both_err h (e := 3) (by omega)
theorem err4 {μ : jj_M} (h : jI μ) : ∃ m1 m2, wnf_refuse 4 μ = some (-1000000004, m1) ∧ mdf_errs (-1000000004) m1 = some (-1000000004, m2) ∧ jI m2 := both_err h (e := 4) (by omega)
theorem err5 {μ : jj_M} (h : jI μ) : ∃ m1 m2, wnf_refuse 5 μ = some (-1000000005, m1) ∧ mdf_errs (-1000000005) m1 = some (-1000000005, m2) ∧ jI m2 := both_err h (e := 5) (by omega)
theorem becomes_ok {n : Nat} (hn : n < 351) (v : Int32) (μ : jj_M) : mdf_becomes (nI n) v μ = some (μ 61 n, jj_u μ 61 n v) := by
  unfold mdf_becomes
  have g : jj_i (nI n) 351 := nz_in hn (by omega)
  rw [if_pos g, if_pos g, nz_clamp (by omega)]
theorem w_b {x a b : Int32} (h : ¬ wnf_within x a b = 0) : a.toInt ≤ x.toInt ∧ x.toInt ≤ b.toInt := by
  rw [nz_w0] at h
  omega
theorem st_water {μ : jj_M} (h : jI μ) (x1 x2 : Int32) : ∃ (r : Int32) (μ1 : jj_M) (μ2 : jj_M), wnf_water x1 x2 μ = some (r, μ1) ∧ mdf_water x1 x2 μ1 = some (r, μ2) ∧ jI μ2 := by
  unfold wnf_water mdf_water
  rw [nz_isWell, show mdf_in (Int32.toInt64 x2) 0 99 = wnf_within x2 0 99 from nz_within x2 0 99]
  by_cases c1 : wnf_isWell x1 = 0
  · obtain ⟨m1, m2, a, b, c⟩ := err1 h
    exact ⟨_, m1, m2, by rw [if_pos c1, a]; rfl, by rw [if_pos c1, b]; rfl, c⟩
  by_cases c2 : wnf_within x2 0 99 = 0
  · obtain ⟨m1, m2, a, b, c⟩ := err1 h
    exact ⟨_, m1, m2, by rw [if_neg c1, if_pos c2, a]; rfl, by rw [if_neg c1, if_pos c2, b]; rfl, c⟩
  obtain ⟨n, hn, rfl⟩ := nz_well c1
  have g : jj_i (nI n) 8 := nz_in hn (by omega)
  have hb := w_b c2
  have e1 : lc 1 n = 2 := by unfold lc; rw [if_pos hn]
  have e2 : li n = n := by unfold li; rw [if_pos hn]
  have ha := h.ag (j := n) (by omega)
  rw [e1, e2] at ha
  have hw := h.wr (j := n) (v := x2) (by unfold dm; omega) (by omega) (h.S.up (by omega) (fun _ => by unfold bdh; rw [if_pos hn]; exact hb))
  rw [e1, e2] at hw
  refine ⟨μ 2 n, jj_u μ 2 n x2, jj_u (jj_u μ 2 n x2) 61 n x2, ?_, ?_, hw⟩
  · rw [if_neg c1, if_neg c2, if_pos g, if_pos g, nz_clamp (by omega)]
  · rw [if_neg c1, if_neg c2, show (0 : Int32) + nI n = nI n from by rw [show (0 : Int32) = nI 0 from rfl, nz_add, Nat.zero_add], becomes_ok (by omega), ju_ne (show (61 : Nat) ≠ 2 by decide), ha]
    rfl
theorem st_rain {μ : jj_M} (h : jI μ) (x1 : Int32) : ∃ (r : Int32) (μ1 : jj_M) (μ2 : jj_M), wnf_rain x1 μ = some (r, μ1) ∧ mdf_rain x1 μ1 = some (r, μ2) ∧ jI μ2 := by
  unfold wnf_rain mdf_rain
  rw [show mdf_in (Int32.toInt64 x1) 0 9 = wnf_within x1 0 9 from nz_within x1 0 9]
  by_cases c1 : wnf_within x1 0 9 = 0
  · obtain ⟨m1, m2, a, b, c⟩ := err1 h
    exact ⟨_, m1, m2, by rw [if_pos c1, a]; rfl, by rw [if_pos c1, b]; rfl, c⟩
  have hb := w_b c1
  have ha := h.ag (j := 136) (by omega)
  have hw := h.wr (j := 136) (v := x1) (by unfold dm; omega) (by omega) (h.S.up (by omega) (fun _ => hb))
  refine ⟨μ 1 8, jj_u μ 1 8 x1, jj_u (jj_u μ 1 8 x1) 61 136 x1, ?_, ?_, hw⟩
  · rw [if_neg c1]
  · rw [if_neg c1, show (136 : Int32) = nI 136 from rfl, becomes_ok (by omega), ju_ne (show (61 : Nat) ≠ 1 by decide)]
    rw [show μ 1 8 = μ 61 136 from ha]
    rfl
theorem st_seed {μ : jj_M} (h : jI μ) (x1 : Int32) : ∃ (r : Int32) (μ1 : jj_M) (μ2 : jj_M), wnf_seed x1 μ = (r, μ1) ∧ mdf_seed x1 μ1 = some (r, μ2) ∧ jI μ2 := by
  unfold wnf_seed mdf_seed
  have ha := h.ag (j := 176) (by omega)
  have hw := h.wr (j := 176) (v := x1) (by unfold dm; omega) (by omega) (h.S.up (by omega) (fun q => by omega))
  refine ⟨μ 1 13, jj_u μ 1 13 x1, jj_u (jj_u μ 1 13 x1) 61 176 x1, rfl, ?_, hw⟩
  rw [show (176 : Int32) = nI 176 from rfl, becomes_ok (by omega), ju_ne (show (61 : Nat) ≠ 1 by decide)]
  rw [show μ 1 13 = μ 61 176 from ha]
  rfl
