theorem st_person {μ : jj_M} (h : jI μ) (x1 x2 : Int32) : ∃ (r : Int32) (μ1 : jj_M) (μ2 : jj_M), wnf_person x1 x2 μ = some (r, μ1) ∧ mdf_person x1 x2 μ1 = some (r, μ2) ∧ jI μ2 := by
  unfold wnf_person mdf_person
  obtain ⟨n, hn, en, en1⟩ := h.n
  rw [show wnf_isKindWithNumber x1 = wnf_within x1 0 69 from rfl, show mdf_isMind x1 = wnf_within x1 0 69 from nz_within x1 0 69, nz_isWell]
  by_cases c1 : wnf_within x1 0 69 = 0
  · obtain ⟨m1, m2, a, b, c⟩ := err1 h
    exact ⟨-1000000001, m1, m2, by rw [if_pos c1, a]; rfl, by rw [if_pos c1, b]; rfl, c⟩
  by_cases c2 : wnf_isWell x2 = 0
  · obtain ⟨m1, m2, a, b, c⟩ := err1 h
    exact ⟨-1000000001, m1, m2, by rw [if_neg c1, if_pos c2, a]; rfl, by rw [if_neg c1, if_pos c2, b]; rfl, c⟩
  by_cases c3 : n = 6
  · obtain ⟨m1, m2, a, b, c⟩ := err4 h
    have em : m1 61 139 = 6 := by
      rw [show wnf_refuse 4 μ = _ from refuse_ok (e := 4) (by omega) μ] at a
      rw [← (Prod.mk.inj (Option.some.inj a)).2, ju_ne (by decide), en, c3]; rfl
    refine ⟨-1000000004, m1, m2, ?_, ?_, c⟩
    · rw [if_neg c1, if_neg c2, en1, c3, if_neg (by decide), a]; rfl
    · rw [if_neg c1, if_neg c2, em, if_pos rfl, b]; rfl
  obtain ⟨k, m, hk, hm, ek, ekm⟩ := km_ok c1
  obtain ⟨w, hw, rfl⟩ := nz_well c2
  have hn6 : n < 6 := by omega
  have ekm' : x1 - nI k * 10 = nI m := by rw [← ek]; exact ekm
  have g : jj_i (nI n) 6 := nz_in (by omega) (by omega)
  have kp : (nI n).toNatClampNeg = n := nz_clamp (by omega)
  have d9 : 5 + 4 + n = 9 + n := by omega
  have lt6 : nI n < 6 := by rw [show (6 : Int32) = nI 6 from rfl, nz_lt (by omega) (by omega)]; exact hn6
  have ne6 : ¬ nI n = 6 := by rw [show (6 : Int32) = nI 6 from rfl]; exact nI_ne (by omega) (by omega) c3
  have i2 : nI n + 1 = nI (n + 1) := nz_add n 1
  have gs : ∀ j, j < 6 → jj_i (nI (140 + 6 * n + j)) 351 := fun j hj => nz_in (by omega) (by omega)
  have ks : ∀ j, j < 6 → (nI (140 + 6 * n + j)).toNatClampNeg = 140 + 6 * n + j := fun j hj => nz_clamp (by omega)
  have s0 : mdf_spot (nI n) 0 = nI (140 + 6 * n + 0) := spot_ok n 0
  have s1 : mdf_spot (nI n) 1 = nI (140 + 6 * n + 1) := spot_ok n 1
  have s2 : mdf_spot (nI n) 2 = nI (140 + 6 * n + 2) := spot_ok n 2
  have s3 : mdf_spot (nI n) 3 = nI (140 + 6 * n + 3) := spot_ok n 3
  have s4 : mdf_spot (nI n) 4 = nI (140 + 6 * n + 4) := spot_ok n 4
  have s5 : mdf_spot (nI n) 5 = nI (140 + 6 * n + 5) := spot_ok n 5
  have hJ := jJ.list [(140 + 6 * n + 0, nI k), (140 + 6 * n + 1, nI m), (140 + 6 * n + 2, nI w), (140 + 6 * n + 3, -1), (140 + 6 * n + 4, 0), (140 + 6 * n + 5, 0)] μ (fun q hq => by
    simp only [List.mem_cons, List.not_mem_nil, or_false] at hq
    rcases hq with rfl | rfl | rfl | rfl | rfl | rfl <;> exact ⟨by unfold dm; omega, by omega, fun a b c => by first | omega | exact Or.inl rfl⟩) h.J
  simp only [cw, mw, List.foldl] at hJ
  rw [lc_p n 0 (by omega) (by omega), lc_p n 1 (by omega) (by omega), lc_p n 2 (by omega) (by omega), lc_p n 3 (by omega) (by omega), lc_p n 4 (by omega) (by omega), lc_p n 5 (by omega) (by omega), li_p n 0 (by omega) (by omega), li_p n 1 (by omega) (by omega), li_p n 2 (by omega) (by omega), li_p n 3 (by omega) (by omega), li_p n 4 (by omega) (by omega), li_p n 5 (by omega) (by omega)] at hJ
  rw [show jj_u (jj_u (jj_u (jj_u (jj_u (jj_u μ (9 + n) 0 (nI k)) (9 + n) 1 (nI m)) (9 + n) 2 (nI w)) (9 + n) 3 (-1)) (9 + n) 4 0) (9 + n) 5 0 = pef_begin (9 + n) (nI k) (nI m) (nI w) μ from rfl] at hJ
  obtain ⟨C, hC⟩ : ∃ C, C = pef_begin (9 + n) (nI k) (nI m) (nI w) μ := ⟨_, rfl⟩
  rw [← hC] at hJ
  have cC : ∀ a, a ≠ 9 + n → C a = μ a := fun a ha => by rw [hC]; unfold pef_begin; rw [ju_ne ha, ju_ne ha, ju_ne ha, ju_ne ha, ju_ne ha, ju_ne ha]
  have C17 : C 1 7 = nI n := by rw [cC 1 (by omega)]; exact en1
  obtain ⟨M, hM⟩ : ∃ M, M = jj_u (jj_u (jj_u (jj_u (jj_u (jj_u C 61 (140 + 6 * n + 0) (nI k)) 61 (140 + 6 * n + 1) (nI m)) 61 (140 + 6 * n + 2) (nI w)) 61 (140 + 6 * n + 3) (-1)) 61 (140 + 6 * n + 4) 0) 61 (140 + 6 * n + 5) 0 := ⟨_, rfl⟩
  rw [← hM] at hJ
  have mM : ∀ a, a ≠ 61 → M a = C a := fun a ha => by rw [hM]; rw [ju_ne ha, ju_ne ha, ju_ne ha, ju_ne ha, ju_ne ha, ju_ne ha]
  have mS : ∀ b, (b < 140 + 6 * n ∨ 146 + 6 * n ≤ b) → M 61 b = μ 61 b := fun b hb => by rw [hM]; rw [ju_other (by omega), ju_other (by omega), ju_other (by omega), ju_other (by omega), ju_other (by omega), ju_other (by omega), cC 61 (by omega)]
  have M0 : M 61 (140 + 6 * n + 0) = nI k := by rw [hM]; rw [ju_other (by omega), ju_other (by omega), ju_other (by omega), ju_other (by omega), ju_other (by omega), ju_self]
  have M1 : M 61 (140 + 6 * n + 1) = nI m := by rw [hM]; rw [ju_other (by omega), ju_other (by omega), ju_other (by omega), ju_other (by omega), ju_self]
  have M2 : M 61 (140 + 6 * n + 2) = nI w := by rw [hM]; rw [ju_other (by omega), ju_other (by omega), ju_other (by omega), ju_self]
  have M3 : M 61 (140 + 6 * n + 3) = -1 := by rw [hM]; rw [ju_other (by omega), ju_other (by omega), ju_self]
  have M4 : M 61 (140 + 6 * n + 4) = 0 := by rw [hM]; rw [ju_other (by omega), ju_self]
  have M5 : M 61 (140 + 6 * n + 5) = 0 := by rw [hM]; rw [ju_self]
  have C0 : M (9 + n) 0 = nI k := by rw [mM _ (by omega), hC]; unfold pef_begin; rw [ju_other (by omega), ju_other (by omega), ju_other (by omega), ju_other (by omega), ju_other (by omega), ju_self]
  have C1 : M (9 + n) 1 = nI m := by rw [mM _ (by omega), hC]; unfold pef_begin; rw [ju_other (by omega), ju_other (by omega), ju_other (by omega), ju_other (by omega), ju_self]
  have C2 : M (9 + n) 2 = nI w := by rw [mM _ (by omega), hC]; unfold pef_begin; rw [ju_other (by omega), ju_other (by omega), ju_other (by omega), ju_self]
  have C3 : M (9 + n) 3 = -1 := by rw [mM _ (by omega), hC]; unfold pef_begin; rw [ju_other (by omega), ju_other (by omega), ju_self]
  have C4 : M (9 + n) 4 = 0 := by rw [mM _ (by omega), hC]; unfold pef_begin; rw [ju_other (by omega), ju_self]
  have C5 : M (9 + n) 5 = 0 := by rw [mM _ (by omega), hC]; unfold pef_begin; rw [ju_self]
  have pAg : ∀ j, j < 6 → M (9 + n) j = M 61 (140 + 6 * n + j) := fun j hj => by
    match j, hj with
    | 0, _ => rw [C0, M0]
    | 1, _ => rw [C1, M1]
    | 2, _ => rw [C2, M2]
    | 3, _ => rw [C3, M3]
    | 4, _ => rw [C4, M4]
    | 5, _ => rw [C5, M5]
  have M139 : M 61 139 = nI n := by rw [mS 139 (by omega)]; exact en
  have hA : jAg 1 61 (fun i => dn (M 61) i ∨ (140 + 6 * n ≤ i ∧ i < 146 + 6 * n)) M := by
    intro i hi
    rcases hi with q | q
    · exact hJ.1.1 i q
    · obtain ⟨j, hj, rfl⟩ : ∃ j, j < 6 ∧ i = 140 + 6 * n + j := ⟨i - (140 + 6 * n), by omega, by omega⟩
      rw [lc_p n j hn6 hj, li_p n j hn6 hj]
      exact pAg j hj
  have hA2 := hA.wr (j := 139) (v := nI (n + 1)) (fun i hi => hi.elim (fun q => q.1) (fun q => by unfold dm; omega)) (by omega) (by unfold dm; omega)
  rw [show lc 1 139 = 1 from rfl, show li 139 = 7 from rfl] at hA2
  obtain ⟨F, hF⟩ : ∃ F, F = jj_u (jj_u M 1 7 (nI (n + 1))) 61 139 (nI (n + 1)) := ⟨_, rfl⟩
  rw [← hF] at hA2
  have F61 : F 61 = upd (M 61) 139 (nI (n + 1)) := by rw [hF, ju_rowS, ju_ne (by decide)]
  have Fr : ∀ a, a ≠ 1 → a ≠ 61 → F a = M a := fun a h1 h2 => by rw [hF, ju_ne h2, ju_ne h1]
  have fin : jI F := by
    refine jJ.I ⟨⟨hA2.mono (fun i hi => ?_), ?_, ?_, ?_⟩, hJ.rest (fun a ha => Fr a (by omega) (by omega))⟩ ?_
    · by_cases q : i = 139
      · exact Or.inr q
      left
      by_cases q2 : 140 + 6 * n ≤ i ∧ i < 146 + 6 * n
      · exact Or.inr q2
      left
      refine ⟨hi.1, fun a b => ?_⟩
      have x := hi.2 a b
      rw [F61, upd_s, nz_toInt (by omega)] at x
      rw [M139, nz_toInt (by omega)]
      omega
    · rw [F61, Fr 15 (by omega) (by omega), Fr 16 (by omega) (by omega)]
      exact hJ.1.2.1.keep rfl rfl (fun _ _ => rfl) (upd_n (by omega)) (fun i hi => upd_n (by omega))
    · rw [F61, Fr 18 (by omega) (by omega), Fr 19 (by omega) (by omega)]
      exact hJ.1.2.2.1.keep rfl rfl (fun _ _ => rfl) (upd_n (by omega)) (fun i hi => upd_n (by omega))
    · intro p hp
      rw [Fr _ (by omega) (by omega)]
      exact hJ.1.2.2.2 p hp
    · rw [F61]
      have hS := h.S
      obtain ⟨h1, h2, h3, h4⟩ := hS
      have r : ∀ b, b ≠ 139 → (b < 140 + 6 * n ∨ 146 + 6 * n ≤ b) → upd (M 61) 139 (nI (n + 1)) b = μ 61 b := fun b hb hb2 => by rw [upd_n hb, mS b hb2]
      refine ⟨fun j hj => ?_, fun a b ha hb => by rw [r _ (by omega) (by omega), r _ (by omega) (by omega)]; exact h2 a b ha hb, fun a ha => by rw [r _ (by omega) (by omega)]; exact h3 a ha, fun p hp => ?_⟩
      · by_cases q : j = 139
        · rw [q, upd_s, show bdh 139 = 6 by decide]; unfold jb; rw [nz_toInt (by omega)]; omega
        · rw [r j q (by omega)]; exact h1 j hj
      · rw [upd_s, nz_toInt (by omega)] at hp
        by_cases q : p = n
        · subst q
          exact jPer.mk hk hm hw (by rw [upd_n (by omega)]; exact M0) (by rw [upd_n (by omega)]; exact M1) (by rw [upd_n (by omega)]; exact M2) (by rw [upd_n (by omega)]; exact M3) (by rw [upd_n (by omega)]; exact M4) (by rw [upd_n (by omega)]; exact M5)
        · have x := h4 p (by rw [en, nz_toInt (by omega)]; omega)
          unfold jPer at x ⊢
          rw [r _ (by omega) (by omega), r _ (by omega) (by omega), r _ (by omega) (by omega), r _ (by omega) (by omega), r _ (by omega) (by omega), r _ (by omega) (by omega)]
          exact x
  refine ⟨nI n, jj_u C 1 7 (nI (n + 1)), F, ?_, ?_, fin⟩
  · simp only [c1, c2, en1, lt6, eq_true g, kp, d9, ek, ekm', ← hC, C17, i2, ↓reduceIte, not_false_eq_true, Option.bind_some]
    rw [ju_self, show nI (n + 1) - 1 = nI n from by rw [show (1 : Int32) = nI 1 from rfl, nz_sub (by omega)]; rfl]
  · have e1 : jj_u C 1 7 (nI (n + 1)) 61 139 = nI n := by rw [ju_ne (by omega), cC 61 (by omega)]; exact en
    simp only [c1, c2, e1, ne6, s0, s1, s2, s3, s4, s5, eq_true (gs 0 (by omega)), eq_true (gs 1 (by omega)), eq_true (gs 2 (by omega)), eq_true (gs 3 (by omega)), eq_true (gs 4 (by omega)), eq_true (gs 5 (by omega)), ks 0 (by omega), ks 1 (by omega), ks 2 (by omega), ks 3 (by omega), ks 4 (by omega), ks 5 (by omega), ek, ekm', ↓reduceIte, not_false_eq_true, Option.bind_some]
    rw [ju_other (show (139 : Nat) ≠ 140 + 6 * n + 5 by omega), ju_other (show (139 : Nat) ≠ 140 + 6 * n + 4 by omega), ju_other (show (139 : Nat) ≠ 140 + 6 * n + 3 by omega), ju_other (show (139 : Nat) ≠ 140 + 6 * n + 2 by omega), ju_other (show (139 : Nat) ≠ 140 + 6 * n + 1 by omega), ju_other (show (139 : Nat) ≠ 140 + 6 * n + 0 by omega), e1, i2]
    rw [hF, hM, ju_comm (show (61 : Nat) ≠ 1 by decide), ju_comm (show (61 : Nat) ≠ 1 by decide), ju_comm (show (61 : Nat) ≠ 1 by decide), ju_comm (show (61 : Nat) ≠ 1 by decide), ju_comm (show (61 : Nat) ≠ 1 by decide), ju_comm (show (61 : Nat) ≠ 1 by decide)]
