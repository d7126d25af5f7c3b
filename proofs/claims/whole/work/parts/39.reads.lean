/-! single pieces, and all levels together -/
theorem single_m {N : Nat} (hN : 60 < N) {B L u : Nat} {T : Nat → Int32} {a b c : Int32} (hB : B + L ≤ 351) (hu : u < 2) {op f : Nat} (hop : op ≤ 5) {fs fa : jj_M → Option (Int32 × jj_M)}
    (hs : op < 5 → rdG B L u T a b c (op + 1) (fun pos => pj (ph T L) u f 5 (op + 1) pos) fs)
    (ha : op < 5 → rdG B L u T a b c (op + 1) (fun pos => pj (ph T L) u f 0 (op + 1) pos) fa) : rdG B L u T a b c op (fun pos => pj (ph T L) u (f + 1) 5 op pos) (mdf_single N fs fa) := by
  intro pos μ hp hC h7 h8 h13
  show rdO a b c op L pos (pj (ph T L) u (f + 1) 5 op pos) μ (mdf_single N fs fa μ)
  have hh := here_ok hC hB h7 hp h13
  have C9 : μ 60 9 = nI u := hC.2.2.1
  rw [pj, if_pos rfl]
  unfold mdf_single
  rw [hh, Option.bind_some]
  have e7 : jj_u μ 60 7 (μ 60 7 + 1) = jj_u μ 60 7 (nI (pos + 1)) := by rw [h7, show (1 : Int32) = nI 1 from rfl, nz_add]
  by_cases g1 : pdg (ph T L pos)
  · rw [if_pos g1, if_neg (fun e => (dig_ok _).mp e g1)]
    obtain ⟨r1, r2, r3⟩ := num_m (N := N) (fs := fs) (fa := fa) hB 4 0 N pos 0 μ (by omega) (by omega) hC h7 hp h13
    refine ⟨_, _, r1, rdT.rf.u (by omega), ju_self, r2, r3, fun _ => ⟨by rw [ju_other (by omega)]; exact h13, by rw [ju_other (by omega)]; exact h8, fun st => ?_⟩, fun e => by cases e⟩
    have bn := pnum_b (ph T L) 4 pos 0
    show List.foldl (estep a b c) st [nI (pnum (ph T L) 4 pos 0).1] = _
    rw [List.foldl_cons, List.foldl_nil]
    unfold estep
    rw [if_pos (nI_nn (by omega))]
    unfold laf_plain
    have bm : (pnum (ph T L) 4 pos 0).1 < 10000 := by omega
    generalize (pnum (ph T L) 4 pos 0).1 = n at bm
    have i1 : (nI n - 10000).toInt = (n : Int) - 10000 := by
      rw [nz_subI (by rw [nz_toInt (by omega), show (10000 : Int32).toInt = 10000 by decide]; omega) (by rw [nz_toInt (by omega), show (10000 : Int32).toInt = 10000 by decide]; omega), nz_toInt (by omega), show (10000 : Int32).toInt = 10000 by decide]
    rw [if_neg, if_neg, if_neg]
    · intro e
      rw [e, show (2 : Int32).toInt = 2 by decide] at i1
      omega
    · intro e
      rw [e, show (1 : Int32).toInt = 1 by decide] at i1
      omega
    · intro e
      rw [e, show (0 : Int32).toInt = 0 by decide] at i1
      omega
  rw [if_neg g1, if_pos ((dig_ok _).mpr g1), name_ok hu C9]
  by_cases g2 : 0 < pnm u (ph T L pos)
  · have bn : pnm u (ph T L pos) ≤ 3 := by
      unfold pnm
      repeat' split
      all_goals omega
    have lt : pos < L := ph_lt (fun e => by
      rw [e, show pnm u (-1) = 0 by unfold pnm; rw [if_neg (by decide), if_neg (by decide), if_neg (by decide), if_neg (by decide)]] at g2
      omega)
    rw [if_pos g2, if_neg (by rw [show (0 : Int32) = nI 0 from rfl, nz_le (by omega) (by omega)]; omega), e7, name_ok hu (by rw [ju_other (by omega)]; exact C9)]
    have T1 : rdT μ (jj_u μ 60 7 (nI (pos + 1))) := rdT.rf.u (by omega)
    obtain ⟨_, _, _, c10, c11, c12, _⟩ := hC.t T1
    have key : ∃ v, (if nI (pnm u (ph T L pos)) = 1 then some (jj_u μ 60 7 (nI (pos + 1)) 60 10, jj_u μ 60 7 (nI (pos + 1))) else if nI (pnm u (ph T L pos)) = 2 then some (jj_u μ 60 7 (nI (pos + 1)) 60 11, jj_u μ 60 7 (nI (pos + 1))) else some (jj_u μ 60 7 (nI (pos + 1)) 60 12, jj_u μ 60 7 (nI (pos + 1)))) = some (v, jj_u μ 60 7 (nI (pos + 1))) ∧ laf_plain (nI (9999 + pnm u (ph T L pos))) a b c = v := by
      rw [c10, c11, c12]
      generalize pnm u (ph T L pos) = n at g2 bn
      rcases (by omega : n = 1 ∨ n = 2 ∨ n = 3) with rfl | rfl | rfl
      · exact ⟨a, by rw [if_pos (show nI 1 = 1 from rfl)], by unfold laf_plain; rw [if_pos (by decide)]⟩
      · exact ⟨b, by rw [if_neg (by decide), if_pos (show nI 2 = 2 from rfl)], by unfold laf_plain; rw [if_neg (by decide), if_pos (by decide)]⟩
      · exact ⟨c, by rw [if_neg (by decide), if_neg (by decide)], by unfold laf_plain; rw [if_neg (by decide), if_neg (by decide), if_pos (by decide)]⟩
    obtain ⟨v, k1, k2⟩ := key
    rw [k1]
    refine ⟨v, _, rfl, T1, ju_self, by show pos ≤ pos + 1; omega, lt, fun _ => ⟨by rw [ju_other (by omega)]; exact h13, by rw [ju_other (by omega)]; exact h8, fun st => ?_⟩, fun e => by cases e⟩
    show List.foldl (estep a b c) st [nI (9999 + pnm u (ph T L pos))] = _
    rw [List.foldl_cons, List.foldl_nil]
    unfold estep
    rw [if_pos (nI_nn (by omega)), k2]
  have n0 : pnm u (ph T L pos) = 0 := by omega
  rw [if_neg g2, n0, if_pos (show nI 0 ≤ (0 : Int32) by decide)]
  have fault : rdO a b c op L pos ([], pos, true) μ (some (0, jj_u μ 60 13 1)) := ⟨0, _, rfl, rdT.rf.u (by omega), by rw [ju_other (by omega)]; exact h7, Nat.le_refl _, hp, fun e => (by cases e), fun _ => by rw [ju_self]; decide⟩
  have T1 : rdT μ (jj_u (jj_u μ 60 7 (nI (pos + 1))) 60 8 (nI (op + 1))) := (rdT.rf.u (by omega)).u (by omega)
  have e8 : jj_u (jj_u μ 60 7 (nI (pos + 1))) 60 8 (jj_u μ 60 7 (nI (pos + 1)) 60 8 + 1) = jj_u (jj_u μ 60 7 (nI (pos + 1))) 60 8 (nI (op + 1)) := by rw [ju_other (by omega), h8, show (1 : Int32) = nI 1 from rfl, nz_add]
  have em1 : nI (op + 1) - 1 = nI op := by rw [show (1 : Int32) = nI 1 from rfl, nz_sub (by omega)]; rfl
  by_cases g3 : ph T L pos = 33
  · have lt : pos < L := ph_lt (fun e => by rw [e] at g3; exact absurd g3 (by decide))
    rw [g3, if_pos rfl]
    unfold mdf_single_B133
    rw [h8]
    by_cases o : op < 5
    rotate_left
    · rw [if_neg (fun e => o e.2), if_neg (fun e => o e.2), if_pos (show (5 : Int32) ≤ nI op by rw [show (5 : Int32) = nI 5 from rfl, nz_le (by omega) (by omega)]; omega)]
      exact fault
    rw [if_pos ⟨rfl, o⟩, if_neg (show ¬ (5 : Int32) ≤ nI op by rw [show (5 : Int32) = nI 5 from rfl, nz_le (by omega) (by omega)]; omega), e7, e8, Option.bind_some, if_pos rfl]
    obtain ⟨v, m, f1, f2, f3, f4, f5, f6, f7⟩ : rdO a b c (op + 1) L (pos + 1) (pj (ph T L) u f 5 (op + 1) (pos + 1)) _ (fs _) := hs o (pos + 1) _ lt (hC.t T1) (by rw [ju_other (by omega), ju_self]) ju_self (by rw [ju_other (by omega), ju_other (by omega)]; exact h13)
    rw [f1, Option.bind_some]
    have key : (if (33 : Int32) = 33 then if (v, m).1 = 0 then mdf_single_B198 N fs fa 33 1 (v, m).2 else mdf_single_B198 N fs fa 33 0 (v, m).2 else mdf_single_B198 N fs fa 33 (v, m).1 (v, m).2) = some ((if v = 0 then 1 else 0 : Int32), jj_u m 60 8 (m 60 8 - 1)) := by
      rw [if_pos rfl]
      unfold mdf_single_B198
      by_cases z : v = 0
      · rw [if_pos z, if_pos z, if_neg (by decide)]
      · rw [if_neg z, if_neg z, if_neg (by decide)]
    rw [key]
    refine ⟨_, _, rfl, (T1.tr f2).u (by omega), by rw [ju_other (by omega)]; exact f3, by show pos ≤ (pj (ph T L) u f 5 (op + 1) (pos + 1)).2.1; omega, f5, fun e => ?_, fun e => by rw [ju_other (by omega)]; exact f7 e⟩
    obtain ⟨m13, m8, mv⟩ := f6 e
    refine ⟨by rw [ju_other (by omega)]; exact m13, by rw [ju_self, m8, em1], fun st => ?_⟩
    show List.foldl (estep a b c) st ((pj (ph T L) u f 5 (op + 1) (pos + 1)).1 ++ [-33]) = _
    rw [List.foldl_append, mv, List.foldl_cons, List.foldl_nil]
    unfold estep
    rw [if_neg (by decide), if_pos rfl]
  rw [if_neg (fun e => g3 e.1), if_neg g3]
  by_cases g4 : ph T L pos = 40
  rotate_left
  · rw [if_neg (fun e => g4 e.1), if_neg g4]
    exact fault
  have lt : pos < L := ph_lt (fun e => by rw [e] at g4; exact absurd g4 (by decide))
  rw [g4, if_pos rfl]
  unfold mdf_single_B133
  rw [h8]
  by_cases o : op < 5
  rotate_left
  · rw [if_neg (fun e => o e.2), if_pos (show (5 : Int32) ≤ nI op by rw [show (5 : Int32) = nI 5 from rfl, nz_le (by omega) (by omega)]; omega)]
    exact fault
  rw [if_pos ⟨rfl, o⟩, if_neg (show ¬ (5 : Int32) ≤ nI op by rw [show (5 : Int32) = nI 5 from rfl, nz_le (by omega) (by omega)]; omega), e7, e8, Option.bind_some, if_neg (show ¬ (40 : Int32) = 33 by decide)]
  obtain ⟨v, m, f1, f2, f3, f4, f5, f6, f7⟩ : rdO a b c (op + 1) L (pos + 1) (pj (ph T L) u f 0 (op + 1) (pos + 1)) _ (fa _) := ha o (pos + 1) _ lt (hC.t T1) (by rw [ju_other (by omega), ju_self]) ju_self (by rw [ju_other (by omega), ju_other (by omega)]; exact h13)
  have T2 := T1.tr f2
  rw [f1, Option.bind_some, if_neg (show ¬ (40 : Int32) = 33 by decide)]
  unfold mdf_single_B198
  rw [if_pos rfl]
  show rdO a b c op L pos _ μ ((mdf_takes 41 m).bind fun q2 => if (q2.2 60 13) = 0 then if q2.1 = 0 then (some (jj_u (jj_u q2.2 60 13 1) 60 8 (((jj_u q2.2 60 13 1) 60 8) - 1))).bind fun m7 => some ((v, m7)) else (some (jj_u (jj_u q2.2 60 13 0) 60 8 (((jj_u q2.2 60 13 0) 60 8) - 1))).bind fun m6 => some ((v, m6)) else (some (jj_u (jj_u q2.2 60 13 1) 60 8 (((jj_u q2.2 60 13 1) 60 8) - 1))).bind fun m4 => some ((v, m4)))
  cases e : (pj (ph T L) u f 0 (op + 1) (pos + 1)).2.2 with
  | true =>
    have m13 := f7 e
    rw [if_neg (fun x => by have := x.1; cases this), takes_n (here_wrong m13) (by decide), Option.bind_some, if_neg m13, Option.bind_some]
    refine ⟨v, _, rfl, (T2.u (by omega)).u (by omega), by rw [ju_other (by omega), ju_other (by omega)]; exact f3, by show pos ≤ (pj (ph T L) u f 0 (op + 1) (pos + 1)).2.1; omega, f5, fun x => (by cases x), fun _ => ?_⟩
    rw [ju_other (by omega), ju_self]
    decide
  | false =>
    obtain ⟨m13, m8, mv⟩ := f6 e
    have h2 := here_ok (hC.t T2) hB f3 f5 m13
    by_cases g5 : ph T L (pj (ph T L) u f 0 (op + 1) (pos + 1)).2.1 = 41
    · have lt2 := ph_lt (T := T) (L := L) (pos := (pj (ph T L) u f 0 (op + 1) (pos + 1)).2.1) (fun x => by rw [x] at g5; exact absurd g5 (by decide))
      rw [if_pos ⟨rfl, g5⟩]
      rw [g5] at h2
      rw [takes_y h2, Option.bind_some]
      rw [if_pos (show jj_u m 60 7 (m 60 7 + 1) 60 13 = 0 by rw [ju_other (by omega)]; exact m13), if_neg (show ¬ (1 : Int32) = 0 by decide), Option.bind_some]
      refine ⟨v, _, rfl, ((T2.u (by omega)).u (by omega)).u (by omega), ?_, by show pos ≤ (pj (ph T L) u f 0 (op + 1) (pos + 1)).2.1 + 1; omega, lt2, fun _ => ⟨by rw [ju_other (by omega), ju_self], ?_, mv⟩, fun x => by cases x⟩
      · rw [ju_other (by omega), ju_other (by omega)]
        show jj_u m 60 7 (m 60 7 + 1) 60 7 = nI ((pj (ph T L) u f 0 (op + 1) (pos + 1)).2.1 + 1)
        rw [ju_self, f3, nz_s]
      · rw [ju_self, ju_other (by omega)]
        show jj_u m 60 7 (m 60 7 + 1) 60 8 - 1 = nI op
        rw [ju_other (by omega), m8, em1]
    · rw [if_neg (fun x => g5 x.2), takes_n h2 g5, Option.bind_some, if_pos m13, if_pos rfl, Option.bind_some]
      refine ⟨v, _, rfl, (T2.u (by omega)).u (by omega), by rw [ju_other (by omega), ju_other (by omega)]; exact f3, by show pos ≤ (pj (ph T L) u f 0 (op + 1) (pos + 1)).2.1; omega, f5, fun x => (by cases x), fun _ => ?_⟩
      rw [ju_other (by omega), ju_self]
      decide
theorem rd_all {N : Nat} (hN : 60 < N) {B L u : Nat} {T : Nat → Int32} {a b c : Int32} (hB : B + L ≤ 351) (hL : L ≤ 50) (hu : u < 2) : ∀ f r op, r ≤ 5 → op ≤ 5 → (6 - r) + 6 * (5 - op) ≤ f → rdG B L u T a b c op (fun pos => pj (ph T L) u f r op pos) (mdf_grp N f (5 - r)) := by
  intro f
  induction f with
  | zero => intro r op hr hop h; omega
  | succ f ih =>
    intro r op hr hop h
    rcases (by omega : r = 5 ∨ r = 4 ∨ r = 3 ∨ r = 2 ∨ r = 1 ∨ r = 0) with rfl | rfl | rfl | rfl | rfl | rfl
    · have e : mdf_grp N (f + 1) (5 - 5) = mdf_single N (fun μ => mdf_grp N f 0 μ) (fun μ => mdf_grp N f 5 μ) := by
        funext μ
        rw [mdf_grp, if_pos rfl]
      rw [e]
      exact single_m hN hB hu hop (fun o => ih 5 (op + 1) (by omega) (by omega) (by omega)) (fun o => ih 0 (op + 1) (by omega) (by omega) (by omega))
    · have e : mdf_grp N (f + 1) (5 - 4) = mdf_product N (fun μ => mdf_grp N f 0 μ) := by
        funext μ
        rw [mdf_grp, if_neg (by decide), if_pos rfl]
      rw [e]
      exact rproduct_m hN hB hL (ih 5 op (by omega) (by omega) (by omega))
    · have e : mdf_grp N (f + 1) (5 - 3) = mdf_sum N (fun μ => mdf_grp N f 1 μ) := by
        funext μ
        rw [mdf_grp, if_neg (by decide), if_neg (by decide), if_pos rfl]
      rw [e]
      exact rsum_m hN hB hL (ih 4 op (by omega) (by omega) (by omega))
    · have e : mdf_grp N (f + 1) (5 - 2) = mdf_test N (fun μ => mdf_grp N f 2 μ) := by
        funext μ
        rw [mdf_grp, if_neg (by decide), if_neg (by decide), if_neg (by decide), if_pos rfl]
      rw [e]
      exact test_m hB (ih 3 op (by omega) (by omega) (by omega))
    · have e : mdf_grp N (f + 1) (5 - 1) = mdf_both N (fun μ => mdf_grp N f 3 μ) := by
        funext μ
        rw [mdf_grp, if_neg (by decide), if_neg (by decide), if_neg (by decide), if_neg (by decide), if_pos rfl]
      rw [e]
      exact both_m hN hB hL (ih 2 op (by omega) (by omega) (by omega))
    · have e : mdf_grp N (f + 1) (5 - 0) = mdf_any N (fun μ => mdf_grp N f 4 μ) := by
        funext μ
        rw [mdf_grp, if_neg (by decide), if_neg (by decide), if_neg (by decide), if_neg (by decide), if_neg (by decide), if_pos rfl]
      rw [e]
      exact any_m hN hB hL (ih 1 op (by omega) (by omega) (by omega))
theorem any_ok {N : Nat} (hN : 60 < N) : anyOk N := by
  intro μ L u a b c hL hu h5 h6 h7 h8 h9 h10 h11 h12 h13 hw hp
  have hB : 231 + 50 * u + L ≤ 351 := by omega
  have key : rdO a b c 0 L 0 (pt (fun i => μ 61 (231 + 50 * u + i)) L u) μ (mdf_any_G N μ) := by
    have q := rd_all (a := a) (b := b) (c := c) hN hB hL hu 50 0 0 (by omega) (by omega) (by omega) 0 μ (by omega) (T := fun i => μ 61 (231 + 50 * u + i)) ⟨h5, h6, h9, h10, h11, h12, fun _ _ => rfl⟩ h7 h8 h13
    unfold pt mdf_any_G
    exact q
  obtain ⟨v, m, r1, r2, r3, r4, r5, r6, r7⟩ := key
  obtain ⟨m13, m8, mv⟩ := r6 hw
  refine ⟨m, ?_, r2.th, m13, by rw [r2.2 6 (by omega) (by omega) (by omega)]; exact h6, by rw [r3, hp]⟩
  rw [r1]
  have e := mv []
  unfold eval erun
  rw [e]
  rfl
theorem any_N : anyOk jz_N := any_ok (by have := jz_ge; omega)
theorem st_law {μ : jj_M} (h : jI μ) (x1 x2 x3 x4 : Int32) : ∃ (r : Int32) (μ1 : jj_M) (μ2 : jj_M), wnf_law jz_N x1 x2 x3 x4 μ = some (r, μ1) ∧ mdf_law jz_N x1 x2 x3 x4 μ1 = some (r, μ2) ∧ jI μ2 := law_if any_N h x1 x2 x3 x4
