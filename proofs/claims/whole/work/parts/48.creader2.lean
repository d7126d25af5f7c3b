/-! single pieces of the class's reader, and all together -/
theorem cdig_ok (x : Int32) : ref_isDigit x = 0 ↔ ¬ pdg x := by
  rw [show ref_isDigit x = wnf_within x 48 57 from rfl, nz_w0]
  exact Iff.rfl
theorem cname_ok {u : Nat} {μ : jj_M} (hu : u < 2) (h : μ 45 4 = nI u) (x : Int32) : ref_nameOf x μ = if pnm u x = 0 then -1 else nI (pnm u x - 1) := by
  unfold ref_nameOf pnm
  rw [h]
  by_cases q1 : x = 100
  · subst q1
    rcases (by omega : u = 0 ∨ u = 1) with rfl | rfl <;> decide
  by_cases q2 : x = 108
  · subst q2
    rcases (by omega : u = 0 ∨ u = 1) with rfl | rfl <;> decide
  by_cases q3 : x = 109
  · subst q3
    rcases (by omega : u = 0 ∨ u = 1) with rfl | rfl <;> decide
  by_cases q4 : x = 116
  · subst q4
    rcases (by omega : u = 0 ∨ u = 1) with rfl | rfl <;> decide
  simp only [q1, q2, q3, q4, ↓reduceIte]
theorem num_c {N : Nat} {L u : Nat} {T : Nat → Int32} (hL : L ≤ 50) : ∀ (k i f pos v : Nat) (μ : jj_M), i + k = 4 → k < f → cdC L u T μ → μ 45 5 = nI pos → pos ≤ L → ref_readNumber_L4 N f (nI v) (nI i) μ = ref_emit (nI (pnum (ph T L) k pos v).1) (jj_u μ 45 5 (nI (pnum (ph T L) k pos v).2)) ∧ pos ≤ (pnum (ph T L) k pos v).2 ∧ (pnum (ph T L) k pos v).2 ≤ L := by
  intro k
  induction k with
  | zero =>
    intro i f pos v μ hi hf hC h5 hp
    obtain ⟨f, rfl⟩ : ∃ m, f = m + 1 := ⟨f - 1, by omega⟩
    rw [pnum, ref_readNumber_L4, if_pos (show (4 : Int32) ≤ nI i by rw [show (4 : Int32) = nI 4 from rfl, nz_le (by omega) (by omega)]; omega), ju_same h5]
    refine ⟨?_, Nat.le_refl _, hp⟩
    cases ref_emit (nI v) μ <;> rfl
  | succ k ih =>
    intro i f pos v μ hi hf hC h5 hp
    obtain ⟨f, rfl⟩ : ∃ m, f = m + 1 := ⟨f - 1, by omega⟩
    have hh := next_ok hC hL h5 hp
    rw [pnum, ref_readNumber_L4, if_neg (show ¬ (4 : Int32) ≤ nI i by rw [show (4 : Int32) = nI 4 from rfl, nz_le (by omega) (by omega)]; omega), hh, Option.bind_some]
    by_cases g : pdg (ph T L pos)
    · rw [if_pos g, if_neg (fun e => (cdig_ok _).mp e g), Option.bind_some]
      have lt : pos < L := ph_lt (fun e => pdg_m1 (by rw [← e]; exact g))
      have ev : ((nI v * 10) + ph T L pos) - 48 = nI (10 * v + (ph T L pos).toInt.toNat - 48) := by
        obtain ⟨g1, g2⟩ := g
        rw [nz_of (x := ph T L pos) (by omega), show (10 : Int32) = nI 10 from rfl, show (48 : Int32) = nI 48 from rfl, nz_mul, nz_add, nz_sub (by omega), nz_toInt (by omega), Nat.mul_comm v 10]
        rfl
      have e7 : jj_u μ 45 5 (μ 45 5 + 1) = jj_u μ 45 5 (nI (pos + 1)) := by rw [h5, nz_s]
      rw [ev, e7, nz_s i]
      obtain ⟨r1, r2, r3⟩ := ih (i + 1) f (pos + 1) (10 * v + (ph T L pos).toInt.toNat - 48) (jj_u μ 45 5 (nI (pos + 1))) (by omega) (by omega) (hC.t (cdT.rf.u (by omega) (by omega))) ju_self (by omega)
      rw [ju_twice] at r1
      exact ⟨r1, by omega, r3⟩
    · rw [if_neg g, if_pos ((cdig_ok _).mpr g), ju_same h5]
      refine ⟨?_, Nat.le_refl _, hp⟩
      cases ref_emit (nI v) μ <;> rfl
theorem opened_c {L u : Nat} {T : Nat → Int32} {N f op : Nat} (hL : L ≤ 50) (hop : op < 5) {gs : jj_M → Option jj_M} {gj : Int32 → jj_M → Option jj_M}
    (hs : cdG L u T (op + 1) (fun pos => pj (ph T L) u f 5 (op + 1) pos) gs)
    (hj : cdG L u T (op + 1) (fun pos => pj (ph T L) u f 0 (op + 1) pos) (gj 0)) {pos c : Nat} {μ : jj_M} (lt : pos < L) (hc : c ≤ pos) (hC : cdC L u T μ) (h5 : μ 45 5 = nI pos) (h6 : μ 45 6 = nI op) (h7 : μ 45 7 = 0) (h1 : μ 45 1 = nI c) :
    cdO op L pos c ((pj (ph T L) u f 5 (op + 1) (pos + 1)).1 ++ [-33], (pj (ph T L) u f 5 (op + 1) (pos + 1)).2.1, (pj (ph T L) u f 5 (op + 1) (pos + 1)).2.2) μ (ref_readOpened N gs gj 33 μ) ∧
    cdO op L pos c (if (pj (ph T L) u f 0 (op + 1) (pos + 1)).2.2 = false ∧ ph T L (pj (ph T L) u f 0 (op + 1) (pos + 1)).2.1 = 41 then ((pj (ph T L) u f 0 (op + 1) (pos + 1)).1, (pj (ph T L) u f 0 (op + 1) (pos + 1)).2.1 + 1, false) else ((pj (ph T L) u f 0 (op + 1) (pos + 1)).1, (pj (ph T L) u f 0 (op + 1) (pos + 1)).2.1, true)) μ (ref_readOpened N gs gj 40 μ) := by
  have em1 : nI (op + 1) - 1 = nI op := by rw [show (1 : Int32) = nI 1 from rfl, nz_sub (by omega)]; rfl
  obtain ⟨M, hM⟩ : ∃ M, M = jj_u (jj_u μ 45 5 (nI (pos + 1))) 45 6 (nI (op + 1)) := ⟨_, rfl⟩
  have eM : jj_u (jj_u μ 45 5 (μ 45 5 + 1)) 45 6 (jj_u μ 45 5 (μ 45 5 + 1) 45 6 + 1) = M := by rw [ju_other (by omega), h5, h6, nz_s, nz_s, hM]
  have TM : cdT μ M := by rw [hM]; exact (cdT.rf.u (by omega) (by omega)).u (by omega) (by omega)
  have M5 : M 45 5 = nI (pos + 1) := by rw [hM, ju_other (by omega), ju_self]
  have M6 : M 45 6 = nI (op + 1) := by rw [hM, ju_self]
  have M7 : M 45 7 = 0 := by rw [hM, ju_other (by omega), ju_other (by omega)]; exact h7
  have M1 : M 45 1 = nI c := by rw [hM, ju_other (by omega), ju_other (by omega)]; exact h1
  have M46 : M 46 = μ 46 := by rw [hM, ju_ne (by decide), ju_ne (by decide)]
  constructor
  · obtain ⟨m, f1, f2, f3, f4, f5, ⟨c', f6, f6'⟩, f7, f8⟩ : cdO (op + 1) L (pos + 1) c (pj (ph T L) u f 5 (op + 1) (pos + 1)) M (gs M) := hs (pos + 1) c M lt (by omega) (hC.t TM) M5 M6 M7 M1
    unfold ref_readOpened
    rw [eM, Option.bind_some, if_pos rfl, f1, Option.bind_some]
    cases e : (pj (ph T L) u f 5 (op + 1) (pos + 1)).2.2 with
    | true =>
      have m7 := f8 e
      obtain ⟨m', k1, k2, ⟨c'', k3, k3'⟩, k4⟩ := emit_any f6 f6' (-33)
      rw [k1, Option.bind_some]
      exact ⟨_, rfl, ((TM.tr f2).tr k2).u (by omega) (by omega), by rw [ju_other (by omega), k4 5 (by omega)]; exact f3, by show pos ≤ (pj (ph T L) u f 5 (op + 1) (pos + 1)).2.1; omega, f5, ⟨c'', k3, by rw [ju_other (by omega)]; exact k3'⟩, fun x => (by cases x), fun _ => by rw [ju_other (by omega), k4 7 (by omega)]; exact m7⟩
    | false =>
      obtain ⟨m7, m6, m5, m1, mK⟩ := f7 e
      rw [emit_ok (c := c + (pj (ph T L) u f 5 (op + 1) (pos + 1)).1.length) (by omega) m1, Option.bind_some]
      have el : ((pj (ph T L) u f 5 (op + 1) (pos + 1)).1 ++ [-33]).length = (pj (ph T L) u f 5 (op + 1) (pos + 1)).1.length + 1 := by rw [List.length_append, List.length_singleton]
      refine ⟨_, rfl, ((TM.tr f2).tr ((cdT.rf.u6).u (by omega) (by omega))).u (by omega) (by omega), by rw [ju_other (by omega), ju_other (by omega), ju_ne (by decide)]; exact f3, by show pos ≤ (pj (ph T L) u f 5 (op + 1) (pos + 1)).2.1; omega, f5, ⟨c + (pj (ph T L) u f 5 (op + 1) (pos + 1)).1.length + 1, by omega, by rw [ju_other (by omega), ju_self]⟩, fun _ => ⟨by rw [ju_other (by omega), ju_other (by omega), ju_ne (by decide)]; exact m7, ?_, ?_, ?_, ?_⟩, fun x => by cases x⟩
      · rw [ju_self, ju_other (by omega), ju_ne (by decide), m6, em1]
      · show pos + ((pj (ph T L) u f 5 (op + 1) (pos + 1)).1 ++ [-33]).length ≤ (pj (ph T L) u f 5 (op + 1) (pos + 1)).2.1
        rw [el]
        omega
      · show _ = nI (c + ((pj (ph T L) u f 5 (op + 1) (pos + 1)).1 ++ [-33]).length)
        rw [el, ju_other (by omega), ju_self]
        congr 1
      · have K1 := (mK.row0 M46).app (emit_K (x := -33) (v := nI (c + (pj (ph T L) u f 5 (op + 1) (pos + 1)).1.length + 1)))
        exact K1.row (ju_ne (by decide))
  · obtain ⟨m, f1, f2, f3, f4, f5, ⟨c', f6, f6'⟩, f7, f8⟩ : cdO (op + 1) L (pos + 1) c (pj (ph T L) u f 0 (op + 1) (pos + 1)) M (gj 0 M) := hj (pos + 1) c M lt (by omega) (hC.t TM) M5 M6 M7 M1
    unfold ref_readOpened
    rw [eM, Option.bind_some, if_neg (show ¬ (40 : Int32) = 33 by decide), f1, Option.bind_some]
    cases e : (pj (ph T L) u f 0 (op + 1) (pos + 1)).2.2 with
    | true =>
      have m7 := f8 e
      rw [if_neg m7, if_neg (fun x => by have := x.1; cases this)]
      exact ⟨_, rfl, ((TM.tr f2).u (by omega) (by omega)).u (by omega) (by omega), by rw [ju_other (by omega), ju_other (by omega)]; exact f3, by show pos ≤ (pj (ph T L) u f 0 (op + 1) (pos + 1)).2.1; omega, f5, ⟨c', f6, by rw [ju_other (by omega), ju_other (by omega)]; exact f6'⟩, fun x => (by cases x), fun _ => by rw [ju_other (by omega), ju_self]; decide⟩
    | false =>
      obtain ⟨m7, m6, m5, m1, mK⟩ := f7 e
      have hh := next_ok (hC.t (TM.tr f2)) hL f3 f5
      rw [if_pos m7, hh, Option.bind_some]
      by_cases g : ph T L (pj (ph T L) u f 0 (op + 1) (pos + 1)).2.1 = 41
      · have lt2 := ph_lt (T := T) (L := L) (pos := (pj (ph T L) u f 0 (op + 1) (pos + 1)).2.1) (fun x => by rw [x] at g; exact absurd g (by decide))
        rw [if_pos g, if_pos ⟨rfl, g⟩, Option.bind_some]
        refine ⟨_, rfl, ((TM.tr f2).u (by omega) (by omega)).u (by omega) (by omega), ?_, by show pos ≤ (pj (ph T L) u f 0 (op + 1) (pos + 1)).2.1 + 1; omega, lt2, ⟨c', f6, by rw [ju_other (by omega), ju_other (by omega)]; exact f6'⟩, fun _ => ⟨?_, ?_, ?_, ?_, ?_⟩, fun x => by cases x⟩
        · rw [ju_other (by omega), ju_self, f3, nz_s]
        · rw [ju_other (by omega), ju_other (by omega)]; exact m7
        · rw [ju_self, ju_other (by omega), m6, em1]
        · show pos + (pj (ph T L) u f 0 (op + 1) (pos + 1)).1.length ≤ (pj (ph T L) u f 0 (op + 1) (pos + 1)).2.1 + 1
          omega
        · rw [ju_other (by omega), ju_other (by omega)]; exact m1
        · exact (mK.row0 M46).row (by rw [ju_ne (by decide), ju_ne (by decide)])
      · rw [if_neg g, if_neg (fun x => g x.2)]
        exact ⟨_, rfl, ((TM.tr f2).u (by omega) (by omega)).u (by omega) (by omega), by rw [ju_other (by omega), ju_other (by omega)]; exact f3, by show pos ≤ (pj (ph T L) u f 0 (op + 1) (pos + 1)).2.1; omega, f5, ⟨c', f6, by rw [ju_other (by omega), ju_other (by omega)]; exact f6'⟩, fun x => (by cases x), fun _ => by rw [ju_other (by omega), ju_self]; decide⟩
theorem single_c {N : Nat} (hN : 60 < N) {L u : Nat} {T : Nat → Int32} (hL : L ≤ 50) (hu : u < 2) {op f : Nat} (hop : op ≤ 5) {go : Int32 → jj_M → Option jj_M}
    (ho : op < 5 → ∃ gs gj, go = (fun a μ => ref_readOpened N gs gj a μ) ∧ cdG L u T (op + 1) (fun pos => pj (ph T L) u f 5 (op + 1) pos) gs ∧ cdG L u T (op + 1) (fun pos => pj (ph T L) u f 0 (op + 1) pos) (gj 0)) : cdG L u T op (fun pos => pj (ph T L) u (f + 1) 5 op pos) (ref_readSingle N go) := by
  intro pos c μ hp hc hC h5 h6 h7 h1
  show cdO op L pos c (pj (ph T L) u (f + 1) 5 op pos) μ (ref_readSingle N go μ)
  have hh := next_ok hC hL h5 hp
  have C4 : μ 45 4 = nI u := hC.2.1
  rw [pj, if_pos rfl]
  unfold ref_readSingle
  rw [hh, Option.bind_some]
  by_cases g1 : pdg (ph T L pos)
  · rw [if_pos g1, if_neg (fun e => (cdig_ok _).mp e g1)]
    have lt : pos < L := ph_lt (fun e => pdg_m1 (by rw [← e]; exact g1))
    have p1 : pos + 1 ≤ (pnum (ph T L) 4 pos 0).2 := by
      have e : pnum (ph T L) 4 pos 0 = pnum (ph T L) 3 (pos + 1) (10 * 0 + (ph T L pos).toInt.toNat - 48) := by rw [pnum, if_pos g1]
      rw [e]
      exact (num_c (N := 0) (L := L) (u := u) (T := T) hL 3 1 5 (pos + 1) _ (jj_u μ 45 5 (nI (pos + 1))) (by omega) (by omega) (hC.t (cdT.rf.u (by omega) (by omega))) ju_self lt).2.1
    obtain ⟨r1, r2, r3⟩ := num_c (N := N) hL 4 0 N pos 0 μ (by omega) (by omega) hC h5 hp
    unfold ref_readNumber
    have r1 : ref_readNumber_L4 N N 0 0 μ = _ := r1
    rw [r1, emit_ok (c := c) (by omega) (by rw [ju_other (by omega)]; exact h1), Option.bind_some]
    refine ⟨_, rfl, ((cdT.rf.u (by omega) (by omega)).u6).u (by omega) (by omega), by rw [ju_other (by omega), ju_ne (by decide), ju_self], r2, r3, ⟨c + 1, by omega, ju_self⟩, fun _ => ⟨by rw [ju_other (by omega), ju_ne (by decide), ju_other (by omega)]; exact h7, by rw [ju_other (by omega), ju_ne (by decide), ju_other (by omega)]; exact h6, p1, ju_self, ?_⟩, fun e => by cases e⟩
    exact (emit_K (μ := jj_u μ 45 5 (nI (pnum (ph T L) 4 pos 0).2)) (c := c)).row0 (ju_ne (by decide))
  rw [if_neg g1, if_pos ((cdig_ok _).mpr g1), cname_ok hu C4]
  by_cases g2 : 0 < pnm u (ph T L pos)
  · have bn : pnm u (ph T L pos) ≤ 3 := by
      unfold pnm
      repeat' split
      all_goals omega
    have lt : pos < L := ph_lt (fun e => by
      rw [e, show pnm u (-1) = 0 by unfold pnm; rw [if_neg (by decide), if_neg (by decide), if_neg (by decide), if_neg (by decide)]] at g2
      omega)
    have n0 : ¬ pnm u (ph T L pos) = 0 := by omega
    have e7 : jj_u μ 45 5 (μ 45 5 + 1) = jj_u μ 45 5 (nI (pos + 1)) := by rw [h5, nz_s]
    have e10 : (10000 : Int32) + nI (pnm u (ph T L pos) - 1) = nI (9999 + pnm u (ph T L pos)) := by
      rw [show (10000 : Int32) = nI 10000 from rfl, nz_add]
      congr 1
      omega
    rw [if_pos g2, if_neg n0, if_neg (by rw [show (0 : Int32) = nI 0 from rfl, nz_lt (by omega) (by omega)]; omega), e7, e10, emit_ok (c := c) (by omega) (by rw [ju_other (by omega)]; exact h1), Option.bind_some]
    refine ⟨_, rfl, ((cdT.rf.u (by omega) (by omega)).u6).u (by omega) (by omega), by rw [ju_other (by omega), ju_ne (by decide), ju_self], by show pos ≤ pos + 1; omega, lt, ⟨c + 1, by omega, ju_self⟩, fun _ => ⟨by rw [ju_other (by omega), ju_ne (by decide), ju_other (by omega)]; exact h7, by rw [ju_other (by omega), ju_ne (by decide), ju_other (by omega)]; exact h6, Nat.le_refl _, ju_self, ?_⟩, fun e => by cases e⟩
    exact (emit_K (μ := jj_u μ 45 5 (nI (pos + 1))) (c := c)).row0 (ju_ne (by decide))
  have n0 : pnm u (ph T L pos) = 0 := by omega
  rw [if_neg g2, if_pos n0, if_pos (show (-1 : Int32) < 0 by decide)]
  have fault : cdO op L pos c ([], pos, true) μ (some (jj_u μ 45 7 1)) := ⟨_, rfl, cdT.rf.u (by omega) (by omega), by rw [ju_other (by omega)]; exact h5, Nat.le_refl _, hp, ⟨c, by omega, by rw [ju_other (by omega)]; exact h1⟩, fun e => (by cases e), fun _ => by rw [ju_self]; decide⟩
  have bs : ∀ o : Option jj_M, (o.bind fun q2 => some q2) = o := fun o => by cases o <;> rfl
  by_cases g3 : ph T L pos = 33
  · have lt : pos < L := ph_lt (fun e => by rw [e] at g3; exact absurd g3 (by decide))
    rw [g3, if_pos rfl]
    unfold ref_readSingle_B63
    rw [h6]
    by_cases o : op < 5
    rotate_left
    · rw [if_neg (fun e => o e.2), if_neg (fun e => o e.2), if_pos (show (5 : Int32) ≤ nI op by rw [show (5 : Int32) = nI 5 from rfl, nz_le (by omega) (by omega)]; omega)]
      exact fault
    obtain ⟨gs, gj, e, hs, hj⟩ := ho o
    rw [if_pos ⟨rfl, o⟩, if_neg (show ¬ (5 : Int32) ≤ nI op by rw [show (5 : Int32) = nI 5 from rfl, nz_le (by omega) (by omega)]; omega), bs, e]
    exact (opened_c hL o hs hj lt hc hC h5 h6 h7 h1).1
  rw [if_neg (fun e => g3 e.1), if_neg g3]
  by_cases g4 : ph T L pos = 40
  rotate_left
  · rw [if_neg (fun e => g4 e.1), if_neg g4]
    exact fault
  have lt : pos < L := ph_lt (fun e => by rw [e] at g4; exact absurd g4 (by decide))
  rw [g4, if_pos rfl]
  unfold ref_readSingle_B63
  rw [h6]
  by_cases o : op < 5
  rotate_left
  · rw [if_neg (fun e => o e.2), if_pos (show (5 : Int32) ≤ nI op by rw [show (5 : Int32) = nI 5 from rfl, nz_le (by omega) (by omega)]; omega)]
    exact fault
  obtain ⟨gs, gj, e, hs, hj⟩ := ho o
  rw [if_pos ⟨rfl, o⟩, if_neg (show ¬ (5 : Int32) ≤ nI op by rw [show (5 : Int32) = nI 5 from rfl, nz_le (by omega) (by omega)]; omega), bs, e]
  exact (opened_c hL o hs hj lt hc hC h5 h6 h7 h1).2
theorem cd_all {N : Nat} (hN : 60 < N) {L u : Nat} {T : Nat → Int32} (hL : L ≤ 50) (hu : u < 2) : ∀ f, (∀ op K, op ≤ 5 → 1 + 6 * (5 - op) ≤ f → 8 * (5 - op) + 1 ≤ K → cdG L u T op (fun pos => pj (ph T L) u f 5 op pos) (fun μ => ref_grp N K 1 0 μ)) ∧ (∀ r op K, r ≤ 5 → op ≤ 5 → (6 - r) + 6 * (5 - op) ≤ f → (6 - r) + 8 * (5 - op) + 1 ≤ K → cdG L u T op (fun pos => pj (ph T L) u f r op pos) (fun μ => ref_grp N K 2 (nI r) μ)) := by
  intro f
  induction f with
  | zero => exact ⟨fun op K _ h _ => by omega, fun r op K _ _ h _ => by omega⟩
  | succ f ih =>
    have A : ∀ op K, op ≤ 5 → 1 + 6 * (5 - op) ≤ f + 1 → 8 * (5 - op) + 1 ≤ K → cdG L u T op (fun pos => pj (ph T L) u (f + 1) 5 op pos) (fun μ => ref_grp N K 1 0 μ) := by
      intro op K hop hf hK
      obtain ⟨K, rfl⟩ : ∃ m, K = m + 1 := ⟨K - 1, by omega⟩
      have e : (fun μ => ref_grp N (K + 1) 1 0 μ) = ref_readSingle N (fun a1 μ => ref_grp N K 0 a1 μ) := by
        funext μ
        rw [ref_grp, if_neg (by decide), if_pos rfl]
      rw [e]
      refine single_c hN hL hu hop (fun o => ?_)
      obtain ⟨K, rfl⟩ : ∃ m, K = m + 1 := ⟨K - 1, by omega⟩
      refine ⟨fun μ => ref_grp N K 1 0 μ, fun a1 μ => ref_grp N K 2 a1 μ, ?_, ih.1 (op + 1) K (by omega) (by omega) (by omega), ih.2 0 (op + 1) K (by omega) (by omega) (by omega) (by omega)⟩
      funext a μ
      rw [ref_grp, if_pos rfl]
    refine ⟨A, ?_⟩
    intro r op K hr hop hf hK
    obtain ⟨K, rfl⟩ : ∃ m, K = m + 1 := ⟨K - 1, by omega⟩
    have e : (fun μ => ref_grp N (K + 1) 2 (nI r) μ) = ref_readJoined N (fun μ => ref_grp N K 1 0 μ) (fun a1 μ => ref_grp N K 2 a1 μ) (nI r) := by
      funext μ
      rw [ref_grp, if_neg (by decide), if_neg (by decide), if_pos rfl]
    rw [e]
    by_cases r5 : r = 5
    · subst r5
      intro pos c μ hp hc hC h5 h6 h7 h1
      unfold ref_readJoined
      rw [if_neg (by decide)]
      have bs : ∀ o : Option jj_M, (o.bind fun q2 => some q2) = o := fun o => by cases o <;> rfl
      rw [bs]
      exact A op K hop (by omega) (by omega) pos c μ hp hc hC h5 h6 h7 h1
    · have e2 : (fun pos => pj (ph T L) u (f + 1) r op pos) = (fun pos => pch (ph T L) (fun pos => pj (ph T L) u f (r + 1) op pos) r (if r = 2 then 1 else 50) (pj (ph T L) u f (r + 1) op pos)) := by
        funext pos
        rw [pj, if_neg r5]
      rw [e2]
      exact joined_c hL hN (by omega) (ih.2 (r + 1) op K (by omega) (by omega) (by omega) (by omega))
