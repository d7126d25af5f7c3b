/-! ===== the reference's reader reads as pj does ===== -/
theorem ju_same {μ : jj_M} {k j : Nat} {v : Int32} (h : μ k j = v) : jj_u μ k j v = μ := by
  funext a
  by_cases e : a = k
  · subst e
    rw [ju_rowS]
    funext i
    unfold upd
    by_cases q : i = j
    · rw [if_pos q, q, h]
    · rw [if_neg q]
  · exact ju_ne e
theorem ju_twice {μ : jj_M} {k j : Nat} {v w : Int32} : jj_u (jj_u μ k j v) k j w = jj_u μ k j w := by
  funext a
  by_cases e : a = k
  · subst e
    rw [ju_rowS, ju_rowS, ju_rowS]
    funext i
    unfold upd
    by_cases q : i = j
    · rw [if_pos q, if_pos q]
    · rw [if_neg q, if_neg q, if_neg q]
  · rw [ju_ne e, ju_ne e, ju_ne e]
/-- what a reading changes -/
def rdT (μ m : jj_M) : Prop := (∀ k, k ≠ 60 → m k = μ k) ∧ ∀ j, j ≠ 7 → j ≠ 8 → j ≠ 13 → m 60 j = μ 60 j
theorem rdT.rf {μ : jj_M} : rdT μ μ := ⟨fun _ _ => rfl, fun _ _ _ _ => rfl⟩
theorem rdT.tr {a b c : jj_M} (h1 : rdT a b) (h2 : rdT b c) : rdT a c := ⟨fun k x => (h2.1 k x).trans (h1.1 k x), fun j x y z => (h2.2 j x y z).trans (h1.2 j x y z)⟩
theorem rdT.u {μ m : jj_M} (h : rdT μ m) {j : Nat} {v : Int32} (hj : j = 7 ∨ j = 8 ∨ j = 13) : rdT μ (jj_u m 60 j v) := ⟨fun a x => (ju_ne x).trans (h.1 a x), fun i x y z => (ju_other (by omega)).trans (h.2 i x y z)⟩
theorem rdT.th {μ m : jj_M} (h : rdT μ m) : jTh μ m := ⟨fun k _ y => h.1 k y, fun j x => h.2 j (by omega) (by omega) (by omega)⟩
/-- what a reading rests on -/
def rdC (B L u : Nat) (T : Nat → Int32) (a b c : Int32) (μ : jj_M) : Prop := μ 60 5 = nI B ∧ μ 60 6 = nI L ∧ μ 60 9 = nI u ∧ μ 60 10 = a ∧ μ 60 11 = b ∧ μ 60 12 = c ∧ ∀ i, i < L → μ 61 (B + i) = T i
theorem rdC.t {B L u : Nat} {T : Nat → Int32} {a b c : Int32} {μ m : jj_M} (h : rdC B L u T a b c μ) (t : rdT μ m) : rdC B L u T a b c m := by
  obtain ⟨h1, h2, h3, h4, h5, h6, h7⟩ := h
  obtain ⟨t1, t2⟩ := t
  unfold rdC
  rw [t2 5 (by omega) (by omega) (by omega), t2 6 (by omega) (by omega) (by omega), t2 9 (by omega) (by omega) (by omega), t2 10 (by omega) (by omega) (by omega), t2 11 (by omega) (by omega) (by omega), t2 12 (by omega) (by omega) (by omega), t1 61 (by omega)]
  exact ⟨h1, h2, h3, h4, h5, h6, h7⟩
theorem here_ok {B L u : Nat} {T : Nat → Int32} {a b c : Int32} {μ : jj_M} (hC : rdC B L u T a b c μ) (hB : B + L ≤ 351) {pos : Nat} (h7 : μ 60 7 = nI pos) (hp : pos ≤ L) (h13 : μ 60 13 = 0) : mdf_here μ = some (ph T L pos) := by
  obtain ⟨h1, h2, h3, h4, h5, h6, h8⟩ := hC
  unfold mdf_here ph
  rw [h2, h7, h1]
  by_cases q : pos < L
  · rw [if_neg (by rw [nz_le (by omega) (by omega)]; omega), if_pos h13, nz_add, if_pos (nz_in (by omega) (by omega)), if_pos q, nz_clamp (by omega), h8 pos q]
  · rw [if_pos (by rw [nz_le (by omega) (by omega)]; omega), if_neg q]
theorem here_wrong {μ : jj_M} (h : ¬ μ 60 13 = 0) : mdf_here μ = some (-1) := by
  unfold mdf_here
  by_cases q : μ 60 6 ≤ μ 60 7
  · rw [if_pos q]
  · rw [if_neg q, if_neg h]
theorem takes_y {μ : jj_M} {x : Int32} (h : mdf_here μ = some x) : mdf_takes x μ = some (1, jj_u μ 60 7 (μ 60 7 + 1)) := by
  unfold mdf_takes mdf_takes_B13
  rw [h, Option.bind_some, if_pos rfl, if_neg (by decide), if_pos (by decide)]
theorem takes_n {μ : jj_M} {x y : Int32} (h : mdf_here μ = some y) (hn : ¬ y = x) : mdf_takes x μ = some (0, μ) := by
  unfold mdf_takes mdf_takes_B13
  rw [h, Option.bind_some, if_neg hn, if_pos rfl, if_pos (by decide), ju_same (Int32.add_zero _).symm]
theorem dig_ok (x : Int32) : mdf_isDigit x = 0 ↔ ¬ pdg x := by
  unfold mdf_isDigit
  rw [show mdf_in (Int32.toInt64 x) 48 57 = wnf_within x 48 57 from nz_within x 48 57, nz_w0]
  exact Iff.rfl
theorem ph_m1 {T : Nat → Int32} {L pos : Nat} (h : L ≤ pos) : ph T L pos = -1 := by
  unfold ph
  rw [if_neg (by omega)]
theorem ph_lt {T : Nat → Int32} {L pos : Nat} (h : ¬ ph T L pos = -1) : pos < L := by
  by_cases q : pos < L
  · exact q
  · exact absurd (ph_m1 (by omega)) h
theorem pdg_m1 : ¬ pdg (-1) := by decide
theorem num_m {N : Nat} {fs fa : jj_M → Option (Int32 × jj_M)} {B L u : Nat} {T : Nat → Int32} {a b c : Int32} (hB : B + L ≤ 351) : ∀ (k i f pos v : Nat) (μ : jj_M), i + k = 4 → k < f → rdC B L u T a b c μ → μ 60 7 = nI pos → pos ≤ L → μ 60 13 = 0 → mdf_single_L16 N fs fa f (nI v) (nI i) μ = some (nI (pnum (ph T L) k pos v).1, jj_u μ 60 7 (nI (pnum (ph T L) k pos v).2)) ∧ pos ≤ (pnum (ph T L) k pos v).2 ∧ (pnum (ph T L) k pos v).2 ≤ L := by
  intro k
  induction k with
  | zero =>
    intro i f pos v μ hi hf hC h7 hp h13
    obtain ⟨f, rfl⟩ : ∃ m, f = m + 1 := ⟨f - 1, by omega⟩
    rw [pnum, mdf_single_L16, if_pos (show (4 : Int32) ≤ nI i by rw [show (4 : Int32) = nI 4 from rfl, nz_le (by omega) (by omega)]; omega)]
    exact ⟨by rw [ju_same h7], Nat.le_refl _, hp⟩
  | succ k ih =>
    intro i f pos v μ hi hf hC h7 hp h13
    obtain ⟨f, rfl⟩ : ∃ m, f = m + 1 := ⟨f - 1, by omega⟩
    have hh := here_ok hC hB h7 hp h13
    rw [pnum, mdf_single_L16, if_neg (show ¬ (4 : Int32) ≤ nI i by rw [show (4 : Int32) = nI 4 from rfl, nz_le (by omega) (by omega)]; omega), hh, Option.bind_some]
    by_cases g : pdg (ph T L pos)
    · rw [if_pos g, if_neg (fun e => (dig_ok _).mp e g), Option.bind_some]
      have lt : pos < L := ph_lt (fun e => pdg_m1 (by rw [← e]; exact g))
      have ev : ((10 * nI v) + ph T L pos) - 48 = nI (10 * v + (ph T L pos).toInt.toNat - 48) := by
        obtain ⟨g1, g2⟩ := g
        rw [nz_of (x := ph T L pos) (by omega), show (10 : Int32) = nI 10 from rfl, show (48 : Int32) = nI 48 from rfl, nz_mul, nz_add, nz_sub (by omega), nz_toInt (by omega)]
        rfl
      have e7 : jj_u μ 60 7 (μ 60 7 + 1) = jj_u μ 60 7 (nI (pos + 1)) := by rw [h7]; rw [show (1 : Int32) = nI 1 from rfl, nz_add]
      rw [ev, e7, show nI i + 1 = nI (i + 1) from nz_add i 1]
      obtain ⟨r1, r2, r3⟩ := ih (i + 1) f (pos + 1) (10 * v + (ph T L pos).toInt.toNat - 48) (jj_u μ 60 7 (nI (pos + 1))) (by omega) (by omega) (hC.t (rdT.rf.u (by omega))) ju_self (by omega) (by rw [ju_other (by omega)]; exact h13)
      rw [ju_twice] at r1
      exact ⟨r1, by omega, r3⟩
    · rw [if_neg g, if_pos ((dig_ok _).mpr g)]
      exact ⟨by rw [ju_same h7], Nat.le_refl _, hp⟩
/-- a reading's end -/
def rdO (a b c : Int32) (op L pos : Nat) (q : pR) (μ : jj_M) (o : Option (Int32 × jj_M)) : Prop := ∃ v m, o = some (v, m) ∧ rdT μ m ∧ m 60 7 = nI q.2.1 ∧ pos ≤ q.2.1 ∧ q.2.1 ≤ L ∧ (q.2.2 = false → m 60 13 = 0 ∧ m 60 8 = nI op ∧ ∀ st, q.1.foldl (estep a b c) st = v :: st) ∧ (q.2.2 = true → ¬ m 60 13 = 0)
theorem pch_t {H : Nat → Int32} {P : Nat → pR} {r : Nat} : ∀ n (q : pR), q.2.2 = true → pch H P r n q = q := by
  intro n
  cases n with
  | zero => intro q _; rfl
  | succ n =>
    intro q h
    rw [pch, if_neg]
    intro e
    rw [h] at e
    cases e.1
theorem prk_m1 {r : Nat} (hr : r < 5) : ¬ prk (-1) = r := by
  rw [show prk (-1) = 9 by decide]
  omega
/-- a chain of joined pieces -/
theorem pch_m {B L u : Nat} {T : Nat → Int32} {a b c : Int32} (hB : B + L ≤ 351) {r op : Nat} (hr : r < 5) {P : Nat → pR} {F : jj_M → Option (Int32 × jj_M)} {G : Nat → Int32 → jj_M → Option (Int32 × jj_M)}
    (hx : ∀ n v μ h, mdf_here μ = some h → ¬ prk h = r → G (n + 1) v μ = some (v, μ))
    (hs : ∀ n v μ h w m, mdf_here μ = some h → prk h = r → F (jj_u μ 60 7 (μ 60 7 + 1)) = some (w, m) → G (n + 1) v μ = G n (ejoin h v w) m)
    (hF : ∀ pos μ, pos ≤ L → rdC B L u T a b c μ → μ 60 7 = nI pos → μ 60 8 = nI op → μ 60 13 = 0 → rdO a b c op L pos (P pos) μ (F μ)) :
    ∀ (n k pos0 : Nat) (v : Int32) (q : pR) (μ : jj_M), L - q.2.1 ≤ n → n < k → rdC B L u T a b c μ → μ 60 7 = nI q.2.1 → q.2.1 ≤ L → pos0 ≤ q.2.1 → q.2.2 = false → μ 60 13 = 0 → μ 60 8 = nI op → (∀ st, q.1.foldl (estep a b c) st = v :: st) → rdO a b c op L pos0 (pch (ph T L) P r n q) μ (G k v μ) := by
  intro n
  induction n with
  | zero =>
    intro k pos0 v q μ h1 h2 hC h7 hp hp0 hq h13 h8 hv
    obtain ⟨k, rfl⟩ : ∃ m, k = m + 1 := ⟨k - 1, by omega⟩
    have hh := here_ok hC hB h7 hp h13
    rw [pch]
    refine ⟨v, μ, hx k v μ _ hh ?_, rdT.rf, h7, hp0, hp, fun _ => ⟨h13, h8, hv⟩, fun e => by rw [hq] at e; cases e⟩
    rw [ph_m1 (by omega)]
    exact prk_m1 hr
  | succ n ih =>
    intro k pos0 v q μ h1 h2 hC h7 hp hp0 hq h13 h8 hv
    obtain ⟨k, rfl⟩ : ∃ m, k = m + 1 := ⟨k - 1, by omega⟩
    have hh := here_ok hC hB h7 hp h13
    rw [pch]
    by_cases g : prk (ph T L q.2.1) = r
    rotate_left
    · rw [if_neg (fun e => g e.2)]
      exact ⟨v, μ, hx k v μ _ hh g, rdT.rf, h7, hp0, hp, fun _ => ⟨h13, h8, hv⟩, fun e => by rw [hq] at e; cases e⟩
    rw [if_pos ⟨hq, g⟩]
    have lt : q.2.1 < L := ph_lt (fun e => prk_m1 hr (by rw [← e]; exact g))
    have e7 : jj_u μ 60 7 (μ 60 7 + 1) 60 7 = nI (q.2.1 + 1) := by rw [ju_self, h7, show (1 : Int32) = nI 1 from rfl, nz_add]
    have T1 : rdT μ (jj_u μ 60 7 (μ 60 7 + 1)) := rdT.rf.u (by omega)
    obtain ⟨w, m, f1, f2, f3, f4, f5, f6, f7⟩ := hF (q.2.1 + 1) (jj_u μ 60 7 (μ 60 7 + 1)) lt (hC.t T1) e7 (by rw [ju_other (by omega)]; exact h8) (by rw [ju_other (by omega)]; exact h13)
    have T2 := T1.tr f2
    rw [hs k v μ _ w m hh g f1]
    cases e : (P (q.2.1 + 1)).2.2 with
    | true =>
      have m13 := f7 e
      rw [pch_t n _ rfl]
      obtain ⟨k, rfl⟩ : ∃ m, k = m + 1 := ⟨k - 1, by omega⟩
      refine ⟨_, m, hx k _ m _ (here_wrong m13) (prk_m1 hr), T2, f3, ?_, f5, ?_, fun _ => m13⟩
      · show pos0 ≤ (P (q.2.1 + 1)).2.1
        omega
      · intro x
        cases x
    | false =>
      obtain ⟨m13, m8, mv⟩ := f6 e
      obtain ⟨v', m', r1, r2, r3, r4, r5, r6, r7⟩ := ih k pos0 (ejoin (ph T L q.2.1) v w) (q.1 ++ (P (q.2.1 + 1)).1 ++ [-(ph T L q.2.1)], (P (q.2.1 + 1)).2.1, false) m (by show L - (P (q.2.1 + 1)).2.1 ≤ n; omega) (by omega) (hC.t T2) f3 f5 (by show pos0 ≤ (P (q.2.1 + 1)).2.1; omega) rfl m13 m8 (by
        intro st
        obtain ⟨n1, n2⟩ := prk_neg g hr
        show List.foldl (estep a b c) st (q.1 ++ (P (q.2.1 + 1)).1 ++ [-(ph T L q.2.1)]) = _
        rw [List.foldl_append, List.foldl_append, hv, mv, List.foldl_cons, List.foldl_nil]
        unfold estep
        rw [if_neg n1, if_neg n2]
        simp only [Int32.neg_neg])
      exact ⟨v', m', r1, T2.tr r2, r3, r4, r5, r6, r7⟩
theorem name_ok {u : Nat} {μ : jj_M} (hu : u < 2) (h : μ 60 9 = nI u) (x : Int32) : mdf_name x μ = nI (pnm u x) := by
  unfold mdf_name pnm
  rw [h]
  rcases (by omega : u = 0 ∨ u = 1) with rfl | rfl
  · rw [if_pos (show nI 0 = 0 from rfl), if_pos rfl, if_pos rfl, if_pos rfl]
    by_cases q1 : x = 109
    · rw [if_pos q1, if_pos q1]; rfl
    rw [if_neg q1, if_neg q1]
    by_cases q2 : x = 116
    · rw [if_pos q2, if_pos q2]; rfl
    rw [if_neg q2, if_neg q2]
    by_cases q3 : x = 100
    · rw [if_pos q3]
      by_cases q4 : x = 108
      · rw [q3] at q4; exact absurd q4 (by decide)
      · rw [if_neg q4, if_pos q3]; rfl
    · rw [if_neg q3]
      by_cases q4 : x = 108
      · rw [if_pos q4]; rfl
      · rw [if_neg q4, if_neg q3]; rfl
  · rw [if_neg (show ¬ nI 1 = 0 by decide)]
    by_cases q1 : x = 108
    · rw [if_pos q1]
      subst q1
      decide
    rw [if_neg q1]
    by_cases q2 : x = 109
    · rw [if_pos q2, if_pos q2]; rfl
    rw [if_neg q2, if_neg q2]
    by_cases q3 : x = 100
    · rw [if_pos q3]
      subst q3
      decide
    · rw [if_neg q3]
      by_cases q4 : x = 116
      · rw [if_pos q4]; rfl
      · rw [if_neg q4, if_neg q1, if_neg q3]; rfl
