/-! ===== what somebody bears, needs, and is parched by, on both sides ===== -/
def limv (S : Nat → Int32) (p : Nat) : Int32 := if S (140 + 6 * p) = 1 then 12 + S (140 + 6 * p + 1) else if S (140 + 6 * p) = 2 then 8 else if S (140 + 6 * p) = 3 then 36 else if S (140 + 6 * p) = 4 then 12 + S (140 + 6 * p + 1) else if S (140 + 6 * p) = 5 then 8 + S (140 + 6 * p + 1) / 2 else if S (140 + 6 * p) = 6 then 36 else 12
theorem limv_b {S : Nat → Int32} {p : Nat} (h : jPer S p) : ∃ l, 8 ≤ l ∧ l ≤ 36 ∧ limv S p = nI l := by
  obtain ⟨⟨k, hk, ek⟩, ⟨m, hm, em⟩, _⟩ := h
  unfold limv
  rw [ek, em]
  have key : ∀ k, k < 7 → ∀ m, m < 10 → ∃ l, l < 37 ∧ 8 ≤ l ∧ (if nI k = 1 then 12 + nI m else if nI k = 2 then 8 else if nI k = 3 then 36 else if nI k = 4 then 12 + nI m else if nI k = 5 then 8 + nI m / 2 else if nI k = 6 then 36 else 12 : Int32) = nI l := by decide +kernel
  obtain ⟨l, l1, l2, l3⟩ := key k hk m hm
  exact ⟨l, l2, by omega, l3⟩
theorem limit_c {μ : jj_M} {S : Nat → Int32} {p q : Nat} (e0 : μ q 0 = S (140 + 6 * p)) (e1 : μ q 1 = S (140 + 6 * p + 1)) : pef_limit q μ = limv S p := by
  unfold pef_limit limv
  rw [e0, e1]
theorem limit_m {μ : jj_M} {p : Nat} (hp : p < 6) : mdf_limitOf (nI p) μ = some (limv (μ 61) p) := by
  have t0 : mdf_its (nI p) 0 μ = some (μ 61 (140 + 6 * p)) := its_ok (p := p) (j := 0) hp (by omega)
  have t1 : mdf_its (nI p) 1 μ = some (μ 61 (140 + 6 * p + 1)) := its_ok (p := p) (j := 1) hp (by omega)
  unfold mdf_limitOf limv
  rw [t1, Option.bind_some, t0, Option.bind_some]
  repeat' split
  all_goals rfl
theorem lawv_b (S : Nat → Int32) (u : Nat) (a b c : Int32) : ∃ k, k ≤ 99 ∧ lawv S u a b c = nI k := by
  unfold lawv
  rw [← held_ok]
  generalize lvv S u a b c = x
  have z0 : (0 : Int32).toInt = 0 := by decide
  have z9 : (99 : Int32).toInt = 99 := by decide
  have key : jb (mdf_held x 0 99) 0 99 := by
    unfold mdf_held jb
    by_cases q : (0 : Int32) ≤ x
    · rw [if_pos q]
      rw [Int32.le_iff_toInt_le] at q
      by_cases r : x ≤ 99
      · rw [if_pos r]
        rw [Int32.le_iff_toInt_le] at r
        omega
      · rw [if_neg r]
        omega
    · rw [if_neg q]
      omega
  obtain ⟨k, k1, k2⟩ := nz_ofb (x := mdf_held x 0 99) (n := 100) key.1 (by have := key.2; omega)
  exact ⟨k, by omega, k2⟩
theorem needv_b {S : Nat → Int32} {p : Nat} (h : jPer S p) (t : Int32) : ∃ k, k ≤ 108 ∧ needv S p t = nI k := by
  obtain ⟨_, ⟨m, hm, em⟩, _⟩ := h
  obtain ⟨k, k1, k2⟩ := lawv_b S 0 (S (140 + 6 * p + 1)) t (S 138)
  unfold needv
  rw [k2, em]
  by_cases q : S (140 + 6 * p) = 3
  · rw [if_pos q]; exact ⟨k, by omega, rfl⟩
  rw [if_neg q]
  by_cases q : S (140 + 6 * p) = 6
  · rw [if_pos q]; exact ⟨k + m, by omega, nz_add k m⟩
  rw [if_neg q]
  exact ⟨1, by omega, rfl⟩
theorem needs_m {μ : jj_M} (h : jI μ) {p : Nat} (hp : p < 6) (x : Int32) : ∃ m, mdf_needsOf jz_N (nI p) x μ = some (needv (μ 61) p x, m) ∧ jTh μ m := by
  have t0 : mdf_its (nI p) 0 μ = some (μ 61 (140 + 6 * p)) := its_ok (p := p) (j := 0) hp (by omega)
  have t1 : mdf_its (nI p) 1 μ = some (μ 61 (140 + 6 * p + 1)) := its_ok (p := p) (j := 1) hp (by omega)
  obtain ⟨m, m1, m2⟩ := gives_m any_N h.w.2.2.1 (by omega) (μ 61 (140 + 6 * p + 1)) x (μ 61 138)
  rw [if_pos rfl] at m1
  unfold mdf_needsOf needv
  rw [t1, Option.bind_some, t0, Option.bind_some, m1]
  by_cases q : μ 61 (140 + 6 * p) = 3
  · rw [if_pos q, if_pos q]; exact ⟨m, rfl, m2⟩
  rw [if_neg q, if_neg q]
  by_cases q : μ 61 (140 + 6 * p) = 6
  · rw [if_pos q, if_pos q]; exact ⟨m, rfl, m2⟩
  rw [if_neg q, if_neg q]
  exact ⟨μ, rfl, jTh.rf⟩
/-- what a road of this length adds to somebody's thirst -/
def parv (S : Nat → Int32) (p : Nat) (x : Int32) : Int32 := lawv S 1 x (S (140 + 6 * p + 1)) (S 138)
theorem thirstBy_m {μ : jj_M} (h : jI μ) {p : Nat} (hp : p < 6) (x : Int32) : ∃ m, mdf_thirstBy jz_N (nI p) x μ = some (parv (μ 61) p x, m) ∧ jTh μ m := by
  have t1 : mdf_its (nI p) 1 μ = some (μ 61 (140 + 6 * p + 1)) := its_ok (p := p) (j := 1) hp (by omega)
  obtain ⟨m, m1, m2⟩ := gives_m any_N h.w.2.2.2.1 (by omega) x (μ 61 (140 + 6 * p + 1)) (μ 61 138)
  rw [if_neg (by decide)] at m1
  unfold mdf_thirstBy parv
  rw [t1, Option.bind_some, m1]
  exact ⟨m, rfl, m2⟩
theorem parched_p {μ : jj_M} (h : jI μ) {n p : Nat} (hn : n ≤ 6) (en : μ 61 139 = nI n) (hp : p < n) (x : Int32) : ∃ m, wof_parched jz_N 1 (9 + p) x μ = some (parv (μ 61) p x, m) ∧ ∀ k, k ≠ 20 → m k = μ k := by
  obtain ⟨m, m1, m2⟩ := parched_c h (9 + p) x
  rw [h.pag hn en hp (j := 1) (by omega), show μ 1 10 = μ 61 138 from h.ag (j := 138) (by omega)] at m1
  exact ⟨m, m1, m2⟩
theorem jTh.one {μ m : jj_M} {q : Nat} (hq : jFree q) (e : ∀ k, k ≠ q → m k = μ k) : jTh μ m := by
  have q60 : q ≠ 60 := by unfold jFree at hq; omega
  exact ⟨fun k h1 _ => e k (fun x => h1 (by rw [x]; exact hq)), fun j _ => by rw [e 60 (fun x => q60 x.symm)]⟩
theorem jTh.r61 {μ m : jj_M} (h : jTh μ m) : m 61 = μ 61 := h.1 61 (by unfold jFree; omega) (by omega)
/-- both sides' needs, one behind the other -/
theorem needs_cm {μ : jj_M} (h : jI μ) {n p : Nat} (hn : n ≤ 6) (en : μ 61 139 = nI n) (hp : p < n) (x : Int32) : ∃ m, wof_needs jz_N 1 (9 + p) x μ = some (needv (μ 61) p x, m) ∧ (∀ k, k ≠ 17 → m k = μ k) ∧ jTh μ m ∧ jI m := by
  obtain ⟨m, m1, m2⟩ := needs_c h hn en hp x
  have t := jTh.one (q := 17) (by unfold jFree; omega) m2
  exact ⟨m, m1, m2, t, t.I h⟩
theorem parched_cm {μ : jj_M} (h : jI μ) {n p : Nat} (hn : n ≤ 6) (en : μ 61 139 = nI n) (hp : p < n) (x : Int32) : ∃ m, wof_parched jz_N 1 (9 + p) x μ = some (parv (μ 61) p x, m) ∧ (∀ k, k ≠ 20 → m k = μ k) ∧ jTh μ m ∧ jI m := by
  obtain ⟨m, m1, m2⟩ := parched_p h hn en hp x
  have t := jTh.one (q := 20) (by unfold jFree; omega) m2
  exact ⟨m, m1, m2, t, t.I h⟩
theorem debt_ok9 {μ : jj_M} (h : jI μ) {p : Nat} (P : jPer (μ 61) p) : ∃ r, wof_debtOf jz_N 1 (μ 61 (140 + 6 * p + 3)) μ = some r ∧ mdf_owes jz_N (μ 61 (140 + 6 * p + 3)) μ = some r := by
  obtain ⟨_, _, _, P4, _⟩ := P
  rcases P4 with q | ⟨v, hv, q⟩
  · rw [q]; exact ⟨0, debtOf_no μ⟩
  · rw [q]; exact debtOf_ok h hv
theorem st_ofPerson {μ : jj_M} (h : jI μ) (x1 x2 : Int32) : ∃ (r : Int32) (μ1 : jj_M) (μ2 : jj_M), wnf_ofPerson jz_N x1 x2 μ = some (r, μ1) ∧ mdf_ofPerson jz_N x1 x2 μ1 = some (r, μ2) ∧ jI μ2 := by
  unfold wnf_ofPerson mdf_ofPerson
  obtain ⟨n, hn, en, en1⟩ := h.n
  rw [show mdf_in (Int32.toInt64 x2) 0 8 = wnf_within x2 0 8 from nz_within x2 0 8]
  obtain ⟨m1, m2, a, b, c⟩ := err1 h
  have e61 : m1 61 = μ 61 := err_61 (e := 1) (by omega) a 61 (by decide)
  have ip : ∀ m : jj_M, m 61 = μ 61 → mdf_isPerson x1 m = wnf_isPerson x1 μ := fun m e => isPer_ok hn en1 (by rw [e]; exact en) x1
  by_cases c1 : wnf_isPerson x1 μ = 0
  · exact ⟨-1000000001, m1, m2, by simp only [c1, a, ↓reduceIte, Option.bind_some], by simp only [ip m1 e61, c1, b, ↓reduceIte, Option.bind_some], c⟩
  obtain ⟨p, hp, rfl⟩ := nz_per hn en1 c1
  have P := h.per hn en hp
  have g : jj_i (nI p) 6 := nz_in (by omega) (by omega)
  have kp : (nI p).toNatClampNeg = p := nz_clamp (by omega)
  have d9 : 5 + 4 + p = 9 + p := by omega
  by_cases c2 : wnf_within x2 0 8 = 0
  · have ne : ∀ j : Nat, j < 9 → ¬ x2 = nI j := by
      intro j hj e
      rw [e, nz_w0, nz_toInt (by omega)] at c2
      have z0 : (0 : Int32).toInt = 0 := by decide
      have z1 : (8 : Int32).toInt = 8 := by decide
      omega
    have n0 : ¬ x2 = 0 := ne 0 (by omega)
    have n1 : ¬ x2 = 1 := ne 1 (by omega)
    have n2 : ¬ x2 = 2 := ne 2 (by omega)
    have n3 : ¬ x2 = 3 := ne 3 (by omega)
    have n4 : ¬ x2 = 4 := ne 4 (by omega)
    have n5 : ¬ x2 = 5 := ne 5 (by omega)
    have n6 : ¬ x2 = 6 := ne 6 (by omega)
    have n7 : ¬ x2 = 7 := ne 7 (by omega)
    have n8 : ¬ x2 = 8 := ne 8 (by omega)
    exact ⟨-1000000001, m1, m2, by simp only [c1, eq_true g, n0, n1, n2, n3, n4, n5, n6, n7, n8, a, ↓reduceIte, not_false_eq_true, Option.bind_some], by simp only [ip m1 e61, c1, c2, b, ↓reduceIte, Option.bind_some], c⟩
  obtain ⟨j, hj, rfl⟩ : ∃ x, x < 9 ∧ x2 = nI x := by
    have hb := w_b c2
    have z0 : (0 : Int32).toInt = 0 := by decide
    have z1 : (8 : Int32).toInt = 8 := by decide
    exact nz_ofb (by omega) (by omega)
  have t : ∀ (m : jj_M) i, i < 6 → m 61 = μ 61 → mdf_its (nI p) (nI i) m = some (μ 61 (140 + 6 * p + i)) := fun m i hi e => by rw [its_ok (by omega) hi, e]
  by_cases j6 : j < 6
  · have n6 : ¬ (6 : Int32) ≤ nI j := by rw [show (6 : Int32) = nI 6 from rfl, nz_le (by omega) (by omega)]; omega
    refine ⟨μ 61 (140 + 6 * p + j), μ, μ, ?_, by simp only [ip μ rfl, c1, c2, n6, t μ j j6 rfl, ↓reduceIte, Option.bind_some], h⟩
    rw [if_neg c1, if_pos g]
    simp only [kp, d9]
    have pg : ∀ i, i < 6 → μ (9 + p) i = μ 61 (140 + 6 * p + i) := fun i hi => h.pag hn en hp hi
    rw [pg 0 (by omega), pg 1 (by omega), pg 2 (by omega), pg 3 (by omega), pg 4 (by omega), pg 5 (by omega)]
    rcases (by omega : j = 0 ∨ j = 1 ∨ j = 2 ∨ j = 3 ∨ j = 4 ∨ j = 5) with rfl | rfl | rfl | rfl | rfl | rfl
    · rw [if_pos (by decide)]
    · rw [if_neg (by decide), if_pos (by decide)]
    · rw [if_neg (by decide), if_neg (by decide), if_pos (by decide)]
    · rw [if_neg (by decide), if_neg (by decide), if_neg (by decide), if_pos (by decide)]
    · rw [if_neg (by decide), if_neg (by decide), if_neg (by decide), if_neg (by decide), if_pos (by decide)]
    · rw [if_neg (by decide), if_neg (by decide), if_neg (by decide), if_neg (by decide), if_neg (by decide), if_pos (by decide)]
      rcases P.dead with d | d
      · rw [if_pos d, d]
      · rw [d, if_neg (by decide)]
  have y6 : (6 : Int32) ≤ nI j := by rw [show (6 : Int32) = nI 6 from rfl, nz_le (by omega) (by omega)]; omega
  rcases (by omega : j = 6 ∨ j = 7 ∨ j = 8) with rfl | rfl | rfl
  · refine ⟨limv (μ 61) p, μ, μ, ?_, ?_, h⟩
    · rw [if_neg c1, if_pos g, if_neg (by decide), if_neg (by decide), if_neg (by decide), if_neg (by decide), if_neg (by decide), if_neg (by decide), if_pos (by decide)]
      rw [kp, d9, limit_c (h.pag hn en hp (j := 0) (by omega)) (h.pag hn en hp (j := 1) (by omega))]
    · rw [ip μ rfl, if_neg c1, if_neg c2, if_pos y6, if_pos (by decide), limit_m (by omega), Option.bind_some]
  · obtain ⟨m, k1, k2, k3, k4⟩ := needs_cm h hn en hp (μ 61 (140 + 6 * p + 4))
    obtain ⟨m', l1, l2⟩ := needs_m k4 (p := p) (by omega) (μ 61 (140 + 6 * p + 4))
    have e := k3.r61
    rw [e] at l1
    refine ⟨needv (μ 61) p (μ 61 (140 + 6 * p + 4)), m, m', ?_, ?_, l2.I k4⟩
    · rw [if_neg c1, if_pos g, if_neg (by decide), if_neg (by decide), if_neg (by decide), if_neg (by decide), if_neg (by decide), if_neg (by decide), if_neg (by decide), if_pos (by decide)]
      rw [kp, d9, h.pag hn en hp (j := 4) (by omega), k1, Option.bind_some]
    · rw [ip m e, if_neg c1, if_neg c2, if_pos y6, if_neg (by decide), if_pos (by decide), show (4 : Int32) = nI 4 from rfl, t m 4 (by omega) e, Option.bind_some, l1, Option.bind_some]
  · obtain ⟨r, r1, r2⟩ := debt_ok9 h P
    refine ⟨r, μ, μ, ?_, ?_, h⟩
    · rw [if_neg c1, if_pos g, if_neg (by decide), if_neg (by decide), if_neg (by decide), if_neg (by decide), if_neg (by decide), if_neg (by decide), if_neg (by decide), if_neg (by decide), if_pos (by decide)]
      rw [kp, d9, h.pag hn en hp (j := 3) (by omega), r1, Option.bind_some]
    · rw [ip μ rfl, if_neg c1, if_neg c2, if_pos y6, if_neg (by decide), if_neg (by decide), show (3 : Int32) = nI 3 from rfl, t μ 3 (by omega) rfl, Option.bind_some, r2, Option.bind_some]
