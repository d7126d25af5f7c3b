/-! feed -/
def fdb (l : Int64) (i : Nat) : Int32 := Int64.toInt32 ((l >>> (Int32.toInt64 (8 * nI i) &&& 63)) &&& 255)
theorem fdb_ok (l : Int64) {i : Nat} (hi : i < 8) : (Int64.toInt32 ((Int64.toUInt64 l >>> ((Int32.toInt64 (8 * nI i)).toUInt64 &&& Int64.toUInt64 63)).toInt64)) &&& 255 = fdb l i := by
  have key : ∀ s : Nat, s < 57 → ∀ x : BitVec 64, (BitVec.setWidth 32 (x >>> s)) &&& 255#32 = BitVec.setWidth 32 ((x.sshiftRight s) &&& 255#64) := by
    intro s hs x
    apply BitVec.eq_of_getLsbD_eq
    intro j hj
    simp only [BitVec.getLsbD_and, BitVec.getLsbD_setWidth, BitVec.getLsbD_ushiftRight, BitVec.getLsbD_sshiftRight]
    by_cases q : j < 8
    · have a1 : ¬ 64 ≤ j := by omega
      have a2 : s + j < 64 := by omega
      have e : (255#32).getLsbD j = (255#64).getLsbD j := by
        have : ∀ j, j < 8 → (255#32).getLsbD j = (255#64).getLsbD j := by decide
        exact this j q
      rw [e]
      simp [hj, a1, a2]
    · have e1 : (255#32).getLsbD j = false := by
        have : ∀ j, j < 32 → ¬ j < 8 → (255#32).getLsbD j = false := by decide
        exact this j hj q
      have e2 : (255#64).getLsbD j = false := by
        have : ∀ j, j < 32 → ¬ j < 8 → (255#64).getLsbD j = false := by decide
        exact this j hj q
      simp [e1, e2]
  have sh : ∀ i, i < 8 → ((Int32.toInt64 (8 * nI i)).toUInt64 &&& Int64.toUInt64 63).toBitVec = BitVec.ofNat 64 (8 * i) ∧ (Int32.toInt64 (8 * nI i) &&& 63).toBitVec = BitVec.ofNat 64 (8 * i) := by decide +kernel
  obtain ⟨s1, s2⟩ := sh i hi
  apply Int32.toBitVec_inj.mp
  unfold fdb
  rw [Int32.toBitVec_and, Int64.toBitVec_toInt32, Int64.toBitVec_toInt32, Int64.toBitVec_and, Int64.toBitVec_shiftRight, s2]
  have w1 : ∀ i, i < 8 → (BitVec.ofNat 64 (8 * i) % 64).toNat = 8 * i ∧ ((BitVec.ofNat 64 (8 * i)).smod 64).toNat = 8 * i := by decide +kernel
  obtain ⟨v1, v2⟩ := w1 i hi
  have e1 : (UInt64.toInt64 (Int64.toUInt64 l >>> ((Int32.toInt64 (8 * nI i)).toUInt64 &&& Int64.toUInt64 63))).toBitVec = l.toBitVec >>> (8 * i) := by
    show (Int64.toUInt64 l >>> ((Int32.toInt64 (8 * nI i)).toUInt64 &&& Int64.toUInt64 63)).toBitVec = _
    rw [UInt64.toBitVec_shiftRight, s1, BitVec.ushiftRight_eq', v1]
    rfl
  have e2 : l.toBitVec.sshiftRight' ((BitVec.ofNat 64 (8 * i)).smod 64) = l.toBitVec.sshiftRight (8 * i) := by
    rw [BitVec.sshiftRight_eq', v2]
  rw [e1, e2, BitVec.signExtend_eq_setWidth_of_le _ (by omega), BitVec.signExtend_eq_setWidth_of_le _ (by omega)]
  exact key (8 * i) (by omega) l.toBitVec
theorem feed_c (N : Nat) (l : Int64) {n F : Nat} (hn : n ≤ 8) (hF : F + n ≤ 50) : ∀ (k i f : Nat) (μ : jj_M), i + k = n → k < f → μ 1 11 = nI F → ∃ m, wnf_feed_L39 N l (nI n) f (nI i) μ = some (nI (F + n), jj_u m 1 11 (nI (F + n))) ∧ (∀ a, a ≠ 7 → m a = μ a) ∧ ∀ b, m 7 b = if F + i ≤ b ∧ b < F + n then fdb l (b - F) else μ 7 b := by
  intro k
  induction k with
  | zero =>
    intro i f μ hi hf hμ
    obtain ⟨f, rfl⟩ : ∃ m, f = m + 1 := ⟨f - 1, by omega⟩
    refine ⟨μ, ?_, fun _ _ => rfl, fun b => by rw [if_neg (by omega)]⟩
    rw [wnf_feed_L39, if_pos (by rw [nz_le (by omega) (by omega)]; omega), hμ, nz_add, ju_self]
  | succ k ih =>
    intro i f μ hi hf hμ
    obtain ⟨f, rfl⟩ : ∃ m, f = m + 1 := ⟨f - 1, by omega⟩
    have c : ¬ nI n ≤ nI i := by rw [nz_le (by omega) (by omega)]; omega
    have g : jj_i (nI (F + i)) 50 := nz_in (by omega) (by omega)
    have k1 : (nI (F + i)).toNatClampNeg = F + i := nz_clamp (by omega)
    obtain ⟨m, m1, m2, m3⟩ := ih (i + 1) f (jj_u μ 7 (F + i) (fdb l i)) (by omega) (by omega) (by rw [ju_ne (by decide)]; exact hμ)
    refine ⟨m, ?_, fun a ha => by rw [m2 a ha, ju_ne ha], fun b => ?_⟩
    · rw [wnf_feed_L39]
      simp only [c, hμ, nz_add F i, eq_true g, k1, fdb_ok l (show i < 8 by omega), ↓reduceIte, nz_s, Option.bind_some]
      exact m1
    · rw [m3 b, ju_app, if_pos rfl]
      by_cases q : b = F + i
      · subst q
        rw [if_neg (by omega), if_pos rfl, if_pos (by omega), Nat.add_sub_cancel_left]
      · rw [if_neg q]
        by_cases q2 : F + (i + 1) ≤ b ∧ b < F + n
        · rw [if_pos q2, if_pos (by omega)]
        · rw [if_neg q2, if_neg (by omega)]
theorem feed_m (N : Nat) (l : Int64) {n F : Nat} (hn : n ≤ 8) (hF : F + n ≤ 50) : ∀ (k i f : Nat) (μ : jj_M), i + k = n → k < f → μ 61 177 = nI (F + i) → ∃ m, mdf_feed_L44 N l (nI n) f (nI i) μ = some (nI (F + n), m) ∧ (∀ a, a ≠ 61 → m a = μ a) ∧ m 61 177 = nI (F + n) ∧ ∀ b, b ≠ 177 → m 61 b = if 181 + F + i ≤ b ∧ b < 181 + F + n then fdb l (b - 181 - F) else μ 61 b := by
  intro k
  induction k with
  | zero =>
    intro i f μ hi hf hμ
    obtain ⟨f, rfl⟩ : ∃ m, f = m + 1 := ⟨f - 1, by omega⟩
    have e : i = n := by omega
    subst e
    refine ⟨μ, ?_, fun _ _ => rfl, hμ, fun b _ => by rw [if_neg (by omega)]⟩
    rw [mdf_feed_L44, if_pos (Int32.le_refl _), hμ]
  | succ k ih =>
    intro i f μ hi hf hμ
    obtain ⟨f, rfl⟩ : ∃ m, f = m + 1 := ⟨f - 1, by omega⟩
    have c : ¬ nI n ≤ nI i := by rw [nz_le (by omega) (by omega)]; omega
    have i1 : (181 : Int32) + nI (F + i) = nI (181 + (F + i)) := by rw [show (181 : Int32) = nI 181 from rfl, nz_add]
    have g : jj_i (nI (181 + (F + i))) 351 := nz_in (by omega) (by omega)
    have k1 : (nI (181 + (F + i))).toNatClampNeg = 181 + (F + i) := nz_clamp (by omega)
    obtain ⟨m, m1, m2, m4, m3⟩ := ih (i + 1) f (jj_u (jj_u μ 61 (181 + (F + i)) (fdb l i)) 61 177 (nI (F + (i + 1)))) (by omega) (by omega) ju_self
    refine ⟨m, ?_, fun a ha => by rw [m2 a ha, ju_ne ha, ju_ne ha], m4, fun b hb => ?_⟩
    · rw [mdf_feed_L44]
      have r : jj_u μ 61 (181 + (F + i)) (fdb l i) 61 177 = nI (F + i) := by rw [ju_other (by omega)]; exact hμ
      simp only [c, hμ, i1, eq_true g, k1, ↓reduceIte, nz_s, Option.bind_some]
      rw [show Int64.toInt32 ((l >>> (Int32.toInt64 (8 * nI i) &&& 63)) &&& 255) = fdb l i from rfl, r, nz_s]
      exact m1
    · rw [m3 b hb, ju_other hb, ju_app, if_pos rfl]
      by_cases q : b = 181 + (F + i)
      · subst q
        rw [if_neg (by omega), if_pos rfl, if_pos (by omega), show 181 + (F + i) - 181 - F = i by omega]
      · rw [if_neg q]
        by_cases q2 : 181 + F + (i + 1) ≤ b ∧ b < 181 + F + n
        · rw [if_pos q2, if_pos (by omega)]
        · rw [if_neg q2, if_neg (by omega)]
theorem st_feed {μ : jj_M} (h : jI μ) (l1 : Int64) (x2 : Int32) : ∃ (r : Int32) (μ1 : jj_M) (μ2 : jj_M), wnf_feed jz_N l1 x2 μ = some (r, μ1) ∧ mdf_feed jz_N l1 x2 μ1 = some (r, μ2) ∧ jI μ2 := by
  unfold wnf_feed mdf_feed
  rw [show mdf_in (Int32.toInt64 x2) 1 8 = wnf_within x2 1 8 from nz_within x2 1 8]
  have ag : μ 1 11 = μ 61 177 := h.ag (j := 177) (by omega)
  have hb := h.S.1 177 (by omega)
  have hb : jb (μ 61 177) 0 50 := hb
  obtain ⟨F, hF, eF⟩ := nz_ofb (x := μ 61 177) (n := 51) (by omega) (by omega)
  by_cases c1 : wnf_within x2 1 8 = 0
  · obtain ⟨m1, m2, a, b, c⟩ := err1 h
    exact ⟨-1000000001, m1, m2, by simp only [c1, a, ↓reduceIte, Option.bind_some], by simp only [c1, b, ↓reduceIte, Option.bind_some], c⟩
  have b1 := w_b c1
  have z0 : (1 : Int32).toInt = 1 := by decide
  have z1 : (8 : Int32).toInt = 8 := by decide
  obtain ⟨n, hn, rfl⟩ := nz_ofb (x := x2) (n := 9) (by omega) (by omega)
  rw [z0, nz_toInt (by omega)] at b1
  by_cases c2 : F + n ≤ 50
  rotate_left
  · have c2' : ¬ nI F + nI n ≤ 50 := by rw [nz_add, show (50 : Int32) = nI 50 from rfl, nz_le (by omega) (by omega)]; exact c2
    obtain ⟨m1, m2, a, b, c⟩ := err4 h
    have e61 : m1 61 = μ 61 := err_61 (e := 4) (by omega) a 61 (by decide)
    exact ⟨-1000000004, m1, m2, by simp only [c1, ag, eF, c2', a, ↓reduceIte, Option.bind_some], by simp only [c1, e61, eF, c2', b, ↓reduceIte, Option.bind_some], c⟩
  have c2' : nI F + nI n ≤ 50 := by rw [nz_add, show (50 : Int32) = nI 50 from rfl, nz_le (by omega) (by omega)]; exact c2
  obtain ⟨m, p1, p2, p3⟩ := feed_c jz_N l1 (n := n) (F := F) (by omega) c2 n 0 jz_N μ (by omega) (by have := jz_ge; omega) (by rw [ag, eF])
  obtain ⟨W, q1, q2, q4, q3⟩ := feed_m jz_N l1 (n := n) (F := F) (by omega) c2 n 0 jz_N (jj_u m 1 11 (nI (F + n))) (by omega) (by have := jz_ge; omega) (by rw [ju_ne (by decide), p2 61 (by decide), eF]; rfl)
  have e61 : jj_u m 1 11 (nI (F + n)) 61 = μ 61 := by rw [ju_ne (by decide), p2 61 (by decide)]
  rw [e61] at q3
  have Wr : ∀ a, a ≠ 61 → a ≠ 1 → a ≠ 7 → W a = μ a := fun a h1 h2 h3 => by rw [q2 a h1, ju_ne h2, p2 a h3]
  have W1 : W 1 = upd (μ 1) 11 (nI (F + n)) := by rw [q2 1 (by decide), ju_rowS, p2 1 (by decide)]
  have W7 : W 7 = m 7 := by rw [q2 7 (by decide), ju_ne (by decide)]
  have S : jS (W 61) := by
    obtain ⟨h1, h2, h3, h4⟩ := h.S
    have lo : ∀ b, b < 177 → W 61 b = μ 61 b := fun b hb => by rw [q3 b (by omega), if_neg (by omega)]
    refine ⟨fun j hj => ?_, fun a b ha hb => by rw [lo _ (by omega), lo _ (by omega)]; exact h2 a b ha hb, fun a ha => by rw [lo _ (by omega)]; exact h3 a ha, fun p hp => ?_⟩
    · by_cases q : j = 177
      · subst q
        rw [q4, show bdh 177 = 50 from by decide]
        unfold jb
        rw [nz_toInt (by omega)]
        omega
      · rw [q3 j q, if_neg (by omega)]; exact h1 j hj
    · rw [lo 139 (by omega)] at hp
      have x := h4 p hp
      have b := (h1 139 (by omega)).2
      have b2 : bdh 139 = 6 := by decide
      unfold jPer at x ⊢
      rw [lo _ (by omega), lo _ (by omega), lo _ (by omega), lo _ (by omega), lo _ (by omega), lo _ (by omega)]
      exact x
  refine ⟨nI (F + n), jj_u m 1 11 (nI (F + n)), W, ?_, ?_, ?_⟩
  · simp only [c1, ag, eF, c2', ↓reduceIte]
    exact p1
  · simp only [c1, e61, eF, c2', ↓reduceIte]
    exact q1
  · have n139 : W 61 139 = μ 61 139 := by rw [q3 139 (by omega), if_neg (by omega)]
    refine h.mod S (fun j hj => ?_) ⟨Wr _ (by decide) (by decide) (by decide), Wr _ (by decide) (by decide) (by decide), Wr _ (by decide) (by decide) (by decide), Wr _ (by decide) (by decide) (by decide)⟩ (fun j hj => by rw [q3 j (by omega), if_neg (by omega)]) (fun p hp => by rw [Wr _ (by omega) (by omega) (by omega)]; exact h.w.2.2.2.2 p hp) (fun k hk => Wr k (by omega) (by omega) (by omega))
    have dj : dn (μ 61) j := ⟨hj.1, fun a b => by have := hj.2 a b; rwa [n139] at this⟩
    have dj1 := hj.1
    unfold dm at dj1
    have r1 := lc_r (w := 1) hj.1
    by_cases t1 : 181 ≤ j ∧ j < 231
    · right
      have l1 : lc 1 j = 7 := by unfold lc; rw [if_neg (by omega), if_neg (by omega), if_neg (by omega), if_neg (by omega), if_neg (by omega), if_neg (by omega), if_pos (by omega)]
      have l2 : li j = j - 181 := by unfold li; rw [if_neg (by omega), if_neg (by omega), if_neg (by omega), if_neg (by omega), if_neg (by omega), if_neg (by omega), if_neg (by omega), if_neg (by omega), if_neg (by omega), if_neg (by omega), if_neg (by omega), if_pos (by omega)]
      have ag7 := h.w.2.1 j dj
      rw [l1, l2] at ag7 ⊢
      rw [W7, p3, q3 j (by omega)]
      by_cases t : 181 + F ≤ j ∧ j < 181 + F + n
      · rw [if_pos (by omega), if_pos (by omega), show j - 181 - F = j - 181 - F from rfl]
      · rw [if_neg (by omega), if_neg (by omega)]; exact ag7
    · by_cases t2 : j = 177
      · right
        subst t2
        show W 1 11 = W 61 177
        rw [W1, upd_s, q4]
      · left
        refine ⟨?_, by rw [q3 j t2, if_neg (by omega)], dj⟩
        by_cases t3 : lc 1 j = 1
        · rw [t3, W1]
          apply upd_n
          intro e
          exact t2 (l_inj (w := 1) (i := j) (j := 177) hj.1 (by unfold dm; omega) t3 e)
        · rw [Wr _ (by omega) t3]
          intro e
          have x := l_ivs j (by omega) hj.1
          have y : lc 0 j = 6 := by rw [lc_w] at e; omega
          rw [y] at x
          unfold l_iv at x
          rw [if_neg (by decide), if_neg (by decide), if_neg (by decide), if_neg (by decide), if_pos (by decide)] at x
          have : li j < 50 ∨ ¬ li j < 50 := by omega
          unfold lc at y
          revert y
          repeat' split
          all_goals omega
