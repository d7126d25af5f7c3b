/-! ===== the class thinks ===== -/
def wC (S : Nat → Int32) (p : Nat) (l : Nat) : Nat := (parv S p (nI l)).toNatClampNeg
theorem wC_ok (S : Nat → Int32) (p l : Nat) : parv S p (nI l) = nI (wC S p l) ∧ wC S p l ≤ 99 := by
  obtain ⟨k, hk, e⟩ : ∃ k, k ≤ 99 ∧ parv S p (nI l) = nI k := lawv_b _ _ _ _ _
  unfold wC
  rw [e, nz_clamp (by omega)]
  exact ⟨rfl, hk⟩
def wLim (S : Nat → Int32) (p : Nat) : Nat := (limv S p).toNatClampNeg
theorem wLim_ok {S : Nat → Int32} {p : Nat} (h : jPer S p) : limv S p = nI (wLim S p) ∧ wLim S p ≤ 36 := by
  obtain ⟨l, l1, l2, e⟩ := limv_b h
  unfold wLim
  rw [e, nz_clamp (by omega)]
  exact ⟨rfl, l2⟩
/-- who may drink where, by a set of barred wells -/
def wDr (S : Nat → Int32) (p : Nat) (x : Int32) (w : Nat) : Bool := decide (needv S p 0 ≤ S w) && decide ((x >>> (nI w &&& 31)) &&& 1 = 0)
theorem bit01 (x : Int32) : ∀ w, (x >>> (nI w &&& 31)) &&& 1 = 0 ∨ (x >>> (nI w &&& 31)) &&& 1 = 1 := by
  intro w
  generalize x >>> (nI w &&& 31) = y
  have h : (y &&& 1).toBitVec = y.toBitVec &&& 1 := Int32.toBitVec_and ..
  have k : (y.toBitVec &&& 1#32) = 0#32 ∨ (y.toBitVec &&& 1#32) = 1#32 := by
    have e : (y.toBitVec &&& 1#32).toNat = y.toBitVec.toNat % 2 := by
      rw [BitVec.toNat_and]
      show y.toBitVec.toNat &&& 1 = _
      exact Nat.and_one_is_mod _
    rcases (by omega : y.toBitVec.toNat % 2 = 0 ∨ y.toBitVec.toNat % 2 = 1) with q | q
    · left; apply BitVec.eq_of_toNat_eq; rw [e, q]; rfl
    · right; apply BitVec.eq_of_toNat_eq; rw [e, q]; rfl
  rcases k with q | q
  · left; apply Int32.toBitVec_inj.mp; rw [h]; exact q
  · right; apply Int32.toBitVec_inj.mp; rw [h]; exact q
theorem isIn0 {x : Int32} {w : Nat} : wyf_isIn x (nI w) = 0 ↔ (x >>> (nI w &&& 31)) &&& 1 = 0 := by
  unfold wyf_isIn
  rcases bit01 x w with q | q
  · rw [q, if_neg (by decide)]
  · rw [q, if_pos rfl]
/-- bits of a set, where others are barred -/
theorem bitx (x : Int32) {w : Nat} (hw : w < 8) : ((x >>> (nI w &&& 31)) &&& 1 = 0) ↔ x.toBitVec.getLsbD w = false := by
  have s : (nI w &&& 31).toBitVec.smod 32 = BitVec.ofNat 32 w := (show ∀ w, w < 8 → (nI w &&& 31).toBitVec.smod 32 = BitVec.ofNat 32 w by decide +kernel) w hw
  have v : (BitVec.ofNat 32 w).toNat = w := by
    rw [BitVec.toNat_ofNat]
    exact Nat.mod_eq_of_lt (by omega)
  have e1 : (x >>> (nI w &&& 31)).toBitVec = x.toBitVec.sshiftRight w := by
    rw [Int32.toBitVec_shiftRight, s, BitVec.sshiftRight_eq', v]
  have e2 : (x >>> (nI w &&& 31)).toBitVec.getLsbD 0 = x.toBitVec.getLsbD w := by
    rw [e1, BitVec.getLsbD_sshiftRight, if_pos (show w + 0 < 32 by omega), decide_eq_false (show ¬ 32 ≤ 0 by omega)]
    all_goals rfl
  have h : ((x >>> (nI w &&& 31)) &&& 1).toBitVec.getLsbD 0 = x.toBitVec.getLsbD w := by
    rw [Int32.toBitVec_and, BitVec.getLsbD_and, e2, show (1 : Int32).toBitVec.getLsbD 0 = true by decide, Bool.and_true]
  rcases bit01 x w with c | c
  · rw [c] at h
    exact ⟨fun _ => h.symm.trans (by decide), fun _ => c⟩
  · rw [c] at h
    refine ⟨fun e => absurd (c.symm.trans e) (by decide), fun e => ?_⟩
    rw [e] at h
    exact absurd h (by decide)
theorem mkL.bar {y : Int32} {l : List Nat} (h : mkL y l) (x : Int32) : ∃ l', mkL (y &&& (x ^^^ (-1))) l' ∧ ∀ w, w ∈ l' ↔ w < 8 ∧ w ∈ l ∧ (x >>> (nI w &&& 31)) &&& 1 = 0 := by
  obtain ⟨M, hM, rfl, hb⟩ := h
  obtain ⟨b, hb2⟩ : ∃ b : BitVec 32, b = (nI M &&& (x ^^^ (-1))).toBitVec := ⟨_, rfl⟩
  have eb : b = BitVec.ofNat 32 M &&& (x.toBitVec ^^^ (-1 : Int32).toBitVec) := by
    rw [hb2, Int32.toBitVec_and, Int32.toBitVec_xor]
    all_goals rfl
  have lt : b.toNat < 256 := by
    rw [eb, BitVec.toNat_and, BitVec.toNat_ofNat, Nat.mod_eq_of_lt (by omega)]
    exact Nat.lt_of_le_of_lt Nat.and_le_left hM
  have bit : ∀ w, w < 8 → (b.toNat.testBit w = true ↔ M.testBit w = true ∧ (x >>> (nI w &&& 31)) &&& 1 = 0) := by
    intro w hw
    have e : b.toNat.testBit w = (M.testBit w && !x.toBitVec.getLsbD w) := by
      show b.getLsbD w = _
      have o : (-1 : Int32).toBitVec.getLsbD w = true := (show ∀ w, w < 8 → (-1 : Int32).toBitVec.getLsbD w = true by decide +kernel) w hw
      rw [eb, BitVec.getLsbD_and, BitVec.getLsbD_xor, BitVec.getLsbD_ofNat, o, decide_eq_true (show w < 32 by omega)]
      cases M.testBit w <;> cases x.toBitVec.getLsbD w <;> rfl
    rw [e, bitx x hw]
    cases M.testBit w <;> cases x.toBitVec.getLsbD w <;> decide
  have ez : nI M &&& (x ^^^ (-1)) = nI b.toNat := by
    apply Int32.toBitVec_inj.mp
    rw [← hb2]
    show b = BitVec.ofNat 32 b.toNat
    apply BitVec.eq_of_toNat_eq
    rw [BitVec.toNat_ofNat]
    exact (Nat.mod_eq_of_lt (Nat.lt_trans lt (by decide))).symm
  refine ⟨(List.range 8).filter (fun w => b.toNat.testBit w), ⟨b.toNat, lt, ez, fun w hw => ?_⟩, fun w => ?_⟩
  · rw [List.mem_filter, List.mem_range]
    exact ⟨fun e => ⟨hw, e⟩, fun e => e.2⟩
  · rw [List.mem_filter, List.mem_range]
    constructor
    · rintro ⟨a, c⟩
      obtain ⟨c1, c2⟩ := (bit w a).mp c
      exact ⟨a, (hb w a).mp c1, c2⟩
    · rintro ⟨a, c1, c2⟩
      exact ⟨a, (bit w a).mpr ⟨(hb w a).mpr c1, c2⟩⟩
/-- the roads are taken over, and the wells with water enough are marked -/
def enW (μ : jj_M) (p : Nat) (m : jj_M) : Prop := (∀ j, j < 64 → m 72 j = μ 3 j) ∧ ∃ l, mkL (m 41 2) l ∧ ∀ w, w ∈ l ↔ w < 8 ∧ needv (μ 61) p 0 ≤ μ 61 w
theorem enW.to {μ : jj_M} {p : Nat} {m m' : jj_M} (h : enW μ p m) (e72 : m' 72 = m 72) (e : m' 41 2 = m 41 2) : enW μ p m' := by
  unfold enW
  rw [e72, e]
  exact h
theorem think_L {μ : jj_M} (h : jI μ) {n p : Nat} (hn : n ≤ 6) (en : μ 61 139 = nI n) (hp : p < n) (x : Int32) : ∀ (k i f : Nat) (ν : jj_M), i + k = 21 → k < f → (∀ q, q ≠ 20 → q ≠ 41 → q ≠ 42 → q ≠ 72 → ν q = μ q) → ν 41 1 = limv (μ 61) p → (∀ j, j < 64 → ν 72 j = μ 3 j) → (∀ l, 1 ≤ l → l < i → ν 42 l = nI (wC (μ 61) p l)) → ∃ m, wyf_think_L16 jz_N (9 + p) x f (nI i) ν = wyf_think_L59 jz_N (9 + p) x (needv (μ 61) p 0) jz_N 0 m ∧ (∀ q, q ≠ 17 → q ≠ 20 → q ≠ 41 → q ≠ 42 → q ≠ 72 → m q = μ q) ∧ m 41 1 = limv (μ 61) p ∧ m 41 2 = 0 ∧ (∀ j, j < 64 → m 72 j = μ 3 j) ∧ ∀ l, 1 ≤ l → l < 21 → m 42 l = nI (wC (μ 61) p l) := by
  intro k
  induction k with
  | zero =>
    intro i f ν hi hf hν h1 h72 hc
    obtain ⟨f, rfl⟩ : ∃ m, f = m + 1 := ⟨f - 1, by omega⟩
    have e : i = 21 := by omega
    subst e
    have tν : jTh μ ν := ⟨fun q hq _ => hν q (fun e => hq (by unfold jFree; omega)) (fun e => hq (by unfold jFree; omega)) (fun e => hq (by unfold jFree; omega)) (fun e => hq (by unfold jFree; omega)), fun j _ => by rw [hν 60 (by decide) (by decide) (by decide) (by decide)]⟩
    have eν : ν 61 = μ 61 := hν 61 (by decide) (by decide) (by decide) (by decide)
    obtain ⟨m, m1, m2⟩ := needs_c (tν.I h) hn (by rw [eν]; exact en) hp 0
    rw [eν] at m1
    refine ⟨jj_u m 41 2 0, ?_, fun q h17 h20 h41 h42 h7 => by rw [ju_ne h41, m2 q h17, hν q h20 h41 h42 h7], ?_, ju_self, fun j hj => by rw [ju_ne (by decide), m2 72 (by decide)]; exact h72 j hj, fun l l1 l2 => ?_⟩
    · rw [wyf_think_L16, if_pos (by decide), m1, Option.bind_some]
      all_goals rfl
    · rw [ju_other (by decide), m2 41 (by decide)]; exact h1
    · rw [ju_ne (by decide), m2 42 (by decide)]; exact hc l l1 l2
  | succ k ih =>
    intro i f ν hi hf hν h1 h72 hc
    obtain ⟨f, rfl⟩ : ∃ m, f = m + 1 := ⟨f - 1, by omega⟩
    have c : ¬ (20 : Int32) < nI i := by rw [show (20 : Int32) = nI 20 from rfl, nz_lt (by omega) (by omega)]; omega
    have g : jj_i (nI i) 21 := nz_in (by omega) (by omega)
    have ki : (nI i).toNatClampNeg = i := nz_clamp (by omega)
    have tν : jTh μ ν := ⟨fun q hq _ => hν q (fun e => hq (by unfold jFree; omega)) (fun e => hq (by unfold jFree; omega)) (fun e => hq (by unfold jFree; omega)) (fun e => hq (by unfold jFree; omega)), fun j _ => by rw [hν 60 (by decide) (by decide) (by decide) (by decide)]⟩
    have eν : ν 61 = μ 61 := hν 61 (by decide) (by decide) (by decide) (by decide)
    obtain ⟨m, m1, m2⟩ := parched_p (tν.I h) hn (by rw [eν]; exact en) hp (nI i)
    rw [eν, (wC_ok (μ 61) p i).1] at m1
    obtain ⟨m', k1, k2⟩ := ih (i + 1) f (jj_u m 42 i (nI (wC (μ 61) p i))) (by omega) (by omega) (fun q h20 h41 h42 h7 => by rw [ju_ne h42, m2 q h20, hν q h20 h41 h42 h7]) (by rw [ju_ne (by decide), m2 41 (by decide)]; exact h1) (fun j hj => by rw [ju_ne (by decide), m2 72 (by decide)]; exact h72 j hj) (fun l l1 l2 => by
      by_cases e : l = i
      · rw [e, ju_self]
      · rw [ju_other e, m2 42 (by decide)]; exact hc l l1 (by omega))
    refine ⟨m', ?_, k2⟩
    rw [wyf_think_L16, if_neg c, m1, Option.bind_some]
    simp only [eq_true g, ki, nz_s, ↓reduceIte]
    exact k1
theorem enough_L {S : Nat → Int32} {p q : Nat} {x : Int32} {N : Nat} : ∀ (k i f : Nat) (ν : jj_M) (l : List Nat), i + k = 8 → k < f → (∀ w, w < 8 → ν 2 w = S w) → mkL (ν 41 2) l → (∀ w, w ∈ l ↔ w < i ∧ needv S p 0 ≤ S w) → ∃ m l', wyf_think_L59 N q x (needv S p 0) f (nI i) ν = wyf_startAgain N q x m ∧ (∀ k, k ≠ 41 → m k = ν k) ∧ (∀ j, j ≠ 2 → m 41 j = ν 41 j) ∧ mkL (m 41 2) l' ∧ ∀ w, w ∈ l' ↔ w < 8 ∧ needv S p 0 ≤ S w := by
  intro k
  induction k with
  | zero =>
    intro i f ν l hi hf h2 hm hl
    obtain ⟨f, rfl⟩ : ∃ m, f = m + 1 := ⟨f - 1, by omega⟩
    have e : i = 8 := by omega
    subst e
    refine ⟨ν, l, ?_, fun _ _ => rfl, fun _ _ => rfl, hm, hl⟩
    rw [wyf_think_L59, if_pos (by decide)]
    cases wyf_startAgain N q x ν <;> rfl
  | succ k ih =>
    intro i f ν l hi hf h2 hm hl
    obtain ⟨f, rfl⟩ : ∃ m, f = m + 1 := ⟨f - 1, by omega⟩
    have c : ¬ (8 : Int32) ≤ nI i := by rw [show (8 : Int32) = nI 8 from rfl, nz_le (by omega) (by omega)]; omega
    have g : jj_i (nI i) 8 := nz_in (by omega) (by omega)
    have ki : (nI i).toNatClampNeg = i := nz_clamp (by omega)
    rw [wyf_think_L59, if_neg c, if_pos g]
    simp only [ki, h2 i (by omega), nz_s]
    by_cases q1 : S i < needv S p 0
    · rw [if_pos q1]
      refine ih (i + 1) f ν l (by omega) (by omega) h2 hm (fun w => ?_)
      rw [hl w]
      constructor
      · rintro ⟨a, b⟩; exact ⟨by omega, b⟩
      · rintro ⟨a, b⟩
        refine ⟨?_, b⟩
        have : w ≠ i := fun e => by rw [e] at b; exact absurd q1 (Int32.not_lt.mpr b)
        omega
    · rw [if_neg q1]
      obtain ⟨m, l', a, b, c', d, e⟩ := ih (i + 1) f (jj_u ν 41 2 (ν 41 2 ||| ((1 : Int32) <<< (nI i &&& 31)))) (i :: l) (by omega) (by omega) (fun w hw => by rw [ju_ne (by decide)]; exact h2 w hw) (by rw [ju_self]; exact hm.add (by omega)) (fun w => by
        rw [List.mem_cons, hl w]
        constructor
        · rintro (a | ⟨a, b⟩)
          · rw [a]; exact ⟨by omega, Int32.not_lt.mp q1⟩
          · exact ⟨by omega, b⟩
        · rintro ⟨a, b⟩
          by_cases z : w = i
          · exact Or.inl z
          · exact Or.inr ⟨by omega, b⟩)
      exact ⟨m, l', a, fun k hk => by rw [b k hk, ju_ne hk], fun j hj => by rw [c' j hj, ju_other hj], d, e⟩
def wL0 (S : Nat → Int32) (p : Nat) (w : Nat) : Nat := if w = (S (140 + 6 * p + 2)).toNatClampNeg then (S (140 + 6 * p + 4)).toNatClampNeg else 1000000
/-- what a thought begins with -/
def thK (S : Nat → Int32) (p : Nat) (x : Int32) (m : jj_M) : Prop := spK (wRd S) (wC S p) (wLim S p) (wDr S p x) m ∧ ∃ l, mkL (m 41 0) l ∧ ∀ w, w ∈ l ↔ w < 8 ∧ wDr S p x w = true
/-- what a thought may have changed -/
def thT (μ m : jj_M) : Prop := ∀ k, k ≠ 17 → k ≠ 20 → k ≠ 41 → k ≠ 42 → k ≠ 43 → k ≠ 44 → k ≠ 72 → m k = μ k
theorem thT.th {μ m : jj_M} (h : thT μ m) : jTh μ m := ⟨fun k hk _ => h k (fun e => hk (by unfold jFree; omega)) (fun e => hk (by unfold jFree; omega)) (fun e => hk (by unfold jFree; omega)) (fun e => hk (by unfold jFree; omega)) (fun e => hk (by unfold jFree; omega)) (fun e => hk (by unfold jFree; omega)) (fun e => hk (by unfold jFree; omega)), fun j _ => by rw [h 60 (by decide) (by decide) (by decide) (by decide) (by decide) (by decide) (by decide)]⟩
theorem again_ok {μ : jj_M} (h : jI μ) {n p : Nat} (hn : n ≤ 6) (en : μ 61 139 = nI n) (hp : p < n) (hd0 : μ 61 (140 + 6 * p + 5) = 0) (x : Int32) {ν : jj_M} (hT : thT μ ν) (h1 : ν 41 1 = limv (μ 61) p) (h2 : enW μ p ν) (hc : ∀ l, 1 ≤ l → l < 21 → ν 42 l = nI (wC (μ 61) p l)) : ∃ m, wyf_startAgain jz_N (9 + p) x ν = some m ∧ thT μ m ∧ thK (μ 61) p x m ∧ m 41 1 = limv (μ 61) p ∧ enW μ p m ∧ (∀ l, 1 ≤ l → l < 21 → m 42 l = nI (wC (μ 61) p l)) ∧ ∀ w, w < 8 → m 43 w = nI (wL0 (μ 61) p w) ∧ wL0 (μ 61) p w ≤ 1000000 := by
  have big := jz_ge
  have P := h.per hn en hp
  obtain ⟨eLim, bLim⟩ := wLim_ok P
  obtain ⟨_, _, ⟨a, ha, ea⟩, _, P5⟩ := P
  obtain ⟨t, ht, et⟩ : ∃ t, t ≤ 36 ∧ μ 61 (140 + 6 * p + 4) = nI t := by
    rcases P5 with ⟨_, z⟩ | ⟨z, _⟩
    · exact z
    · rw [hd0] at z; exact absurd z (by decide)
  obtain ⟨h72, l0, e0, e1⟩ := h2
  obtain ⟨l, m4', m5'⟩ := e0.bar x
  have m5 : ∀ w, w ∈ l ↔ w < 8 ∧ wDr (μ 61) p x w = true := fun w => by
    rw [m5' w, e1 w]
    unfold wDr
    rw [Bool.and_eq_true, decide_eq_true_iff, decide_eq_true_iff]
    exact ⟨fun e => ⟨e.1, e.2.1.2, e.2.2⟩, fun e => ⟨e.1, ⟨e.1, e.2.1⟩, e.2.2⟩⟩
  obtain ⟨m, hm⟩ : ∃ m, m = jj_u ν 41 0 (ν 41 2 &&& (x ^^^ (-1))) := ⟨_, rfl⟩
  have m4 : mkL (m 41 0) l := by rw [hm, ju_self]; exact m4'
  have m3 : ∀ j, j ≠ 0 → m 41 j = ν 41 j := fun j hj => by rw [hm, ju_other hj]
  obtain ⟨F, f1, f2, f3, _⟩ := fill_ok (N := jz_N) (p := 43) (n0 := 8) (v := 1000000) (by omega) 8 0 jz_N m (by omega) (by omega)
  have f1 : jdf_fill jz_N 43 8 1000000 m = some F := f1
  have mo : ∀ k, k ≠ 41 → m k = ν k := fun k hk => by rw [hm, ju_ne hk]
  have Fo : ∀ k, k ≠ 41 → k ≠ 43 → F k = ν k := fun k h1 h2 => by rw [f2 k h2, mo k h1]
  have F41 : ∀ j, F 41 j = m 41 j := fun j => by rw [f2 41 (by decide)]
  have pp : F (9 + p) = μ (9 + p) := by rw [Fo (9 + p) (by omega) (by omega), hT (9 + p) (by omega) (by omega) (by omega) (by omega) (by omega) (by omega) (by omega)]
  have p2 : F (9 + p) 2 = nI a := by rw [pp, h.pag hn en hp (by omega)]; exact ea
  have p4 : F (9 + p) 4 = nI t := by rw [pp, h.pag hn en hp (by omega)]; exact et
  have mask : ∀ w, w < 8 → wyf_isIn (m 41 0) (nI w) = if wDr (μ 61) p x w = true then 1 else 0 := fun w hw => by
    rw [m4.isIn hw]
    by_cases q : wDr (μ 61) p x w = true
    · rw [if_pos q, if_pos ((m5 w).mpr ⟨hw, q⟩)]
    · rw [if_neg q, if_neg (fun e => q ((m5 w).mp e).2)]
  refine ⟨jj_u F 43 a (nI t), ?_, fun k h1 h2 h3 h4 h5 h6 h7 => by rw [ju_ne h5, Fo k h3 h5]; exact hT k h1 h2 h3 h4 h5 h6 h7, ⟨⟨fun u v hu hv => ?_, fun l l1 l2 => ?_, ?_, by omega, fun w hw => ?_⟩, l, ?_, m5⟩, ?_, ?_, fun l l1 l2 => ?_, fun w hw => ?_⟩
  · unfold wyf_startAgain
    rw [← hm, f1, Option.bind_some, p2, if_pos (nz_in ha (by omega)), p4, nz_clamp (by omega)]
  · obtain ⟨e1, _, e3⟩ := wRd_ok h hu hv
    rw [ju_ne (by decide), Fo 72 (by decide) (by decide), h72 (8 * u + v) (by omega)]
    exact ⟨e1, e3⟩
  · rw [ju_ne (by decide), Fo 42 (by decide) (by decide), hc l l1 (by omega)]
    exact ⟨rfl, by have := (wC_ok (μ 61) p l).2; omega⟩
  · rw [ju_ne (by decide), F41, m3 1 (by decide), h1]; exact eLim
  · rw [ju_ne (by decide), F41]; exact mask w hw
  · rw [ju_ne (by decide), F41]; exact m4
  · rw [ju_ne (by decide), F41, m3 1 (by decide)]; exact h1
  · exact ⟨fun j hj => by rw [ju_ne (by decide), Fo 72 (by decide) (by decide)]; exact h72 j hj, l0, by rw [ju_ne (by decide), F41, m3 2 (by decide)]; exact e0, e1⟩
  · rw [ju_ne (by decide), Fo 42 (by decide) (by decide)]; exact hc l l1 l2
  · unfold wL0
    rw [ea, et, nz_clamp (by omega), nz_clamp (by omega)]
    by_cases q : w = a
    · rw [q, ju_self, if_pos rfl]; exact ⟨rfl, by omega⟩
    · rw [ju_other q, f3 w (by omega) hw, if_neg q]; exact ⟨rfl, Nat.le_refl _⟩
theorem think_ok {μ : jj_M} (h : jI μ) {n p : Nat} (hn : n ≤ 6) (en : μ 61 139 = nI n) (hp : p < n) (hd0 : μ 61 (140 + 6 * p + 5) = 0) (x : Int32) : ∃ m, wyf_think jz_N (9 + p) x μ = some m ∧ thT μ m ∧ thK (μ 61) p x m ∧ m 41 1 = limv (μ 61) p ∧ enW μ p m ∧ (∀ l, 1 ≤ l → l < 21 → m 42 l = nI (wC (μ 61) p l)) ∧ ∀ w, w < 8 → m 43 w = nI (wL0 (μ 61) p w) ∧ wL0 (μ 61) p w ≤ 1000000 := by
  have big := jz_ge
  obtain ⟨Y, y1, y2, y3⟩ := look_ok μ
  have el : pef_limit (9 + p) Y = limv (μ 61) p := limit_c ((congrFun (y2 (9 + p) (by omega)) 0).trans (h.pag hn en hp (j := 0) (by omega))) ((congrFun (y2 (9 + p) (by omega)) 1).trans (h.pag hn en hp (j := 1) (by omega)))
  obtain ⟨ν, a, b, c, d, e, g⟩ := think_L h hn en hp x 20 1 jz_N (jj_u Y 41 1 (limv (μ 61) p)) (by omega) (by omega) (fun q _ h2 _ h4 => by rw [ju_ne h2, y2 q h4]) ju_self (fun j hj => by rw [ju_ne (by decide)]; exact y3 j hj) (fun l l1 l2 => by omega)
  obtain ⟨V, l, v1, v2, v3, v4, v5⟩ := enough_L (S := μ 61) (p := p) (q := 9 + p) (x := x) (N := jz_N) 8 0 jz_N ν [] (by omega) (by omega) (fun w hw => by rw [b 2 (by decide) (by decide) (by decide) (by decide) (by decide)]; exact (h.wat hw).1) (by rw [d]; exact mkL0) (fun w => ⟨fun e => (by cases e), fun e => by omega⟩)
  obtain ⟨m, k1, k2⟩ := again_ok h hn en hp hd0 x (ν := V) (fun k h1 h2 h3 h4 _ _ h7 => by rw [v2 k h3, b k h1 h2 h3 h4 h7]) (by rw [v3 1 (by decide)]; exact c) ⟨fun j hj => by rw [v2 72 (by decide)]; exact e j hj, l, v4, v5⟩ (fun l l1 l2 => by rw [v2 42 (by decide)]; exact g l l1 l2)
  refine ⟨m, ?_, k2⟩
  unfold wyf_think
  rw [y1, Option.bind_some, el]
  have a : wyf_think_L16 jz_N (9 + p) x jz_N 1 (jj_u Y 41 1 (limv (μ 61) p)) = _ := a
  have v1 : wyf_think_L59 jz_N (9 + p) x (needv (μ 61) p 0) jz_N 0 ν = _ := v1
  rw [a, v1]
  exact k1
/-- drinks at all wells where one may -/
theorem dwp_L {N : Nat} {R : Nat → Nat → Nat} {C : Nat → Nat} {lim : Nat} {dr : Nat → Bool} {μ0 : jj_M} (hK : spK R C lim dr μ0) : ∀ (k i f y0 : Nat) (L : Nat → Nat) (μ : jj_M), i + k = 8 → k < f → y0 ≤ 1 → spS μ0 L μ → ∃ y L' μ', wyf_drinkWherePossible_L4 N f (nI y0) (nI i) μ = some (nI y, μ') ∧ spS μ0 L' μ' ∧ (∀ w, L' w = if i ≤ w ∧ w < 8 ∧ dr w = true ∧ 0 < L w ∧ L w < 1000000 then 0 else L w) ∧ y ≤ 1 ∧ (y = 0 → y0 = 0 ∧ L' = L) := by
  intro k
  induction k with
  | zero =>
    intro i f y0 L μ hi hf hy hS
    obtain ⟨f, rfl⟩ : ∃ m, f = m + 1 := ⟨f - 1, by omega⟩
    have e : i = 8 := by omega
    subst e
    refine ⟨y0, L, μ, ?_, hS, fun w => by rw [if_neg (by omega)], hy, fun e => ⟨e, rfl⟩⟩
    rw [wyf_drinkWherePossible_L4, if_pos (by decide), if_pos]
    rcases (by omega : y0 = 0 ∨ y0 = 1) with q | q
    · left; rw [q]; rfl
    · right; rw [q]; rfl
  | succ k ih =>
    intro i f y0 L μ hi hf hy hS
    obtain ⟨f, rfl⟩ : ∃ m, f = m + 1 := ⟨f - 1, by omega⟩
    have c : ¬ (8 : Int32) ≤ nI i := by rw [show (8 : Int32) = nI 8 from rfl, nz_le (by omega) (by omega)]; omega
    have g : jj_i (nI i) 8 := nz_in (by omega) (by omega)
    have ki : (nI i).toNatClampNeg = i := nz_clamp (by omega)
    obtain ⟨l1, l2⟩ := hS.2 i (by omega)
    have d1 : wyf_isIn (μ 41 0) (nI i) = if dr i = true then 1 else 0 := by rw [hS.1 41 (by decide)]; exact hK.2.2.2.2 i (by omega)
    have skip : ¬ (dr i = true ∧ 0 < L i ∧ L i < 1000000) → ∃ y L' μ', wyf_drinkWherePossible_L4 N f (nI y0) (nI (i + 1)) μ = some (nI y, μ') ∧ spS μ0 L' μ' ∧ (∀ w, L' w = if i ≤ w ∧ w < 8 ∧ dr w = true ∧ 0 < L w ∧ L w < 1000000 then 0 else L w) ∧ y ≤ 1 ∧ (y = 0 → y0 = 0 ∧ L' = L) := by
      intro hn
      obtain ⟨y, L', μ', a1, a2, a3, a4, a5⟩ := ih (i + 1) f y0 L μ (by omega) (by omega) hy hS
      refine ⟨y, L', μ', a1, a2, fun w => ?_, a4, a5⟩
      rw [a3 w]
      by_cases e : w = i
      · subst e
        rw [if_neg (by omega), if_neg (fun z => hn z.2.2)]
      · by_cases z : i + 1 ≤ w ∧ w < 8 ∧ dr w = true ∧ 0 < L w ∧ L w < 1000000
        · rw [if_pos z, if_pos ⟨by omega, z.2⟩]
        · rw [if_neg z, if_neg (fun u => z ⟨by omega, u.2⟩)]
    rw [wyf_drinkWherePossible_L4, if_neg c, d1]
    simp only [eq_true g, ki, l1, nz_s, ↓reduceIte]
    by_cases q1 : dr i = true
    rotate_left
    · rw [if_neg q1, if_pos rfl]
      exact skip (fun e => q1 e.1)
    rw [if_pos q1, if_neg (show ¬ (1 : Int32) = 0 by decide)]
    by_cases q2 : 0 < L i
    rotate_left
    · rw [if_pos (by rw [show (0 : Int32) = nI 0 from rfl, nz_le (by omega) (by omega)]; omega)]
      exact skip (fun e => q2 e.2.1)
    rw [if_neg (by rw [show (0 : Int32) = nI 0 from rfl, nz_le (by omega) (by omega)]; omega)]
    by_cases q3 : L i < 1000000
    rotate_left
    · rw [if_pos (by rw [show (1000000 : Int32) = nI 1000000 from rfl, nz_le (by omega) (by omega)]; omega)]
      exact skip (fun e => q3 e.2.2)
    rw [if_neg (by rw [show (1000000 : Int32) = nI 1000000 from rfl, nz_le (by omega) (by omega)]; omega)]
    obtain ⟨y, L', μ', a1, a2, a3, a4, a5⟩ := ih (i + 1) f 1 (gup L i 0) (jj_u μ 43 i 0) (by omega) (by omega) (by omega) (hS.w (v := 0) (by omega) (by omega))
    refine ⟨y, L', μ', a1, a2, fun w => ?_, a4, fun e => by have := (a5 e).1; omega⟩
    rw [a3 w]
    by_cases e : w = i
    · subst e
      rw [if_neg (by omega), gup_s, if_pos ⟨Nat.le_refl _, by omega, q1, q2, q3⟩]
    · rw [gup_n e]
      by_cases z : i + 1 ≤ w ∧ w < 8 ∧ dr w = true ∧ 0 < L w ∧ L w < 1000000
      · rw [if_pos z, if_pos ⟨by omega, z.2⟩]
      · rw [if_neg z, if_neg (fun u => z ⟨by omega, u.2⟩)]
theorem dwp_ok {N : Nat} (hN : 10 < N) {R : Nat → Nat → Nat} {C : Nat → Nat} {lim : Nat} {dr : Nat → Bool} {μ0 : jj_M} (hK : spK R C lim dr μ0) {L : Nat → Nat} {μ : jj_M} (hS : spS μ0 L μ) : ∃ y L' μ', wyf_drinkWherePossible N μ = some (nI y, μ') ∧ spS μ0 L' μ' ∧ (∀ w, w < 8 → L' w = if dr w = true ∧ L w < 1000000 then 0 else L w) ∧ y ≤ 1 ∧ (y = 0 → L' = L) := by
  obtain ⟨y, L', μ', a1, a2, a3, a4, a5⟩ := dwp_L (N := N) hK 8 0 N 0 L μ (by omega) (by omega) (by omega) hS
  refine ⟨y, L', μ', a1, a2, fun w hw => ?_, a4, fun e => (a5 e).2⟩
  rw [a3 w]
  by_cases z : dr w = true ∧ L w < 1000000
  · rw [if_pos z]
    by_cases q : 0 < L w
    · rw [if_pos ⟨by omega, hw, z.1, q, z.2⟩]
    · rw [if_neg (fun e => q e.2.2.2.1)]; omega
  · rw [if_neg z, if_neg (fun e => z ⟨e.2.2.1, e.2.2.2.2⟩)]
