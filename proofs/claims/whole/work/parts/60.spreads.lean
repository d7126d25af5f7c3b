/-! ===== the reference spreads ===== -/
/-- what a text changes, when it is asked -/
def rd6 (μ m : jj_M) : Prop := (∀ k, k ≠ 60 → m k = μ k) ∧ ∀ j, (j < 5 ∨ 14 ≤ j) → m 60 j = μ 60 j
theorem rd6.rf {μ : jj_M} : rd6 μ μ := ⟨fun _ _ => rfl, fun _ _ => rfl⟩
theorem rd6.tr {a b c : jj_M} (h1 : rd6 a b) (h2 : rd6 b c) : rd6 a c := ⟨fun k x => (h2.1 k x).trans (h1.1 k x), fun j x => (h2.2 j x).trans (h1.2 j x)⟩
theorem rd6.u60 {μ m : jj_M} (h : rd6 μ m) {j : Nat} {v : Int32} (hj : 5 ≤ j) (hj2 : j < 14) : rd6 μ (jj_u m 60 j v) := ⟨fun a x => (ju_ne x).trans (h.1 a x), fun i x => (ju_other (by omega)).trans (h.2 i x)⟩
theorem rdT.r6 {μ m : jj_M} (h : rdT μ m) : rd6 μ m := ⟨h.1, fun j x => h.2 j (by omega) (by omega) (by omega)⟩
/-! the reference's reading of a text, if its recursive part reads right -/
def anyOk6 (N : Nat) : Prop := ∀ (μ : jj_M) (L u : Nat) (a b c : Int32), L ≤ 50 → u < 2 → μ 60 5 = nI (231 + 50 * u) → μ 60 6 = nI L → μ 60 7 = 0 → μ 60 8 = 0 → μ 60 9 = nI u → μ 60 10 = a → μ 60 11 = b → μ 60 12 = c → μ 60 13 = 0 → (pt (fun i => μ 61 (231 + 50 * u + i)) L u).2.2 = false → (pt (fun i => μ 61 (231 + 50 * u + i)) L u).2.1 = L → ∃ m, mdf_any_G N μ = some (eval (pt (fun i => μ 61 (231 + 50 * u + i)) L u).1 a b c, m) ∧ rd6 μ m ∧ m 60 13 = 0 ∧ m 60 6 = nI L ∧ m 60 7 = nI L
theorem reads_6 {N : Nat} (hA : anyOk6 N) {μ : jj_M} {L u : Nat} (a b c : Int32) (hL : L ≤ 50) (hu : u < 2) (h1 : (pt (fun i => μ 61 (231 + 50 * u + i)) L u).2.2 = false) (h2 : (pt (fun i => μ 61 (231 + 50 * u + i)) L u).2.1 = L) : ∃ m, mdf_readsText N (nI (231 + 50 * u)) (nI L) (nI u) a b c μ = some (eval (pt (fun i => μ 61 (231 + 50 * u + i)) L u).1 a b c, m) ∧ rd6 μ m := by
  unfold mdf_readsText
  simp only [Option.bind_some]
  obtain ⟨M, hM⟩ : ∃ M, M = jj_u (jj_u (jj_u (jj_u (jj_u (jj_u (jj_u (jj_u (jj_u μ 60 5 (nI (231 + 50 * u))) 60 6 (nI L)) 60 7 0) 60 8 0) 60 9 (nI u)) 60 10 a) 60 11 b) 60 12 c) 60 13 0 := ⟨_, rfl⟩
  rw [← hM]
  have M61 : M 61 = μ 61 := by rw [hM]; iterate 9 rw [ju_ne (by decide)]
  have th : rd6 μ M := by
    rw [hM]
    exact ((((((((rd6.rf.u60 (by omega) (by omega)).u60 (by omega) (by omega)).u60 (by omega) (by omega)).u60 (by omega) (by omega)).u60 (by omega) (by omega)).u60 (by omega) (by omega)).u60 (by omega) (by omega)).u60 (by omega) (by omega)).u60 (by omega) (by omega)
  have f5 : M 60 5 = nI (231 + 50 * u) := by rw [hM]; iterate 8 rw [ju_other (by decide)]
                                             exact ju_self
  have f6 : M 60 6 = nI L := by rw [hM]; iterate 7 rw [ju_other (by decide)]
                                exact ju_self
  have f7 : M 60 7 = 0 := by rw [hM]; iterate 6 rw [ju_other (by decide)]
                             exact ju_self
  have f8 : M 60 8 = 0 := by rw [hM]; iterate 5 rw [ju_other (by decide)]
                             exact ju_self
  have f9 : M 60 9 = nI u := by rw [hM]; iterate 4 rw [ju_other (by decide)]
                                exact ju_self
  have f10 : M 60 10 = a := by rw [hM]; iterate 3 rw [ju_other (by decide)]
                               exact ju_self
  have f11 : M 60 11 = b := by rw [hM]; iterate 2 rw [ju_other (by decide)]
                               exact ju_self
  have f12 : M 60 12 = c := by rw [hM, ju_other (by decide)]; exact ju_self
  have f13 : M 60 13 = 0 := by rw [hM]; exact ju_self
  obtain ⟨m, m1, m2, m3, m4, m5⟩ := hA M L u a b c hL hu f5 f6 f7 f8 f9 f10 f11 f12 f13 (by rw [M61]; exact h1) (by rw [M61]; exact h2)
  rw [M61] at m1
  refine ⟨jj_u m 60 13 0, ?_, (th.tr m2).u60 (by omega) (by omega)⟩
  rw [m1]
  simp only [Option.bind_some, m3, m4, m5, Int32.le_refl, ↓reduceIte]
theorem worked_6 {N : Nat} (hA : anyOk6 N) {μ : jj_M} {L u : Nat} (a b c : Int32) (hL : L ≤ 50) (hu : u < 2) (eL : μ 61 (179 + u) = nI L) (h1 : (pt (fun i => μ 61 (231 + 50 * u + i)) L u).2.2 = false) (h2 : (pt (fun i => μ 61 (231 + 50 * u + i)) L u).2.1 = L) : ∃ m, mdf_worked N (nI u) a b c μ = some (eval (pt (fun i => μ 61 (231 + 50 * u + i)) L u).1 a b c, m) ∧ rd6 μ m := by
  unfold mdf_worked
  have e1 : (179 : Int32) + nI u = nI (179 + u) := by rw [show (179 : Int32) = nI 179 from rfl, nz_add]
  have e2 : (231 : Int32) + 50 * nI u = nI (231 + 50 * u) := by rw [show (231 : Int32) = nI 231 from rfl, show (50 : Int32) = nI 50 from rfl, nz_mul, nz_add]
  have g : jj_i (nI (179 + u)) 351 := nz_in (by omega) (by omega)
  have k : (nI (179 + u)).toNatClampNeg = 179 + u := nz_clamp (by omega)
  obtain ⟨m, m1, m2⟩ := reads_6 hA a b c hL hu h1 h2
  refine ⟨m, ?_, m2⟩
  simp only [e1, e2, eq_true g, k, eL, m1, ↓reduceIte, Option.bind_some]
theorem gives_6 {μ : jj_M} {F C : Nat → Int32} {u : Nat} (hA : anyOk6 jz_N) (hl : jLaw (μ 61) F C u) (hu : u < 2) (a b c : Int32) : ∃ m, (if u = 0 then mdf_needed jz_N a b c μ else mdf_parched jz_N a b c μ) = some (lawv (μ 61) u a b c, m) ∧ rd6 μ m := by
  obtain ⟨h2, hl⟩ := hl
  unfold lawv lvv
  rw [← held_ok]
  have neg : ¬ (0 : Int32) ≤ -1 := by decide
  rcases hl with ⟨e, f⟩ | ⟨L, l1, l2, l3, l4, l5, l6, l7, l8, l9⟩
  · refine ⟨μ, ?_, rd6.rf⟩
    rcases (by omega : u = 0 ∨ u = 1) with rfl | rfl
    · have e : μ 61 179 = -1 := e
      unfold mdf_needed
      rw [if_pos rfl, e, if_neg neg, if_pos rfl, if_pos rfl]
    · have e : μ 61 180 = -1 := e
      unfold mdf_parched
      rw [if_neg (by decide), e, if_neg neg, if_pos rfl, if_neg (by decide)]
  · have n1 : ¬ μ 61 (179 + u) = -1 := by
      intro e
      rw [l3] at e
      have x : (nI L).toInt = -1 := by rw [e]; decide
      rw [nz_toInt (by omega)] at x
      omega
    obtain ⟨m, m1, m2⟩ := worked_6 hA a b c l2 hu l3 l4 l5
    rw [if_neg n1]
    have eL : (μ 61 (179 + u)).toNatClampNeg = L := by rw [l3, nz_clamp (by omega)]
    have pos : (0 : Int32) ≤ nI L := nI_nn (by omega)
    refine ⟨m, ?_, m2⟩
    rcases (by omega : u = 0 ∨ u = 1) with rfl | rfl
    · have l3 : μ 61 179 = nI L := l3
      have m1 : mdf_worked jz_N 0 a b c μ = _ := m1
      unfold mdf_needed
      rw [if_pos rfl, l3, if_pos pos, m1, nz_clamp (show L < 2147483648 by omega)]
      rfl
    · have l3 : μ 61 180 = nI L := l3
      have m1 : mdf_worked jz_N 1 a b c μ = _ := m1
      unfold mdf_parched
      rw [if_neg (by decide), l3, if_pos pos, m1, nz_clamp (show L < 2147483648 by omega)]
      rfl
theorem any_6 {N : Nat} (hN : 60 < N) : anyOk6 N := by
  intro μ L u a b c hL hu h5 h6 h7 h8 h9 h10 h11 h12 h13 hw hp
  have hB : 231 + 50 * u + L ≤ 351 := by omega
  have key : rdO a b c 0 L 0 (pt (fun i => μ 61 (231 + 50 * u + i)) L u) μ (mdf_any_G N μ) := by
    have q := rd_all (a := a) (b := b) (c := c) hN hB hL hu 50 0 0 (by omega) (by omega) (by omega) 0 μ (by omega) (T := fun i => μ 61 (231 + 50 * u + i)) ⟨h5, h6, h9, h10, h11, h12, fun _ _ => rfl⟩ h7 h8 h13
    unfold pt mdf_any_G
    exact q
  obtain ⟨v, m, r1, r2, r3, r4, r5, r6, r7⟩ := key
  obtain ⟨m13, m8, mv⟩ := r6 hw
  refine ⟨m, ?_, r2.r6, m13, by rw [r2.2 6 (by omega) (by omega) (by omega)]; exact h6, by rw [r3, hp]⟩
  rw [r1]
  have e := mv []
  unfold eval erun
  rw [e]
  rfl
theorem needs_6 {μ : jj_M} {F C : Nat → Int32} (hl : jLaw (μ 61) F C 0) {p : Nat} (hp : p < 6) (x : Int32) : ∃ m, mdf_needsOf jz_N (nI p) x μ = some (needv (μ 61) p x, m) ∧ rd6 μ m := by
  have t0 : mdf_its (nI p) 0 μ = some (μ 61 (140 + 6 * p)) := its_ok (p := p) (j := 0) hp (by omega)
  have t1 : mdf_its (nI p) 1 μ = some (μ 61 (140 + 6 * p + 1)) := its_ok (p := p) (j := 1) hp (by omega)
  obtain ⟨m, m1, m2⟩ := gives_6 (any_6 (by have := jz_ge; omega)) hl (by omega) (μ 61 (140 + 6 * p + 1)) x (μ 61 138)
  rw [if_pos rfl] at m1
  unfold mdf_needsOf needv
  rw [t1, Option.bind_some, t0, Option.bind_some, m1]
  by_cases q : μ 61 (140 + 6 * p) = 3
  · rw [if_pos q, if_pos q]; exact ⟨m, rfl, m2⟩
  rw [if_neg q, if_neg q]
  by_cases q : μ 61 (140 + 6 * p) = 6
  · rw [if_pos q, if_pos q]; exact ⟨m, rfl, m2⟩
  rw [if_neg q, if_neg q]
  exact ⟨μ, rfl, rd6.rf⟩
theorem thirstBy_6 {μ : jj_M} {F C : Nat → Int32} (hl : jLaw (μ 61) F C 1) {p : Nat} (hp : p < 6) (x : Int32) : ∃ m, mdf_thirstBy jz_N (nI p) x μ = some (parv (μ 61) p x, m) ∧ rd6 μ m := by
  have t1 : mdf_its (nI p) 1 μ = some (μ 61 (140 + 6 * p + 1)) := its_ok (p := p) (j := 1) hp (by omega)
  obtain ⟨m, m1, m2⟩ := gives_6 (any_6 (by have := jz_ge; omega)) hl (by omega) x (μ 61 (140 + 6 * p + 1)) (μ 61 138)
  rw [if_neg (by decide)] at m1
  unfold mdf_thirstBy parv
  rw [t1, Option.bind_some, m1]
  exact ⟨m, rfl, m2⟩
/-! the table of places and thirsts -/
/-- what spreading changes -/
def thB (μ0 ν : jj_M) : Prop := (∀ k, k ≠ 60 → k ≠ 65 → k ≠ 66 → ν k = μ0 k) ∧ ∀ j, (j < 5 ∨ 14 ≤ j) → ν 60 j = μ0 60 j
theorem thB.rf {μ0 : jj_M} : thB μ0 μ0 := ⟨fun _ _ _ _ => rfl, fun _ _ => rfl⟩
theorem thB.r6 {μ0 ν m : jj_M} (h : thB μ0 ν) (r : rd6 ν m) : thB μ0 m := ⟨fun k h1 h2 h3 => (r.1 k h1).trans (h.1 k h1 h2 h3), fun j x => (r.2 j x).trans (h.2 j x)⟩
theorem thB.u {μ0 ν : jj_M} (h : thB μ0 ν) {k j : Nat} {v : Int32} (hk : k = 65 ∨ k = 66) : thB μ0 (jj_u ν k j v) := ⟨fun a h1 h2 h3 => (ju_ne (by omega)).trans (h.1 a h1 h2 h3), fun i x => (show jj_u ν k j v 60 i = ν 60 i by rw [ju_ne (by omega)]).trans (h.2 i x)⟩
theorem thB.th {μ0 ν : jj_M} (h : thB μ0 ν) : jTh μ0 ν := ⟨fun k h1 h2 => h.1 k h2 (fun e => h1 (by unfold jFree; omega)) (fun e => h1 (by unfold jFree; omega)), h.2⟩
theorem thB.e61 {μ0 ν : jj_M} (h : thB μ0 ν) : ν 61 = μ0 61 := h.1 61 (by decide) (by decide) (by decide)
theorem thB.tr {a b c : jj_M} (h1 : thB a b) (h2 : thB b c) : thB a c := ⟨fun k x y z => (h2.1 k x y z).trans (h1.1 k x y z), fun j x => (h2.2 j x).trans (h1.2 j x)⟩
def wQ (S : Nat → Int32) (p j : Nat) : Nat := if 0 < wRd S (j / 8) (j % 8) then wC S p (wRd S (j / 8) (j % 8)) else 1000000
/-- a table, and the roads' thirsts -/
def tS (μ0 : jj_M) (p : Nat) (T : Nat → Nat) (ν : jj_M) : Prop := thB μ0 ν ∧ (∀ j, j < 64 → ν 66 j = nI (wQ (μ0 61) p j)) ∧ ∀ i, i < 296 → ν 65 i = nI (T i) ∧ T i ≤ 1000000
theorem tS.r6 {μ0 : jj_M} {p : Nat} {T : Nat → Nat} {ν m : jj_M} (h : tS μ0 p T ν) (r : rd6 ν m) : tS μ0 p T m := ⟨h.1.r6 r, fun j hj => by rw [r.1 66 (by decide)]; exact h.2.1 j hj, fun i hi => by rw [r.1 65 (by decide)]; exact h.2.2 i hi⟩
theorem tS.w {μ0 : jj_M} {p : Nat} {T : Nat → Nat} {ν : jj_M} (h : tS μ0 p T ν) {i v : Nat} (hv : v ≤ 1000000) : tS μ0 p (gup T i v) (jj_u ν 65 i (nI v)) := by
  refine ⟨h.1.u (Or.inl rfl), fun j hj => by rw [ju_ne (by decide)]; exact h.2.1 j hj, fun j hj => ?_⟩
  by_cases q : j = i
  · rw [q, ju_self, gup_s]; exact ⟨rfl, hv⟩
  · rw [ju_other q, gup_n q]; exact h.2.2 j hj
def sN : Nat → (Nat → Nat) → Nat
  | 0, _ => 0
  | n + 1, T => sN n T + T n
theorem sN_o {T : Nat → Nat} {j v : Nat} : ∀ n, n ≤ j → sN n (gup T j v) = sN n T := by
  intro n
  induction n with
  | zero => intro _; rfl
  | succ n ih => intro h; rw [sN, sN, ih (by omega), gup_n (by omega)]
theorem sN_w {T : Nat → Nat} {j v : Nat} : ∀ n, j < n → sN n (gup T j v) + T j = sN n T + v := by
  intro n
  induction n with
  | zero => intro h; omega
  | succ n ih =>
    intro h
    rw [sN, sN]
    by_cases q : j = n
    · rw [q, sN_o n (Nat.le_refl _), gup_s]; omega
    · have := ih (by omega)
      rw [gup_n (by omega)]
      omega
theorem sN_b {T : Nat → Nat} {B : Nat} : ∀ n, (∀ i, i < n → T i ≤ B) → sN n T ≤ n * B := by
  intro n
  induction n with
  | zero => intro _; rw [sN]; omega
  | succ n ih =>
    intro h
    have := ih (fun i hi => h i (by omega))
    have := h n (by omega)
    rw [sN, Nat.succ_mul]
    omega
theorem less_ok {ν : jj_M} {w t a v : Nat} (hw : w < 8) (ht : t < 37) (e : ν 65 (37 * w + t) = nI a) (ha : a ≤ 1000000) (hv : v < 2147483648) : mdf_lessens (nI w) (nI t) (nI v) ν = some (if a ≤ v then (0, ν) else (1, jj_u ν 65 (37 * w + t) (nI v))) := by
  have i1 : (37 : Int32) * nI w + nI t = nI (37 * w + t) := by rw [show (37 : Int32) = nI 37 from rfl, nz_mul, nz_add]
  have g : jj_i (nI (37 * w + t)) 296 := nz_in (by omega) (by omega)
  have k : (nI (37 * w + t)).toNatClampNeg = 37 * w + t := nz_clamp (by omega)
  have o : ¬ (1 : Int32) = 0 := by decide
  unfold mdf_lessens mdf_lessens_B24
  simp only [i1, eq_true g, k, e, o, ↓reduceIte]
  by_cases q : a ≤ v
  · rw [if_pos q, if_pos ((nz_le (by omega) hv).mpr q), if_pos (Or.inl trivial), ju_same e]
  · rw [if_neg q, if_neg (fun z => q ((nz_le (by omega) hv).mp z)), if_pos (Or.inr trivial)]
theorem may_m {μ0 μJ : jj_M} (h : jI μJ) (e0 : μ0 61 = μJ 61) {p w : Nat} (hp : p < 6) (hw : w < 8) (x : Int32) {ν : jj_M} (hν : thB μ0 ν) : ∃ m, mdf_mayDrink jz_N (nI p) (nI w) x ν = some ((if wDr (μ0 61) p x w = true then 1 else 0), m) ∧ rd6 ν m := by
  have e61 := hν.e61
  unfold mdf_mayDrink wDr
  by_cases q : (x >>> (nI w &&& 31)) &&& 1 = 0
  · obtain ⟨m, m1, m2⟩ := needs_6 (μ := ν) (F := μJ 15) (C := μJ 16) (by rw [e61, e0]; exact h.w.2.2.1) hp 0
    rw [e61] at m1
    rw [if_pos q, show (0 : Int32) + nI w = nI w from Int32.zero_add _, if_pos (nz_in (by omega) (by omega)), m1, Option.bind_some, nz_clamp (by omega), e61, decide_eq_true q, Bool.and_true]
    by_cases z : μ0 61 w < needv (μ0 61) p 0
    · rw [if_pos z, decide_eq_false (Int32.not_le.mpr z)]
      exact ⟨m, rfl, m2⟩
    · rw [if_neg z, decide_eq_true (Int32.not_lt.mp z)]
      exact ⟨m, rfl, m2⟩
  · rw [if_neg q, decide_eq_false q, Bool.and_false]
    exact ⟨ν, rfl, rd6.rf⟩
def mG (x v l : Nat) : Nat := if x = 1 then v + l else v
def mD (x v : Nat) : Nat := if x = 1 then v else v + 1
/-- what a table may be read as -/
def tQ (S : Nat → Int32) (p x : Nat) (bar : Int32) (Q : Nat → Nat → Prop) : Prop := (∀ i v, i < 296 → v < 1000000 → Q i v → wDr S p bar (i / 37) = true → Q (37 * (i / 37)) (mD x v)) ∧ ∀ i v b, i < 296 → v < 1000000 → Q i v → b < 8 → 0 < wRd S (i / 37) b → i % 37 + wC S p (wRd S (i / 37) b) ≤ wLim S p → Q (37 * b + (i % 37 + wC S p (wRd S (i / 37) b))) (mG x v (wRd S (i / 37) b))
def tC2 (S : Nat → Int32) (p x : Nat) (T : Nat → Nat) (i v b : Nat) : Prop := 0 < wRd S (i / 37) b → i % 37 + wC S p (wRd S (i / 37) b) ≤ wLim S p → T (37 * b + (i % 37 + wC S p (wRd S (i / 37) b))) ≤ mG x v (wRd S (i / 37) b)
theorem or01 (y : Nat) (hy : y ≤ 1) : nI y ||| 0 = nI y ∧ nI y ||| 1 = nI 1 := by
  rcases (by omega : y = 0 ∨ y = 1) with rfl | rfl <;> decide
theorem inner_ok {N : Nat} {μ0 μJ : jj_M} (h : jI μJ) (e0 : μ0 61 = μJ 61) {p x : Nat} (hp : jPer (μ0 61) p) (hx : x ≤ 1) {bar : Int32} {Q : Nat → Nat → Prop} (hQ : tQ (μ0 61) p x bar Q) (K1 : Int32 → jj_M → Option jj_M) (K2 : Int32 → Int32 → jj_M → Option jj_M) {i v : Nat} (hi : i < 296) (hv : v < 1000000) (hQi : Q i v) : ∀ (k b f y : Nat) (T : Nat → Nat) (ν : jj_M), b + k = 8 → k < f → y ≤ 1 → tS μ0 p T ν → (∀ j, j < 296 → T j < 1000000 → Q j (T j)) → ∃ y' T' ν', mdf_spreads_L189 N K1 K2 (nI p) bar (nI x) (limv (μ0 61) p) (nI i) (nI v) (nI (i / 37)) f (nI y) (nI b) ν = K2 (nI y') (nI (i + 1)) ν' ∧ tS μ0 p T' ν' ∧ (∀ j, j < 296 → T' j < 1000000 → Q j (T' j)) ∧ (∀ j, T' j ≤ T j) ∧ sN 296 T' ≤ sN 296 T ∧ y' ≤ 1 ∧ ((y' = 1 ∧ (y = 1 ∨ sN 296 T' < sN 296 T)) ∨ (y' = 0 ∧ y = 0 ∧ T' = T ∧ ∀ c, b ≤ c → c < 8 → tC2 (μ0 61) p x T i v c)) := by
  obtain ⟨eLim, bLim⟩ := wLim_ok hp
  have W : ∀ a b, a < 8 → b < 8 → μ0 61 (8 + (8 * a + b)) = nI (wRd (μ0 61) a b) ∧ wRd (μ0 61) a b ≤ 20 := fun a b ha hb => by rw [e0]; exact (wRd_ok h ha hb).2
  intro k
  induction k with
  | zero =>
    intro b f y T ν hb hf hy hS hT
    obtain ⟨f, rfl⟩ : ∃ m, f = m + 1 := ⟨f - 1, by omega⟩
    have e : b = 8 := by omega
    subst e
    refine ⟨y, T, ν, by rw [mdf_spreads_L189, if_pos (by decide), nz_s], hS, hT, fun _ => Nat.le_refl _, Nat.le_refl _, hy, ?_⟩
    rcases (by omega : y = 0 ∨ y = 1) with q | q
    · right; exact ⟨q, q, rfl, fun c h1 h2 => by omega⟩
    · left; exact ⟨q, Or.inl q⟩
  | succ k ih =>
    intro b f y T ν hb hf hy hS hT
    obtain ⟨f, rfl⟩ : ∃ m, f = m + 1 := ⟨f - 1, by omega⟩
    have hb8 : b < 8 := by omega
    have hu8 : i / 37 < 8 := by omega
    have c : ¬ (8 : Int32) ≤ nI b := by rw [show (8 : Int32) = nI 8 from rfl, nz_le (by omega) (by omega)]; omega
    have cv : ¬ (1000000 : Int32) ≤ nI v := by rw [show (1000000 : Int32) = nI 1000000 from rfl, nz_le (by omega) (by omega)]; omega
    have i1 : (8 : Int32) * nI (i / 37) + nI b = nI (8 * (i / 37) + b) := by rw [show (8 : Int32) = nI 8 from rfl, nz_mul, nz_add]
    have g1 : jj_i (nI (8 * (i / 37) + b)) 64 := nz_in (by omega) (by omega)
    have k1 : (nI (8 * (i / 37) + b)).toNatClampNeg = 8 * (i / 37) + b := nz_clamp (by omega)
    have r37 : nI i - nI i / 37 * 37 = nI (i % 37) := by rw [show (37 : Int32) = nI 37 from rfl, nz_rem (by omega) (by omega)]
    have q66 : ν 66 (8 * (i / 37) + b) = nI (wQ (μ0 61) p (8 * (i / 37) + b)) := hS.2.1 _ (by omega)
    have eQ : wQ (μ0 61) p (8 * (i / 37) + b) = if 0 < wRd (μ0 61) (i / 37) b then wC (μ0 61) p (wRd (μ0 61) (i / 37) b) else 1000000 := by
      unfold wQ
      rw [show (8 * (i / 37) + b) / 8 = i / 37 by omega, show (8 * (i / 37) + b) % 8 = b by omega]
    have r20 := (W _ _ hu8 hb8).2
    have c99 := (wC_ok (μ0 61) p (wRd (μ0 61) (i / 37) b)).2
    have bQ : wQ (μ0 61) p (8 * (i / 37) + b) ≤ 1000000 := by rw [eQ]; split <;> omega
    have skip : tC2 (μ0 61) p x T i v b → ∃ y' T' ν', mdf_spreads_L189 N K1 K2 (nI p) bar (nI x) (limv (μ0 61) p) (nI i) (nI v) (nI (i / 37)) f (nI y) (nI (b + 1)) ν = K2 (nI y') (nI (i + 1)) ν' ∧ tS μ0 p T' ν' ∧ (∀ j, j < 296 → T' j < 1000000 → Q j (T' j)) ∧ (∀ j, T' j ≤ T j) ∧ sN 296 T' ≤ sN 296 T ∧ y' ≤ 1 ∧ ((y' = 1 ∧ (y = 1 ∨ sN 296 T' < sN 296 T)) ∨ (y' = 0 ∧ y = 0 ∧ T' = T ∧ ∀ c, b ≤ c → c < 8 → tC2 (μ0 61) p x T i v c)) := by
      intro hn
      obtain ⟨y', T', ν', a1, a2, a3, a4, a5, a6, a7⟩ := ih (b + 1) f y T ν (by omega) (by omega) hy hS hT
      refine ⟨y', T', ν', a1, a2, a3, a4, a5, a6, a7.imp id (fun z => ⟨z.1, z.2.1, z.2.2.1, fun c h1 h2 => ?_⟩)⟩
      by_cases e : c = b
      · rw [e]; exact hn
      · exact z.2.2.2 c (by omega) h2
    rw [mdf_spreads_L189, if_neg c, if_neg cv, i1, if_pos g1, r37]
    simp only [k1, q66, eLim, nz_add, nz_s]
    rw [← eLim]
    by_cases q1 : i % 37 + wQ (μ0 61) p (8 * (i / 37) + b) ≤ wLim (μ0 61) p
    rotate_left
    · rw [if_pos (by rw [eLim, nz_lt (by omega) (by omega)]; omega)]
      exact skip (fun h1 h2 => by rw [eQ, if_pos h1] at q1; exact absurd h2 q1)
    rw [if_neg (by rw [eLim, nz_lt (by omega) (by omega)]; omega)]
    have r0 : 0 < wRd (μ0 61) (i / 37) b := by
      refine Decidable.byContradiction (fun z => ?_)
      rw [eQ, if_neg z] at q1
      omega
    rw [eQ, if_pos r0] at q1 ⊢
    obtain ⟨d, hd⟩ : ∃ d, d = i % 37 + wC (μ0 61) p (wRd (μ0 61) (i / 37) b) := ⟨_, rfl⟩
    rw [← hd] at q1 ⊢
    have d37 : d < 37 := by omega
    obtain ⟨t1, t2⟩ := hS.2.2 (37 * b + d) (by omega)
    have go : ∃ o, (mdf_lessens (nI b) (nI d) (nI (mG x v (wRd (μ0 61) (i / 37) b))) ν) = some o ∧ ∃ y' T' ν', mdf_spreads_L189 N K1 K2 (nI p) bar (nI x) (limv (μ0 61) p) (nI i) (nI v) (nI (i / 37)) f (nI y ||| o.1) (nI (b + 1)) o.2 = K2 (nI y') (nI (i + 1)) ν' ∧ tS μ0 p T' ν' ∧ (∀ j, j < 296 → T' j < 1000000 → Q j (T' j)) ∧ (∀ j, T' j ≤ T j) ∧ sN 296 T' ≤ sN 296 T ∧ y' ≤ 1 ∧ ((y' = 1 ∧ (y = 1 ∨ sN 296 T' < sN 296 T)) ∨ (y' = 0 ∧ y = 0 ∧ T' = T ∧ ∀ c, b ≤ c → c < 8 → tC2 (μ0 61) p x T i v c)) := by
      have mb : mG x v (wRd (μ0 61) (i / 37) b) < 2147483648 := by unfold mG; split <;> omega
      refine ⟨_, less_ok hb8 d37 t1 t2 mb, ?_⟩
      by_cases q2 : T (37 * b + d) ≤ mG x v (wRd (μ0 61) (i / 37) b)
      · rw [if_pos q2]
        simp only []
        rw [(or01 y hy).1]
        exact skip (fun _ _ => by rw [← hd]; exact q2)
      · rw [if_neg q2]
        simp only []
        rw [(or01 y hy).2]
        have w := sN_w (T := T) (j := 37 * b + d) (v := mG x v (wRd (μ0 61) (i / 37) b)) 296 (by omega)
        have le2 : ∀ j, gup T (37 * b + d) (mG x v (wRd (μ0 61) (i / 37) b)) j ≤ T j := by
          intro j
          unfold gup
          split
          · rename_i e; rw [e]; omega
          · exact Nat.le_refl _
        obtain ⟨y', T', ν', a1, a2, a3, a4, a5, a6, a7⟩ := ih (b + 1) f 1 _ _ (by omega) (by omega) (by omega) (hS.w (i := 37 * b + d) (v := mG x v (wRd (μ0 61) (i / 37) b)) (by omega)) (fun j hj hl => by
          by_cases e : j = 37 * b + d
          · rw [e, gup_s, hd]
            exact hQ.2 i v b hi hv hQi hb8 r0 (by rw [← hd]; exact q1)
          · rw [gup_n e] at hl ⊢
            exact hT j hj hl)
        refine ⟨y', T', ν', a1, a2, a3, fun j => Nat.le_trans (a4 j) (le2 j), by omega, a6, ?_⟩
        rcases a7 with ⟨z, _⟩ | ⟨_, z, _⟩
        · exact Or.inl ⟨z, Or.inr (by omega)⟩
        · omega
    obtain ⟨o, o1, o2⟩ := go
    have g8 : (8 : Int32) + 8 * nI (i / 37) + nI b = nI (8 + (8 * (i / 37) + b)) := by rw [show (8 : Int32) = nI 8 from rfl, nz_mul, nz_add, nz_add, Nat.add_assoc]
    have e61 : ν 61 (8 + (8 * (i / 37) + b)) = nI (wRd (μ0 61) (i / 37) b) := by rw [hS.1.e61]; exact (W _ _ hu8 hb8).1
    rcases (by omega : x = 0 ∨ x = 1) with x0 | x0
    · rw [if_pos (show nI x = 0 by rw [x0]; rfl)]
      have em : mG x v (wRd (μ0 61) (i / 37) b) = v := by unfold mG; rw [if_neg (by omega)]
      rw [em] at o1
      rw [o1, Option.bind_some]
      exact o2
    · rw [if_neg (show ¬ nI x = 0 by rw [x0]; decide)]
      have em : mG x v (wRd (μ0 61) (i / 37) b) = v + wRd (μ0 61) (i / 37) b := by unfold mG; rw [if_pos x0]
      rw [em] at o1
      have k8 : (nI (8 + (8 * (i / 37) + b))).toNatClampNeg = 8 + (8 * (i / 37) + b) := nz_clamp (by omega)
      have g351 : jj_i (nI (8 + (8 * (i / 37) + b))) 351 := nz_in (by omega) (by omega)
      have e8 : (8 : Int32) + nI (8 * (i / 37)) + nI b = nI (8 + (8 * (i / 37) + b)) := by rw [show (8 : Int32) = nI 8 from rfl, nz_add, nz_add, Nat.add_assoc]
      rw [g8, if_pos g351]
      simp only [k8, e61, nz_add]
      rw [o1, Option.bind_some]
      exact o2
