/-! ===== the flat memory: 73 cells at fixed places; of each only its ints change ===== -/
abbrev jj_M : Type := Nat → Nat → Int32
def jj_u (μ : jj_M) (k j : Nat) (v : Int32) : jj_M := fun k' => if k' = k then upd (μ k) j v else μ k'
/-- a whole cell anew -/
def jj_uc (μ : jj_M) (k : Nat) (f : Nat → Int32) : jj_M := fun k' => if k' = k then f else μ k'
/-- what a cell is: 0 .. 8 an object of that class (vwCl), 10 .. 12 the rows of objects, 100 + n a row of n ints -/
def jj_kl : List Nat := [7, 6, 108, 164, 164, 10, 11, 150, 120, 1, 1, 1, 1, 1, 1, 0, 150, 150, 0, 150, 150, 6, 108, 164, 164, 10, 11, 150, 120, 1, 1, 1, 1, 1, 1, 0, 150, 150, 0, 150, 150, 5, 121, 108, 268, 2, 150, 150, 4, 140, 12, 3, 140, 3, 140, 3, 140, 3, 140, 106, 8, 451, 451, 276, 106, 396, 164, 140, 104, 104, 260, 140, 164]
def jj_kd (k : Nat) : Nat := jj_kl.getD k 99
/-- numbers of a launch: classes and slots, the classes of arrays, the cells' addresses, the two static rows, what may change -/
abbrev jj_G : Type := Launch × va_G × (Nat → ClassId) × (Nat → Nat) × Nat × Nat × (Nat → Prop)
abbrev jj_l (g : jj_G) : Launch := g.1
abbrev jj_D (g : jj_G) : va_G := g.2.1
abbrev jj_ca (g : jj_G) : Nat → ClassId := g.2.2.1
abbrev jj_ad (g : jj_G) (k : Nat) : Nat := g.2.2.2.1 k
abbrev jj_tK (g : jj_G) : Nat := g.2.2.2.2.1
abbrev jj_tB (g : jj_G) : Nat := g.2.2.2.2.2.1
abbrev jj_A (g : jj_G) : Nat → Prop := g.2.2.2.2.2.2
def jj_ia (g : jj_G) (n : Nat) (m : Nat → Int32) : va_E := .inl (jj_ca g 0, n, .inl m)
def jj_ra (g : jj_G) (t n : Nat) (f : Nat → Nat) : va_E := .inl (jj_ca g t, n, .inr (.inr (.inr (.inr (fun i => if i < n then some (jj_ad g (f i)) else none)))))
def jj_e0 (g : jj_G) (k : Nat) (m : Nat → Int32) : List Value := [.ref (jj_ad g (k + 1)), .int (m 1), .int (m 2), .ref (jj_ad g (k + 2))]
def jj_e1 (_ : jj_G) (_ : Nat) (m : Nat → Int32) : List Value := [.int (m 0), .int (m 1), .int (m 2), .int (m 3), .int (m 4), .int (m 5)]
def jj_e2 (g : jj_G) (k : Nat) (m : Nat → Int32) : List Value := [.ref (jj_ad g (k + 1)), .int (m 1), .ref (jj_ad g (k + 2)), .int (m 3), .int (m 4), .int (m 5), .int (m 6), .int (m 7)]
def jj_e3 (g : jj_G) (k : Nat) (m : Nat → Int32) : List Value := [.ref (jj_ad g (k + 1)), .int (m 1), .int (m 2)]
def jj_e4 (g : jj_G) (k : Nat) (m : Nat → Int32) : List Value := [.ref (jj_ad g (k + 1)), .int (m 1), .int (m 2), .int (m 3), .int (m 4)]
def jj_e5 (g : jj_G) (k : Nat) (m : Nat → Int32) : List Value := [.int (m 0), .int (m 1), .int (m 2), .ref (jj_ad g 72), .ref (jj_ad g (k + 1)), .ref (jj_ad g (k + 2)), .ref (jj_ad g (k + 3))]
def jj_e6 (g : jj_G) (k : Nat) (m : Nat → Int32) : List Value := [.ref (jj_ad g (k + 1)), .ref (jj_ad g (k + 2)), .ref (jj_ad g (k + 3)), .ref (jj_ad g (k + 4)), .ref (jj_ad g (k + 5)), .ref (jj_ad g (k + 6)), .ref (jj_ad g (k + 7)), .int (m 7), .int (m 8), .int (m 9), .int (m 10), .int (m 11), .int (m 12), .int (m 13)]
def jj_e7 (g : jj_G) (k : Nat) (m : Nat → Int32) : List Value := [.ref (jj_ad g (k + 1)), .ref (jj_ad g (k + 21)), .ref (jj_ad g (k + 41)), .ref (jj_ad g (k + 45)), .ref (jj_ad g (k + 48)), .ref (jj_ad g (k + 50)), .ref (jj_ad g (k + 59)), .int (m 7)]
def jj_e8 (g : jj_G) (k : Nat) (m : Nat → Int32) : List Value := [.ref (jj_ad g (k + 1)), .ref (jj_ad g (k + 2)), .ref (jj_ad g (k + 3)), .ref (jj_ad g (k + 4)), .int (m 4), .int (m 5), .int (m 6), .int (m 7), .int (m 8), .int (m 9), .int (m 10), .int (m 11), .int (m 12), .int (m 13), .ref (jj_ad g (k + 5)), .ref (jj_ad g (k + 6)), .ref (jj_ad g (k + 7)), .int (m 17), .int (m 18), .int (m 19), .int (m 20), .ref (jj_ad g (k + 8)), .ref (jj_ad g (k + 9)), .ref (jj_ad g (k + 10)), .ref (jj_ad g (k + 11))]
def jj_e (g : jj_G) (k : Nat) (m : Nat → Int32) : va_E := match jj_kd k with
  | 0 => .inr (0, jj_e0 g k m)
  | 1 => .inr (1, jj_e1 g k m)
  | 2 => .inr (2, jj_e2 g k m)
  | 3 => .inr (3, jj_e3 g k m)
  | 4 => .inr (4, jj_e4 g k m)
  | 5 => .inr (5, jj_e5 g k m)
  | 6 => .inr (6, jj_e6 g k m)
  | 7 => .inr (7, jj_e7 g k m)
  | 8 => .inr (8, jj_e8 g k m)
  | 10 => jj_ra g 1 6 (fun i => k + 4 + i)
  | 11 => jj_ra g 2 2 (fun i => k + 9 + 3 * i)
  | 12 => jj_ra g 3 4 (fun i => k + 1 + 2 * i)
  | c => jj_ia g (c - 100) m
def jj_W (g : jj_G) (μ : jj_M) : va_W := (List.range 73).map (fun k => (jj_ad g k, jj_e g k (μ k)))
theorem jj_W_get {g : jj_G} {μ : jj_M} {k : Nat} (h : k < 73) : (jj_W g μ)[k]? = some (jj_ad g k, jj_e g k (μ k)) := by
  unfold jj_W
  rw [List.getElem?_map, List.getElem?_range h]
  rfl
theorem jj_W_set {g : jj_G} {μ : jj_M} {k : Nat} {f : Nat → Int32} {e : va_E} (h : jj_e g k f = e) : (jj_W g μ).set k (jj_ad g k, e) = jj_W g (jj_uc μ k f) := by
  apply List.ext_getElem?
  intro i
  rw [List.getElem?_set]
  have hlen : (jj_W g μ).length = 73 := by simp [jj_W]
  by_cases hk : k = i
  · subst hk
    rw [if_pos rfl]
    by_cases hn : k < 73
    · rw [if_pos (by rw [hlen]; exact hn), jj_W_get hn]
      simp [jj_uc, h]
    · rw [if_neg (by rw [hlen]; exact hn)]
      symm
      apply List.getElem?_eq_none
      simp [jj_W]
      omega
  · rw [if_neg hk]
    by_cases hn : i < 73
    · rw [jj_W_get hn, jj_W_get hn]
      simp [jj_uc, Ne.symm hk]
    · rw [List.getElem?_eq_none (by rw [hlen]; omega), List.getElem?_eq_none (by simp [jj_W]; omega)]
theorem jj_u_uc {μ : jj_M} {k j : Nat} {v : Int32} : jj_u μ k j v = jj_uc μ k (upd (μ k) j v) := rfl

/-! ===== the tables' words that last, those of nest mates, the static rows, the world of a method ===== -/
def jj_T : List Cond := lw_tbl.filter goodWord
theorem jj_in {w : Cond} (i : Nat) (h : lw_tbl[i]? = some w) (hg : goodWord w = true) : w ∈ jj_T := List.mem_filter.mpr ⟨List.mem_of_getElem? h, hg⟩
theorem jj_inR {C : String} {T : u_T} {N : Nat} (h : ∀ w ∈ u_ws C T N, w ∈ lw_tbl) (hg : (u_ws C T N).all goodWord = true) : ∀ w ∈ u_ws C T N, w ∈ jj_T := fun w hw => List.mem_filter.mpr ⟨h w hw, List.all_eq_true.mp hg w hw⟩
theorem jj_goodT {y : MethodName} {cc : ByteArray} {nL : Nat} {rt : Option FieldType} (h : Cond.code y cc nL rt ∈ jj_T) : GoodIn jj_T (Cond.code y cc nL rt :: jj_T) := fun w hw => by
  have hw1 : w ∈ jj_T := (List.mem_cons.mp hw).elim (fun e => by rw [e]; exact h) id
  exact ⟨hw1, good_of_word (List.mem_filter.mp hw1).2⟩
def jj_Nw (U : State) : Prop := va_Nw (.methodLinkNest RX6 122 yX7_isWell RX7) U ∧ va_Nw (.methodLinkNest RX1 31 yX7_within RX7) U ∧ va_Nw (.methodLinkNest RX5 119 yX7_isWell RX7) U ∧ va_Nw (.methodLinkNest RX4 36 yX7_within RX7) U ∧ va_Nw (.methodLinkNest RX6 158 yX7_within RX7) U ∧ va_Nw (.fieldLinkNest RX1 35 RX7 "KIND_ABOVE" "[I" RX7) U ∧ va_Nw (.fieldLinkNest RX4 43 RX7 "KIND_ABOVE" "[I" RX7) U
theorem jj_Nw.warm {s U : State} (hW : s.WarmedH U.vm) (h : jj_Nw s) : jj_Nw U := ⟨va_Nw.warmM hW h.1, va_Nw.warmM hW h.2.1, va_Nw.warmM hW h.2.2.1, va_Nw.warmM hW h.2.2.2.1, va_Nw.warmM hW h.2.2.2.2.1, va_Nw.warmF hW h.2.2.2.2.2.1, va_Nw.warmF hW h.2.2.2.2.2.2⟩
theorem jj_Nw.same {u U : State} (hv : u.vm = U.vm) (h : jj_Nw u) : jj_Nw U := ⟨va_Nw.same rfl hv h.1, va_Nw.same rfl hv h.2.1, va_Nw.same rfl hv h.2.2.1, va_Nw.same rfl hv h.2.2.2.1, va_Nw.same rfl hv h.2.2.2.2.1, va_Nw.same rfl hv h.2.2.2.2.2.1, va_Nw.same rfl hv h.2.2.2.2.2.2⟩
def jj_KA : Nat → Int32 := fun j => ([-1, 0, 0, 0, 1, 2, 3] : List Int32).getD j 0
def jj_BO : Nat → Int32 := fun j => ([10, 11, 12, 13, 20, 0, 0, 0, 0, 30, 0, 0, 0, 0, 40, 0, 0, 0, 0, 50, 0, 60, 0, 0, 0, 0, 70, 71] : List Int32).getD j 0
def jj_St (g : jj_G) (U : State) (H : Heap) : Prop := va_Z RX7 "KIND_ABOVE" "[I" (.ref (jj_tK g)) (jj_A g) U H ∧ va_T .int (jj_tK g) 7 (fun j => .int (jj_KA j)) (jj_A g) U H ∧ va_Z RX4 "BODY" "[I" (.ref (jj_tB g)) (jj_A g) U H ∧ va_T .int (jj_tB g) 28 (fun j => .int (jj_BO j)) (jj_A g) U H
theorem jj_St.to {g : jj_G} {s U : State} {H0 H : Heap} {locs : List Loc} (h : jj_St g s H0) (hvm : s.vm.Alike U.vm) (hS : va_S (jj_A g) H0 H locs) : jj_St g U H :=
  ⟨va_Z.kept (va_Z.moved hvm h.1) hS.2.1, va_T.kept (va_T.moved hvm h.2.1) hS.2.1, va_Z.kept (va_Z.moved hvm h.2.2.1) hS.2.1, va_T.kept (va_T.moved hvm h.2.2.2) hS.2.1⟩
def jj_ty (g : jj_G) : List (ClassId × FieldType) := [(jj_ca g 0, .int), (jj_ca g 1, .object RX1), (jj_ca g 2, .object RX0), (jj_ca g 3, .object RX3)]
def jj_Wd (g : jj_G) (μ : jj_M) (U : State) : Prop := va_P (jj_D g) vwCl (jj_W g μ) U.heap ∧ va_K (jj_D g) vwCl (jj_ty g) U ∧ va_D (jj_A g) (jj_W g μ) ∧ jj_St g U U.heap ∧ jj_Nw U
def jj_Q (g : jj_G) (r : Option Value) (μ : jj_M) : Array Value → State → Outcome → State → Prop := fun _ st oc t => oc = .returned r ∧ jj_Wd g μ t ∧ va_F (jj_A g) st t
def jj_R (d : Nat) : Room := { frames := d, cells := 0, slots := 0, locals := 64 * d }
/-- a method's contract: on the world μ, with these arguments, it answers r, and the world is μ' -/
def jj_N (g : jj_G) (y : MethodName) (cc : ByteArray) (nL : Nat) (rt : Option FieldType) (d : Nat) (as : List Value) (μ : jj_M) (r : Option Value) (μ' : jj_M) : Prop :=
  Met (jj_l g) y (Cond.code y cc nL rt :: jj_T) (jj_R d) (va_Pc as (jj_Wd g μ)) (jj_Q g r μ') 0 0 (jj_A g)
theorem jj_Wd.blind {g : jj_G} {μ : jj_M} {as : List Value} : FrameBlind (va_Pc as (jj_Wd g μ)) := by
  intro a U f mk h
  obtain ⟨h0, h1, h2, h3, h4, h5⟩ := h
  exact ⟨h0, h1, va_K.moved (u := U) (U := U.calling f mk a) (Vm.Alike.refl U.vm) h2, h3, ⟨va_Z.moved (u := U) (U := U.calling f mk a) (Vm.Alike.refl U.vm) h4.1, va_T.moved (u := U) (U := U.calling f mk a) (Vm.Alike.refl U.vm) h4.2.1, va_Z.moved (u := U) (U := U.calling f mk a) (Vm.Alike.refl U.vm) h4.2.2.1, va_T.moved (u := U) (U := U.calling f mk a) (Vm.Alike.refl U.vm) h4.2.2.2⟩, jj_Nw.same (u := U) (U := U.calling f mk a) rfl h5⟩
/-! ===== the judgement within a method ===== -/
abbrev jj_X : Type := Program × Env × Room × State × MethodId × Array Value × List Frame × Method × Code × (State → Prop) × Nat × Nat
abbrev jx_p (X : jj_X) : Program := X.1
abbrev jx_e (X : jj_X) : Env := X.2.1
abbrev jx_R (X : jj_X) : Room := X.2.2.1
abbrev jx_s (X : jj_X) : State := X.2.2.2.1
abbrev jx_m (X : jj_X) : MethodId := X.2.2.2.2.1
abbrev jx_a (X : jj_X) : Array Value := X.2.2.2.2.2.1
abbrev jx_b (X : jj_X) : List Frame := X.2.2.2.2.2.2.1
abbrev jx_M (X : jj_X) : Method := X.2.2.2.2.2.2.2.1
abbrev jx_c (X : jj_X) : Code := X.2.2.2.2.2.2.2.2.1
abbrev jx_Q (X : jj_X) : State → Prop := X.2.2.2.2.2.2.2.2.2.1
abbrev jx_k (X : jj_X) : Nat := X.2.2.2.2.2.2.2.2.2.2.1
abbrev jx_n (X : jj_X) : Nat := X.2.2.2.2.2.2.2.2.2.2.2
def jj_Cx (g : jj_G) (X : jj_X) (own : String) (cc : ByteArray) (nL d : Nat) : Prop :=
  (jx_p X).tables.exec = Jvm.exec ∧ (jx_c X).code = cc ∧ (jx_c X).maxLocals = nL ∧ (jx_s X).vm.findClass own = some (jx_m X).cls ∧ (∀ w ∈ jj_T, w.before (jx_a X) (jx_s X) = true) ∧ va_K (jj_D g) vwCl (jj_ty g) (jx_s X) ∧ jj_St g (jx_s X) (jx_s X).heap ∧ jj_Nw (jx_s X) ∧ d ≤ (jx_R X).frames ∧ 64 * d ≤ (jx_R X).locals ∧ jx_k X ≤ (jx_R X).cells ∧ jx_n X ≤ (jx_R X).slots
theorem jj_Cx.x {g : jj_G} {X : jj_X} {own : String} {cc : ByteArray} {nL d : Nat} (h : jj_Cx g X own cc nL d) : (jx_p X).tables.exec = Jvm.exec := h.1
theorem jj_Cx.b {g : jj_G} {X : jj_X} {own : String} {cc : ByteArray} {nL d : Nat} (h : jj_Cx g X own cc nL d) : (jx_c X).code = cc := h.2.1
theorem jj_Cx.ml {g : jj_G} {X : jj_X} {own : String} {cc : ByteArray} {nL d : Nat} (h : jj_Cx g X own cc nL d) : (jx_c X).maxLocals = nL := h.2.2.1
theorem jj_Cx.o {g : jj_G} {X : jj_X} {own : String} {cc : ByteArray} {nL d : Nat} (h : jj_Cx g X own cc nL d) : (jx_s X).vm.findClass own = some (jx_m X).cls := h.2.2.2.1
theorem jj_Cx.t {g : jj_G} {X : jj_X} {own : String} {cc : ByteArray} {nL d : Nat} (h : jj_Cx g X own cc nL d) : ∀ w ∈ jj_T, w.before (jx_a X) (jx_s X) = true := h.2.2.2.2.1
theorem jj_Cx.K {g : jj_G} {X : jj_X} {own : String} {cc : ByteArray} {nL d : Nat} (h : jj_Cx g X own cc nL d) : va_K (jj_D g) vwCl (jj_ty g) (jx_s X) := h.2.2.2.2.2.1
theorem jj_Cx.S {g : jj_G} {X : jj_X} {own : String} {cc : ByteArray} {nL d : Nat} (h : jj_Cx g X own cc nL d) : jj_St g (jx_s X) (jx_s X).heap := h.2.2.2.2.2.2.1
theorem jj_Cx.N {g : jj_G} {X : jj_X} {own : String} {cc : ByteArray} {nL d : Nat} (h : jj_Cx g X own cc nL d) : jj_Nw (jx_s X) := h.2.2.2.2.2.2.2.1
theorem jj_Cx.fr {g : jj_G} {X : jj_X} {own : String} {cc : ByteArray} {nL d : Nat} (h : jj_Cx g X own cc nL d) : d ≤ (jx_R X).frames := h.2.2.2.2.2.2.2.2.1
theorem jj_Cx.lo {g : jj_G} {X : jj_X} {own : String} {cc : ByteArray} {nL d : Nat} (h : jj_Cx g X own cc nL d) : 64 * d ≤ (jx_R X).locals := h.2.2.2.2.2.2.2.2.2.1
theorem jj_Cx.k {g : jj_G} {X : jj_X} {own : String} {cc : ByteArray} {nL d : Nat} (h : jj_Cx g X own cc nL d) : jx_k X ≤ (jx_R X).cells := h.2.2.2.2.2.2.2.2.2.2.1
theorem jj_Cx.n {g : jj_G} {X : jj_X} {own : String} {cc : ByteArray} {nL d : Nat} (h : jj_Cx g X own cc nL d) : jx_n X ≤ (jx_R X).slots := h.2.2.2.2.2.2.2.2.2.2.2
abbrev jj_w (g : jj_G) (X : jj_X) (H : Heap) (locs : List Loc) (f : JFrame) : Prop := W (jx_p X) (jj_l g) (jx_e X) (jx_R X) (jx_s X) (jx_m X) (jx_a X) (jx_b X) (jx_M X) (jx_c X) H locs (jx_k X) (jx_n X) (jx_Q X) f
def jj_V (g : jj_G) (X : jj_X) (own : String) (cc : ByteArray) (nL d pc : Nat) (lv : List (Nat × Value)) (st : List Value) (μ : jj_M) : Prop :=
  jj_Cx g X own cc nL d → ∀ (H : Heap) (locs : List Loc) (ls : Array Slot), va_P (jj_D g) vwCl (jj_W g μ) H → va_D (jj_A g) (jj_W g μ) → va_S (jj_A g) (jx_s X).heap H locs → lv_has ls nL lv → jj_w g X H locs (F0 (jx_m X) pc ls st)
/-- the end that a contract wants -/
def jj_F (g : jj_G) (rt : Option FieldType) (r : Option Value) (μ : jj_M) (X : jj_X) : Prop :=
  (jx_M X).sig.returnType = rt ∧ (jx_M X).locks = false ∧ jx_Q X = MQ (jx_b X) (jj_Q g r μ) (jx_a X) (jx_s X) 0 0 (jj_A g) ∧ jx_k X = 0 ∧ jx_n X = 0
theorem jj_N_of {g : jj_G} {y : MethodName} {cc : ByteArray} {nL : Nat} {rt : Option FieldType} {d : Nat} {as : List Value} {μ μ' : jj_M} {r : Option Value} (hy : plainName y.cls = true) (hsl : (lg_sl as).length ≤ nL)
    (h : ∀ X : jj_X, jj_F g rt r μ' X → jj_V g X y.cls cc nL d 0 (lv_args 0 as) [] μ) : jj_N g y cc nL rt d as μ r μ' := by
  refine Met.ofW (cc := cc) (maxL := nL) (ret := rt) hy rfl ?_
  intro p e s m args below meth c s₁ B hml hv
  obtain ⟨rfl, hP, hK, hD, hSt, hNw⟩ := hv
  have hts := atoms_spec (ws := Cond.code y cc nL rt :: jj_T) B.pre
  have hown : s.vm.findClass y.cls = some m.cls := findClass_of_methodNamed B.named
  have hl := lv_entry as (n := nL) hsl
  rw [lg_entry_eq]
  exact h (p, e, jj_R d, s, m, as.toArray, below, meth, c, MQ below (jj_Q g r μ') as.toArray s 0 0 (jj_A g), 0, 0) ⟨B.returns, B.notSynchronized, rfl, rfl, rfl⟩
    ⟨B.exec, B.bytes, hml, hown, fun w hw => hts w (List.mem_cons_of_mem _ hw), hK, hSt, hNw, Nat.le_refl _, Nat.le_refl _, Nat.le_refl _, Nat.le_refl _⟩ s.heap [] _ hP hD va_S.rf hl
theorem jj_kd_lt {k c : Nat} (h : jj_kd k = c) (hc : c ≠ 99) : k < 73 := by
  rcases Nat.lt_or_ge k 73 with q | q
  · exact q
  · exact absurd (show jj_kd k = 99 by unfold jj_kd; rw [List.getD_eq_getElem?_getD, List.getElem?_eq_none (by exact q)]; rfl) (by rw [h]; exact hc)
abbrev jj_i (i : Int32) (n : Nat) : Prop := ¬ (i < 0 ∨ n ≤ i.toNatClampNeg)
def jj_mv (y : MethodName) (cc : ByteArray) (nL : Nat) (rt : Option FieldType) (n : Nat) : Prop := Cond.code y cc nL rt ∈ jj_T ∧ Cond.initialized y.cls ∈ jj_T ∧ Cond.instanceMethod y ∈ jj_T ∧ Cond.selects y.cls y y ∈ jj_T ∧ (y.cls ≠ "java/lang/invoke/MethodHandle" ∧ y.cls ≠ "java/lang/invoke/VarHandle" ∧ (parseMethodDescriptor y.desc).map (fun d => d.parameters.length) = some n) ∧ nL ≤ 45
def jj_ms (y : MethodName) (cc : ByteArray) (nL : Nat) (rt : Option FieldType) (n : Nat) : Prop := Cond.code y cc nL rt ∈ jj_T ∧ Cond.initialized y.cls ∈ jj_T ∧ Cond.static y ∈ jj_T ∧ (y.cls ≠ "java/lang/invoke/MethodHandle" ∧ y.cls ≠ "java/lang/invoke/VarHandle" ∧ (parseMethodDescriptor y.desc).map (fun d => d.parameters.length) = some n) ∧ nL ≤ 45
