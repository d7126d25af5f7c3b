/-! ===== net: the mathematics ===== -/
/-- wells joined, the newest first, and the length together -/
def prim (R : Nat → Nat → Nat) : List Nat → Nat → Prop
  | [], _ => False
  | [v], s => v = 0 ∧ s = 0
  | v :: u :: l, s => ∃ s' w, prim R (u :: l) s' ∧ s = s' + w ∧ v < 8 ∧ ¬ v ∈ u :: l ∧ (∃ x, x ∈ u :: l ∧ R x v = w) ∧ 0 < w ∧ ∀ x, x ∈ u :: l → ∀ y, y < 8 → ¬ y ∈ u :: l → 0 < R x y → w ≤ R x y
theorem prim_b {R : Nat → Nat → Nat} (hR : ∀ a b, a < 8 → b < 8 → R a b ≤ 20) : ∀ (l : List Nat) (s : Nat), prim R l s → (∀ x, x ∈ l → x < 8) ∧ l.Nodup ∧ 0 ∈ l ∧ s ≤ 20 * l.length := by
  intro l
  induction l with
  | nil => intro s h; exact absurd h id
  | cons v l ih =>
    intro s h
    cases l with
    | nil =>
      obtain ⟨rfl, rfl⟩ := h
      exact ⟨fun x hx => by rw [List.mem_singleton.mp hx]; omega, List.nodup_cons.mpr ⟨List.not_mem_nil, List.nodup_nil⟩, List.mem_singleton.mpr rfl, Nat.zero_le _⟩
    | cons u l =>
      obtain ⟨s', w, h1, h2, h3, h4, ⟨x, hx, ex⟩, h6, h7⟩ := h
      obtain ⟨a1, a2, a3, a4⟩ := ih s' h1
      refine ⟨fun y hy => (List.mem_cons.mp hy).elim (fun e => by rw [e]; exact h3) (a1 y), List.nodup_cons.mpr ⟨h4, a2⟩, List.mem_cons_of_mem _ a3, ?_⟩
      have := hR x v (a1 x hx) h3
      rw [List.length_cons]
      omega
/-- hanging together by roads not longer than θ -/
def cnT (R : Nat → Nat → Nat) (θ u v : Nat) : Prop := ∀ P : Nat → Prop, P u → (∀ a b, P a → b < 8 → 0 < R a b → R a b ≤ θ → P b) → P v
theorem cnT.rf {R : Nat → Nat → Nat} {θ u : Nat} : cnT R θ u u := fun _ h _ => h
theorem cnT.go {R : Nat → Nat → Nat} {θ u a b : Nat} (h : cnT R θ u a) (hb : b < 8) (h1 : 0 < R a b) (h2 : R a b ≤ θ) : cnT R θ u b := fun P p1 p2 => p2 a b (h P p1 p2) hb h1 h2
theorem cnT.tr {R : Nat → Nat → Nat} {θ u v w : Nat} (h1 : cnT R θ u v) (h2 : cnT R θ v w) : cnT R θ u w := h2 (fun x => cnT R θ u x) h1 (fun _ _ h hb a b => h.go hb a b)
theorem cnT.sy {R : Nat → Nat → Nat} (hs : ∀ a b, a < 8 → b < 8 → R a b = R b a) {θ u v : Nat} (hu : u < 8) (h : cnT R θ u v) : cnT R θ v u := by
  have := h (fun x => x < 8 ∧ cnT R θ x u) ⟨hu, cnT.rf⟩ (fun a b ha hb h1 h2 => ⟨hb, by
    have e := hs a b ha.1 hb
    exact ((cnT.rf (u := b)).go ha.1 (by rw [← e]; exact h1) (by rw [← e]; exact h2)).tr ha.2⟩)
  exact this.2
noncomputable def clF (r : Nat → Nat → Prop) : List Nat → Nat
  | [] => 0
  | v :: l => clF r l + @ite Nat (∃ x, x ∈ l ∧ r x v) (Classical.propDecidable _) 0 1
theorem clF_perm {r : Nat → Nat → Prop} {l l' : List Nat} (h : l.Perm l') : (∀ x, x ∈ l → r x x) → (∀ x y, x ∈ l → y ∈ l → r x y → r y x) → (∀ x y z, r x y → r y z → r x z) → clF r l = clF r l' := by
  induction h with
  | nil => intro _ _ _; rfl
  | cons v p ih =>
    intro h1 h2 h3
    rw [clF, clF, ih (fun x hx => h1 x (List.mem_cons_of_mem _ hx)) (fun x y hx hy => h2 x y (List.mem_cons_of_mem _ hx) (List.mem_cons_of_mem _ hy)) h3]
    congr 1
    rename_i l1 l2
    by_cases q : ∃ x, x ∈ l1 ∧ r x v
    · obtain ⟨x, hx, hr⟩ := q
      rw [if_pos ⟨x, hx, hr⟩, if_pos ⟨x, p.mem_iff.mp hx, hr⟩]
    · rw [if_neg q, if_neg (fun e => by obtain ⟨x, hx, hr⟩ := e; exact q ⟨x, p.mem_iff.mpr hx, hr⟩)]
  | swap x y l =>
    intro h1 h2 h3
    have hx : x ∈ y :: x :: l := by simp
    have hy : y ∈ y :: x :: l := by simp
    rw [clF, clF, clF, clF]
    by_cases a : ∃ z, z ∈ l ∧ r z x
    · by_cases b : ∃ z, z ∈ l ∧ r z y
      · obtain ⟨z1, hz1, hr1⟩ := a
        obtain ⟨z2, hz2, hr2⟩ := b
        rw [if_pos ⟨z1, hz1, hr1⟩, if_pos ⟨z2, List.mem_cons_of_mem _ hz2, hr2⟩, if_pos ⟨z2, hz2, hr2⟩, if_pos ⟨z1, List.mem_cons_of_mem _ hz1, hr1⟩]
      · have nxy : ¬ r x y := fun e => by obtain ⟨z1, hz1, hr1⟩ := a; exact b ⟨z1, hz1, h3 _ _ _ hr1 e⟩
        obtain ⟨z1, hz1, hr1⟩ := a
        rw [if_pos ⟨z1, hz1, hr1⟩, if_neg b, if_neg, if_pos ⟨z1, List.mem_cons_of_mem _ hz1, hr1⟩]
        rintro ⟨z, hz, hr⟩
        rcases List.mem_cons.mp hz with e | e
        · subst e; exact nxy hr
        · exact b ⟨z, e, hr⟩
    · by_cases b : ∃ z, z ∈ l ∧ r z y
      · have nyx : ¬ r y x := fun e => by obtain ⟨z1, hz1, hr1⟩ := b; exact a ⟨z1, hz1, h3 _ _ _ hr1 e⟩
        obtain ⟨z1, hz1, hr1⟩ := b
        rw [if_neg a, if_pos ⟨z1, List.mem_cons_of_mem _ hz1, hr1⟩, if_pos ⟨z1, hz1, hr1⟩, if_neg]
        rintro ⟨z, hz, hr⟩
        rcases List.mem_cons.mp hz with e | e
        · subst e; exact nyx hr
        · exact a ⟨z, e, hr⟩
      · rw [if_neg a, if_neg b]
        by_cases c : r x y
        · rw [if_pos ⟨x, List.mem_cons_self, c⟩, if_pos ⟨y, List.mem_cons_self, h2 _ _ hx hy c⟩]
        · rw [if_neg, if_neg]
          · rintro ⟨z, hz, hr⟩
            rcases List.mem_cons.mp hz with e | e
            · subst e; exact c (h2 _ _ hy hx hr)
            · exact a ⟨z, e, hr⟩
          · rintro ⟨z, hz, hr⟩
            rcases List.mem_cons.mp hz with e | e
            · subst e; exact c hr
            · exact b ⟨z, e, hr⟩
  | trans p1 p2 ih1 ih2 =>
    intro h1 h2 h3
    rw [ih1 h1 h2 h3]
    exact ih2 (fun x hx => h1 x (p1.mem_iff.mpr hx)) (fun x y hx hy => h2 x y (p1.mem_iff.mpr hx) (p1.mem_iff.mpr hy)) h3
def sT (f : Nat → Nat) : Nat → Nat
  | 0 => 0
  | n + 1 => sT f n + f n
theorem sT_add (f g : Nat → Nat) : ∀ n, sT (fun θ => f θ + g θ) n = sT f n + sT g n := by
  intro n
  induction n with
  | zero => rfl
  | succ n ih => rw [sT, sT, sT, ih]; omega
theorem sT_congr {f g : Nat → Nat} : ∀ n, (∀ θ, θ < n → f θ = g θ) → sT f n = sT g n := by
  intro n
  induction n with
  | zero => intro _; rfl
  | succ n ih => intro h; rw [sT, sT, ih (fun θ hθ => h θ (by omega)), h n (by omega)]
theorem sT_step (w : Nat) : ∀ n, sT (fun θ => if w ≤ θ then 0 else 1) n = min w n := by
  intro n
  induction n with
  | zero => rw [sT]; omega
  | succ n ih =>
    rw [sT, ih]
    by_cases q : w ≤ n
    · rw [if_pos q]; omega
    · rw [if_neg q]; omega
theorem prim_sum {R : Nat → Nat → Nat} (hR : ∀ a b, a < 8 → b < 8 → R a b ≤ 20) : ∀ (l : List Nat) (s : Nat), prim R l s → sT (fun θ => clF (cnT R θ) l) 20 = s + 20 := by
  intro l
  induction l with
  | nil => intro s h; exact absurd h id
  | cons v l ih =>
    intro s h
    cases l with
    | nil =>
      obtain ⟨rfl, rfl⟩ := h
      have e : ∀ θ, θ < 20 → clF (cnT R θ) [0] = 1 := fun θ _ => by
        rw [clF, clF, if_neg]
        rintro ⟨x, hx, _⟩
        cases hx
      rw [sT_congr (g := fun _ => 1) 20 e]
      rfl
    | cons u l =>
      have hb := prim_b hR (v :: u :: l) s h
      obtain ⟨s', w, h1, h2, h3, h4, ⟨x, hx, ex⟩, h6, h7⟩ := h
      have e : ∀ θ, θ < 20 → clF (cnT R θ) (v :: u :: l) = clF (cnT R θ) (u :: l) + (if w ≤ θ then 0 else 1) := by
        intro θ _
        rw [clF]
        congr 1
        by_cases q : w ≤ θ
        · rw [if_pos q, if_pos]
          exact ⟨x, hx, cnT.rf.go h3 (by omega) (by omega)⟩
        · rw [if_neg q, if_neg]
          rintro ⟨y, hy, hc⟩
          refine h4 (hc (fun z => z ∈ u :: l) hy (fun a b ha hb h1 h2 => ?_))
          refine Decidable.byContradiction (fun nb => ?_)
          have := h7 a ha b hb nb h1
          omega
      rw [sT_congr 20 e, sT_add, ih s' h1, sT_step]
      have := hR x v (hb.1 x (List.mem_cons_of_mem _ hx)) h3
      omega
theorem nodup_len : ∀ (n : Nat) (l : List Nat), l.Nodup → (∀ x, x ∈ l → x < n) → l.length ≤ n := by
  intro n
  induction n with
  | zero =>
    intro l _ h
    cases l with
    | nil => exact Nat.le_refl _
    | cons x l => have := h x List.mem_cons_self; omega
  | succ n ih =>
    intro l hl h
    by_cases q : n ∈ l
    · have := ih (l.erase n) (hl.erase n) (fun x hx => by
        obtain ⟨h1, h2⟩ := (List.Nodup.mem_erase_iff hl).mp hx
        have := h x h2
        omega)
      rw [List.length_erase_of_mem q] at this
      omega
    · have := ih l hl (fun x hx => by
        have := h x hx
        have : x ≠ n := fun e => q (by rw [← e]; exact hx)
        omega)
      omega
theorem nodup_sub : ∀ (l' l : List Nat), l'.Nodup → (∀ x, x ∈ l' → x ∈ l) → l'.length ≤ l.length := by
  intro l'
  induction l' with
  | nil => intro l _ _; exact Nat.zero_le _
  | cons x t ih =>
    intro l hn h
    obtain ⟨hx, ht⟩ := List.nodup_cons.mp hn
    have hxl := h x List.mem_cons_self
    have := ih (l.erase x) ht (fun y hy => (List.mem_erase_of_ne (fun e => hx (by rw [← e]; exact hy))).mpr (h y (List.mem_cons_of_mem _ hy)))
    rw [List.length_erase_of_mem hxl] at this
    have : 0 < l.length := List.length_pos_of_mem hxl
    rw [List.length_cons]
    omega
theorem all8 {l : List Nat} (hn : l.Nodup) (hb : ∀ x, x ∈ l → x < 8) (hl : l.length = 8) {y : Nat} (hy : y < 8) : y ∈ l := by
  refine Decidable.byContradiction (fun q => ?_)
  have := nodup_len 8 (y :: l) (List.nodup_cons.mpr ⟨q, hn⟩) (fun x hx => (List.mem_cons.mp hx).elim (fun e => by rw [e]; exact hy) (hb x))
  rw [List.length_cons] at this
  omega
/-- the length of a net is one -/
theorem prim_eq {R : Nat → Nat → Nat} (hR : ∀ a b, a < 8 → b < 8 → R a b ≤ 20) (hs : ∀ a b, a < 8 → b < 8 → R a b = R b a) {l l' : List Nat} {s s' : Nat} (h : prim R l s) (h' : prim R l' s') (e : l.length = 8) (e' : l'.length = 8) : s = s' := by
  obtain ⟨a1, a2, a3, a4⟩ := prim_b hR l s h
  obtain ⟨b1, b2, b3, b4⟩ := prim_b hR l' s' h'
  have p : l.Perm l' := (List.perm_ext_iff_of_nodup a2 b2).mpr (fun x => ⟨fun hx => all8 b2 b1 e' (a1 x hx), fun hx => all8 a2 a1 e (b1 x hx)⟩)
  have x1 := prim_sum hR l s h
  have x2 := prim_sum hR l' s' h'
  have : sT (fun θ => clF (cnT R θ) l) 20 = sT (fun θ => clF (cnT R θ) l') 20 := sT_congr 20 (fun θ _ => clF_perm p (fun x _ => cnT.rf) (fun x y hx _ hr => hr.sy hs (a1 x hx)) (fun x y z => cnT.tr))
  omega
/-- who can't go on doesn't hang together by any other net -/
theorem prim_stuck {R : Nat → Nat → Nat} (hR : ∀ a b, a < 8 → b < 8 → R a b ≤ 20) {l : List Nat} (h0 : 0 ∈ l) (hl : l.length < 8) (hst : ∀ x, x ∈ l → ∀ y, y < 8 → ¬ y ∈ l → ¬ 0 < R x y) : ∀ (l' : List Nat) (s' : Nat), prim R l' s' → (∀ x, x ∈ l' → x ∈ l) := by
  intro l'
  induction l' with
  | nil => intro s h; exact absurd h id
  | cons v t ih =>
    intro s h
    cases t with
    | nil =>
      obtain ⟨rfl, _⟩ := h
      intro x hx
      rw [List.mem_singleton.mp hx]
      exact h0
    | cons u t =>
      obtain ⟨s', w, h1, h2, h3, h4, ⟨x, hx, ex⟩, h6, h7⟩ := h
      have a := ih s' h1
      intro y hy
      rcases List.mem_cons.mp hy with e | e
      · rw [e]
        refine Decidable.byContradiction (fun q => ?_)
        exact hst x (a x hx) v h3 q (by omega)
      · exact a y e
theorem prim_no {R : Nat → Nat → Nat} (hR : ∀ a b, a < 8 → b < 8 → R a b ≤ 20) {l : List Nat} (h0 : 0 ∈ l) (hl : l.length < 8) (hst : ∀ x, x ∈ l → ∀ y, y < 8 → ¬ y ∈ l → ¬ 0 < R x y) {l' : List Nat} {s' : Nat} (h' : prim R l' s') (e' : l'.length = 8) : False := by
  have a := prim_stuck hR h0 hl hst l' s' h'
  have := nodup_sub l' l (prim_b hR l' s' h').2.1 a
  omega
