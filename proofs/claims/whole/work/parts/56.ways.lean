/-! ===== ways with drinks: the mathematics ===== -/
/-- one can be at w, with thirst t, behind h hours and k drinks -/
def Rch (R : Nat → Nat → Nat) (C : Nat → Nat) (lim : Nat) (dr : Nat → Bool) (s t0 w t h k : Nat) : Prop := ∀ P : Nat → Nat → Nat → Nat → Prop, P s t0 0 0 → (∀ w t h k, P w t h k → dr w = true → P w 0 h (k + 1)) → (∀ w t h k v, P w t h k → v < 8 → 0 < R w v → t + C (R w v) ≤ lim → P v (t + C (R w v)) (h + R w v) k) → P w t h k
section
variable {R : Nat → Nat → Nat} {C : Nat → Nat} {lim : Nat} {dr : Nat → Bool} {s t0 : Nat}
theorem Rch.st : Rch R C lim dr s t0 s t0 0 0 := fun _ h _ _ => h
theorem Rch.dk {w t h k : Nat} (x : Rch R C lim dr s t0 w t h k) (hd : dr w = true) : Rch R C lim dr s t0 w 0 h (k + 1) := fun P a b c => b w t h k (x P a b c) hd
theorem Rch.go {w t h k v : Nat} (x : Rch R C lim dr s t0 w t h k) (hv : v < 8) (hr : 0 < R w v) (hl : t + C (R w v) ≤ lim) : Rch R C lim dr s t0 v (t + C (R w v)) (h + R w v) k := fun P a b c => c w t h k v (x P a b c) hv hr hl
theorem Rch.w8 {w t h k : Nat} (x : Rch R C lim dr s t0 w t h k) (hs : s < 8) : w < 8 := x (fun w _ _ _ => w < 8) hs (fun _ _ _ _ h _ => h) (fun _ _ _ _ _ _ hv _ _ => hv)
def gOk (R : Nat → Nat → Nat) : Nat → List Nat → Prop
  | _, [] => True
  | u, v :: l => v < 8 ∧ 0 < R u v ∧ gOk R v l
def gEnd : Nat → List Nat → Nat
  | u, [] => u
  | _, v :: l => gEnd v l
def gHr (R : Nat → Nat → Nat) : Nat → List Nat → Nat
  | _, [] => 0
  | u, v :: l => R u v + gHr R v l
def gCo (R : Nat → Nat → Nat) (C : Nat → Nat) : Nat → List Nat → Nat
  | _, [] => 0
  | u, v :: l => C (R u v) + gCo R C v l
theorem gOk.b8 : ∀ (l : List Nat) (u : Nat), gOk R u l → ∀ x, x ∈ l → x < 8 := by
  intro l
  induction l with
  | nil => intro u _ x hx; cases hx
  | cons v l ih =>
    intro u h x hx
    rcases List.mem_cons.mp hx with e | e
    · rw [e]; exact h.1
    · exact ih v h.2.2 x e
theorem gEnd_b8 : ∀ (l : List Nat) (u : Nat), u < 8 → gOk R u l → gEnd u l < 8 := by
  intro l
  induction l with
  | nil => intro u hu _; exact hu
  | cons v l ih => intro u hu h; exact ih v h.1 h.2.2
theorem g_app : ∀ (l : List Nat) (u v : Nat), gOk R u l → v < 8 → 0 < R (gEnd u l) v → gOk R u (l ++ [v]) ∧ gEnd u (l ++ [v]) = v ∧ gHr R u (l ++ [v]) = gHr R u l + R (gEnd u l) v ∧ gCo R C u (l ++ [v]) = gCo R C u l + C (R (gEnd u l) v) := by
  intro l
  induction l with
  | nil =>
    intro u v _ hv hr
    exact ⟨⟨hv, hr, trivial⟩, rfl, by show R u v + 0 = 0 + R u v; omega, by show C (R u v) + 0 = 0 + C (R u v); omega⟩
  | cons x l ih =>
    intro u v h hv hr
    obtain ⟨a, b, c, d⟩ := ih x v h.2.2 hv hr
    refine ⟨⟨h.1, h.2.1, a⟩, b, ?_, ?_⟩
    · show R u x + gHr R x (l ++ [v]) = R u x + gHr R x l + R (gEnd x l) v
      rw [c]; omega
    · show C (R u x) + gCo R C x (l ++ [v]) = C (R u x) + gCo R C x l + C (R (gEnd x l) v)
      rw [d]; omega
theorem gHr_b (hR : ∀ a b, a < 8 → b < 8 → R a b ≤ 20) : ∀ (l : List Nat) (u : Nat), u < 8 → gOk R u l → gHr R u l ≤ 20 * l.length := by
  intro l
  induction l with
  | nil => intro u _ _; exact Nat.zero_le _
  | cons v l ih =>
    intro u hu h
    have := ih v h.1 h.2.2
    have := hR u v hu h.1
    rw [gHr, List.length_cons]
    omega
theorem g_suf : ∀ (l : List Nat) (v u : Nat), gOk R v l → u ∈ v :: l → (v :: l).Nodup → ∃ l2, gOk R u l2 ∧ gEnd u l2 = gEnd v l ∧ gHr R u l2 ≤ gHr R v l ∧ gCo R C u l2 ≤ gCo R C v l ∧ (u :: l2).Nodup := by
  intro l
  induction l with
  | nil =>
    intro v u h hu hn
    have e := List.mem_singleton.mp hu
    subst e
    exact ⟨[], trivial, rfl, Nat.le_refl _, Nat.le_refl _, hn⟩
  | cons x l ih =>
    intro v u h hu hn
    by_cases e : u = v
    · subst e
      exact ⟨x :: l, h, rfl, Nat.le_refl _, Nat.le_refl _, hn⟩
    · have hu' : u ∈ x :: l := (List.mem_cons.mp hu).resolve_left e
      obtain ⟨l2, a, b, c, d, f⟩ := ih x u h.2.2 hu' (List.nodup_cons.mp hn).2
      refine ⟨l2, a, b, ?_, ?_, f⟩
      · show gHr R u l2 ≤ R v x + gHr R x l
        omega
      · show gCo R C u l2 ≤ C (R v x) + gCo R C x l
        omega
theorem g_path : ∀ (l : List Nat) (u : Nat), gOk R u l → ∃ l2, gOk R u l2 ∧ gEnd u l2 = gEnd u l ∧ gHr R u l2 ≤ gHr R u l ∧ gCo R C u l2 ≤ gCo R C u l ∧ (u :: l2).Nodup ∧ (l = [] → l2 = []) := by
  intro l
  induction l with
  | nil => intro u h; exact ⟨[], trivial, rfl, Nat.le_refl _, Nat.le_refl _, by simp, fun _ => rfl⟩
  | cons v l ih =>
    intro u h
    obtain ⟨l1, a, b, c, d, e, _⟩ := ih v h.2.2
    by_cases q : u ∈ v :: l1
    · obtain ⟨l2, a2, b2, c2, d2, e2⟩ := g_suf (C := C) l1 v u a q e
      refine ⟨l2, a2, b2.trans b, ?_, ?_, e2, fun x => by cases x⟩
      · show gHr R u l2 ≤ R u v + gHr R v l
        omega
      · show gCo R C u l2 ≤ C (R u v) + gCo R C v l
        omega
    · refine ⟨v :: l1, ⟨h.1, h.2.1, a⟩, b, ?_, ?_, List.nodup_cons.mpr ⟨q, e⟩, fun x => by cases x⟩
      · show R u v + gHr R v l1 ≤ R u v + gHr R v l
        omega
      · show C (R u v) + gCo R C v l1 ≤ C (R u v) + gCo R C v l
        omega
def gLk (R : Nat → Nat → Nat) (C : Nat → Nat) (lim u t w t' h : Nat) : Prop := ∃ l, gOk R u l ∧ gEnd u l = w ∧ t' = t + gCo R C u l ∧ (l = [] ∨ t' ≤ lim) ∧ h = gHr R u l
theorem gLk.sh (hR : ∀ a b, a < 8 → b < 8 → R a b ≤ 20) {u t w t' h : Nat} (hu : u < 8) (x : gLk R C lim u t w t' h) : ∃ t2 h2, gLk R C lim u t w t2 h2 ∧ h2 ≤ 140 := by
  obtain ⟨l, a, b, c, d, e⟩ := x
  obtain ⟨l2, a2, b2, c2, d2, e2, f2⟩ := g_path (C := C) l u a
  refine ⟨t + gCo R C u l2, gHr R u l2, ⟨l2, a2, b2.trans b, rfl, ?_, rfl⟩, ?_⟩
  · rcases d with d | d
    · exact Or.inl (f2 d)
    · right; omega
  · have q := nodup_len 8 (u :: l2) e2 (fun y hy => (List.mem_cons.mp hy).elim (fun z => by rw [z]; exact hu) (gOk.b8 l2 u a2 y))
    rw [List.length_cons] at q
    have := gHr_b hR l2 u hu a2
    omega
theorem gLk.go {u t w t' h v : Nat} (x : gLk R C lim u t w t' h) (hv : v < 8) (hr : 0 < R w v) (hl : t' + C (R w v) ≤ lim) : gLk R C lim u t v (t' + C (R w v)) (h + R w v) := by
  obtain ⟨l, a, b, c, d, e⟩ := x
  subst b
  obtain ⟨a2, b2, c2, d2⟩ := g_app (C := C) l u v a hv hr
  exact ⟨l ++ [v], a2, b2, by rw [d2, c]; omega, Or.inr hl, by rw [c2, e]⟩
theorem gLk.w8 {u t w t' h : Nat} (x : gLk R C lim u t w t' h) (hu : u < 8) : w < 8 := by
  obtain ⟨l, a, b, _⟩ := x
  rw [← b]
  exact gEnd_b8 l u hu a
/-- from drink to drink -/
def gCh (R : Nat → Nat → Nat) (C : Nat → Nat) (lim : Nat) (dr : Nat → Bool) : Nat → Nat → List Nat → Nat → Nat → Nat → Prop
  | u, t, [], w, t', h => gLk R C lim u t w t' h
  | u, t, d :: D, w, t', h => ∃ td h1 h2, gLk R C lim u t d td h1 ∧ dr d = true ∧ gCh R C lim dr d 0 D w t' h2 ∧ h = h1 + h2
theorem gCh.go : ∀ (D : List Nat) (u t w t' h v : Nat), gCh R C lim dr u t D w t' h → v < 8 → 0 < R w v → t' + C (R w v) ≤ lim → gCh R C lim dr u t D v (t' + C (R w v)) (h + R w v) := by
  intro D
  induction D with
  | nil => intro u t w t' h v x hv hr hl; exact gLk.go x hv hr hl
  | cons d D ih =>
    intro u t w t' h v x hv hr hl
    obtain ⟨td, h1, h2, a, b, c, e⟩ := x
    exact ⟨td, h1, h2 + R w v, a, b, ih d 0 w t' h2 v c hv hr hl, by omega⟩
theorem gCh.dk : ∀ (D : List Nat) (u t w t' h : Nat), gCh R C lim dr u t D w t' h → dr w = true → gCh R C lim dr u t (D ++ [w]) w 0 h := by
  intro D
  induction D with
  | nil =>
    intro u t w t' h x hd
    exact ⟨t', h, 0, x, hd, ⟨[], trivial, rfl, rfl, Or.inl rfl, rfl⟩, rfl⟩
  | cons d D ih =>
    intro u t w t' h x hd
    obtain ⟨td, h1, h2, a, b, c, e⟩ := x
    exact ⟨td, h1, h2, a, b, ih d 0 w t' h2 c hd, e⟩
theorem Rch.ch {w t h k : Nat} (x : Rch R C lim dr s t0 w t h k) : ∃ D, gCh R C lim dr s t0 D w t h ∧ D.length = k := by
  refine x (fun w t h k => ∃ D, gCh R C lim dr s t0 D w t h ∧ D.length = k) ⟨[], ⟨[], trivial, rfl, rfl, Or.inl rfl, rfl⟩, rfl⟩ ?_ ?_
  · rintro w t h k ⟨D, a, b⟩ hd
    exact ⟨D ++ [w], gCh.dk D s t0 w t h a hd, by rw [List.length_append, List.length_singleton, b]⟩
  · rintro w t h k v ⟨D, a, b⟩ hv hr hl
    exact ⟨D, gCh.go D s t0 w t h v a hv hr hl, b⟩
/-- the same, from drink to drink without detours -/
def gCs (R : Nat → Nat → Nat) (C : Nat → Nat) (lim : Nat) (dr : Nat → Bool) : Nat → Nat → List Nat → Nat → Prop
  | u, t, [], w => ∃ t' h, gLk R C lim u t w t' h ∧ h ≤ 140
  | u, t, d :: D, w => (∃ td h1, gLk R C lim u t d td h1 ∧ h1 ≤ 140) ∧ dr d = true ∧ gCs R C lim dr d 0 D w
theorem gCs.mem : ∀ (D : List Nat) (u t w : Nat), u < 8 → gCs R C lim dr u t D w → ∀ x, x ∈ D → x < 8 := by
  intro D
  induction D with
  | nil => intro u t w _ _ x hx; cases hx
  | cons d D ih =>
    intro u t w hu h x hx
    obtain ⟨⟨td, h1, a, _⟩, _, c⟩ := h
    have d8 := a.w8 hu
    rcases List.mem_cons.mp hx with e | e
    · rw [e]; exact d8
    · exact ih d 0 w d8 c x e
theorem gCs.suf {w d : Nat} : ∀ (D : List Nat) (v tv : Nat), gCs R C lim dr v tv D w → D.Nodup → d ∈ D → ∃ D2, gCs R C lim dr d 0 D2 w ∧ (d :: D2).Nodup ∧ D2.length ≤ D.length := by
  intro D
  induction D with
  | nil => intro v tv _ _ h; cases h
  | cons e D ih =>
    intro v tv h hn hd
    by_cases q : d = e
    · subst q
      exact ⟨D, h.2.2, hn, by rw [List.length_cons]; omega⟩
    · obtain ⟨D2, a, b, c⟩ := ih e 0 h.2.2 (List.nodup_cons.mp hn).2 ((List.mem_cons.mp hd).resolve_left q)
      exact ⟨D2, a, b, by rw [List.length_cons]; omega⟩
theorem gCs.pre {w : Nat} : ∀ (D : List Nat) (u t : Nat), gCs R C lim dr u t D w → D.Nodup → ∃ D2, gCs R C lim dr u t D2 w ∧ D2.Nodup ∧ ¬ w ∈ D2 ∧ D2.length ≤ D.length ∧ ∀ x, x ∈ D2 → x ∈ D := by
  intro D
  induction D with
  | nil => intro u t h hn; exact ⟨[], h, hn, by simp, Nat.le_refl _, fun x hx => hx⟩
  | cons d D ih =>
    intro u t h hn
    by_cases q : w = d
    · subst q
      obtain ⟨⟨td, h1, a, b⟩, _, _⟩ := h
      exact ⟨[], ⟨td, h1, a, b⟩, by simp, by simp, Nat.zero_le _, fun x hx => by cases hx⟩
    · obtain ⟨hd, hD⟩ := List.nodup_cons.mp hn
      obtain ⟨D2, a, b, c, e, f⟩ := ih d 0 h.2.2 hD
      refine ⟨d :: D2, ⟨h.1, h.2.1, a⟩, List.nodup_cons.mpr ⟨fun z => hd (f d z), b⟩, fun z => ?_, by rw [List.length_cons, List.length_cons]; omega, fun x hx => ?_⟩
      · rcases List.mem_cons.mp z with y | y
        · exact q y
        · exact c y
      · rcases List.mem_cons.mp hx with y | y
        · rw [y]; exact List.mem_cons_self
        · exact List.mem_cons_of_mem _ (f x y)
theorem gCh.sh (hR : ∀ a b, a < 8 → b < 8 → R a b ≤ 20) : ∀ (D : List Nat) (u t w t' h : Nat), u < 8 → gCh R C lim dr u t D w t' h → ∃ D2, gCs R C lim dr u t D2 w ∧ D2.Nodup ∧ D2.length ≤ D.length := by
  intro D
  induction D with
  | nil =>
    intro u t w t' h hu x
    obtain ⟨t2, h2, a, b⟩ := gLk.sh hR hu x
    exact ⟨[], ⟨t2, h2, a, b⟩, by simp, Nat.le_refl _⟩
  | cons d D ih =>
    intro u t w t' h hu x
    obtain ⟨td, h1, h2, a, b, c, e⟩ := x
    have d8 := gLk.w8 a hu
    obtain ⟨t3, h3, a3, b3⟩ := gLk.sh hR hu a
    obtain ⟨D2, a2, b2, c2⟩ := ih d 0 w t' h2 d8 c
    by_cases q : d ∈ D2
    · obtain ⟨D4, a4, b4, c4⟩ := gCs.suf D2 d 0 a2 b2 q
      exact ⟨d :: D4, ⟨⟨t3, h3, a3, b3⟩, b, a4⟩, b4, by rw [List.length_cons, List.length_cons]; omega⟩
    · exact ⟨d :: D2, ⟨⟨t3, h3, a3, b3⟩, b, a2⟩, List.nodup_cons.mpr ⟨q, b2⟩, by rw [List.length_cons, List.length_cons]; omega⟩
theorem Rch.walk : ∀ (l : List Nat) (u t h k : Nat), Rch R C lim dr s t0 u t h k → gOk R u l → (l = [] ∨ t + gCo R C u l ≤ lim) → Rch R C lim dr s t0 (gEnd u l) (t + gCo R C u l) (h + gHr R u l) k := by
  intro l
  induction l with
  | nil => intro u t h k x _ _; exact x
  | cons v l ih =>
    intro u t h k x hl hc
    have hc : t + (C (R u v) + gCo R C v l) ≤ lim := hc.resolve_left (fun e => by cases e)
    have y := ih v (t + C (R u v)) (h + R u v) k (x.go hl.1 hl.2.1 (by omega)) hl.2.2 (Or.inr (by omega))
    rw [Nat.add_assoc, Nat.add_assoc] at y
    exact y
theorem gLk.rch {u t w t' h h0 k : Nat} (x : gLk R C lim u t w t' h) (y : Rch R C lim dr s t0 u t h0 k) : Rch R C lim dr s t0 w t' (h0 + h) k := by
  obtain ⟨l, a, b, c, d, e⟩ := x
  rw [← b, c, e]
  exact Rch.walk l u t h0 k y a (d.imp id (fun q => by rw [← c]; exact q))
theorem gCs.rch : ∀ (D : List Nat) (u t w h0 k : Nat), Rch R C lim dr s t0 u t h0 k → gCs R C lim dr u t D w → ∃ t' h', Rch R C lim dr s t0 w t' h' (k + D.length) ∧ h' ≤ h0 + 140 * (D.length + 1) := by
  intro D
  induction D with
  | nil =>
    intro u t w h0 k x y
    obtain ⟨t', h, a, b⟩ := y
    exact ⟨t', h0 + h, a.rch x, by rw [List.length_nil]; omega⟩
  | cons d D ih =>
    intro u t w h0 k x y
    obtain ⟨⟨td, h1, a, b⟩, c, e⟩ := y
    obtain ⟨t', h', f, g⟩ := ih d 0 w (h0 + h1) (k + 1) ((a.rch x).dk c) e
    refine ⟨t', h', ?_, ?_⟩
    · rw [List.length_cons, show k + (D.length + 1) = k + 1 + D.length by omega]
      exact f
    · rw [List.length_cons]
      omega
/-- no way need be longer -/
theorem Rch.short (hR : ∀ a b, a < 8 → b < 8 → R a b ≤ 20) (hs : s < 8) {w t h k : Nat} (x : Rch R C lim dr s t0 w t h k) : ∃ t' h' k', Rch R C lim dr s t0 w t' h' k' ∧ h' ≤ 1260 ∧ k' ≤ k ∧ k' ≤ 7 := by
  obtain ⟨D, a, b⟩ := x.ch
  obtain ⟨D1, a1, b1, c1⟩ := gCh.sh hR D s t0 w t h hs a
  obtain ⟨D2, a2, b2, c2, d2, e2⟩ := gCs.pre D1 s t0 a1 b1
  obtain ⟨t', h', f, g⟩ := gCs.rch D2 s t0 w 0 0 Rch.st a2
  have w8 := x.w8 hs
  have m := gCs.mem D2 s t0 w hs a2
  have q := nodup_len 8 (w :: D2) (List.nodup_cons.mpr ⟨c2, b2⟩) (fun y hy => (List.mem_cons.mp hy).elim (fun z => by rw [z]; exact w8) (m y))
  rw [List.length_cons] at q
  exact ⟨t', h', 0 + D2.length, f, by omega, by omega, by omega⟩
end
