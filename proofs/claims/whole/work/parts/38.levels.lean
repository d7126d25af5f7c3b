/-! the levels of the reader, one by one -/
theorem prk4 {x : Int32} (h : prk x = 4) : x = 42 ∨ x = 47 ∨ x = 37 := by
  by_cases a : x = 42
  · exact Or.inl a
  by_cases b : x = 47
  · exact Or.inr (Or.inl b)
  by_cases c : x = 37
  · exact Or.inr (Or.inr c)
  exfalso
  unfold prk at h
  simp only [a, b, c, ↓reduceIte] at h
  repeat' split at h
  all_goals omega
theorem prk3 {x : Int32} (h : prk x = 3) : x = 43 ∨ x = 45 := by
  by_cases a : x = 43
  · exact Or.inl a
  by_cases b : x = 45
  · exact Or.inr b
  exfalso
  unfold prk at h
  simp only [a, b, ↓reduceIte] at h
  repeat' split at h
  all_goals omega
theorem prk2 {x : Int32} (h : prk x = 2) : x = 60 ∨ x = 61 ∨ x = 62 := by
  by_cases a : x = 60
  · exact Or.inl a
  by_cases b : x = 61
  · exact Or.inr (Or.inl b)
  by_cases c : x = 62
  · exact Or.inr (Or.inr c)
  exfalso
  unfold prk at h
  simp only [a, b, c, ↓reduceIte] at h
  repeat' split at h
  all_goals omega
theorem prk1 {x : Int32} (h : prk x = 1) : x = 38 := by
  by_cases a : x = 38
  · exact a
  exfalso
  unfold prk at h
  simp only [a, ↓reduceIte] at h
  repeat' split at h
  all_goals omega
theorem prk0 {x : Int32} (h : prk x = 0) : x = 124 := by
  by_cases a : x = 124
  · exact a
  exfalso
  unfold prk at h
  simp only [a, ↓reduceIte] at h
  repeat' split at h
  all_goals omega
theorem ej42 (a b : Int32) : ejoin 42 a b = a * b := by unfold ejoin; rw [if_neg (by decide), if_pos rfl]
theorem ej47 (a b : Int32) : ejoin 47 a b = if b = 0 then 0 else a / b := by unfold ejoin; rw [if_neg (by decide), if_neg (by decide), if_neg (by decide), if_neg (by decide), if_pos rfl]
theorem ej37 (a b : Int32) : ejoin 37 a b = if b = 0 then 0 else a - a / b * b := by unfold ejoin; rw [if_neg (by decide), if_neg (by decide), if_neg (by decide), if_neg (by decide), if_neg (by decide), if_neg (by decide), if_neg (by decide), if_neg (by decide), if_neg (by decide)]
theorem ej43 (a b : Int32) : ejoin 43 a b = a + b := by unfold ejoin; rw [if_neg (by decide), if_neg (by decide), if_pos rfl]
theorem ej45 (a b : Int32) : ejoin 45 a b = a - b := by unfold ejoin; rw [if_neg (by decide), if_neg (by decide), if_neg (by decide), if_pos rfl]
theorem ej60 (a b : Int32) : ejoin 60 a b = if b ≤ a then 0 else 1 := by unfold ejoin; rw [if_neg (by decide), if_neg (by decide), if_neg (by decide), if_neg (by decide), if_neg (by decide), if_pos rfl]
theorem ej61 (a b : Int32) : ejoin 61 a b = if a = b then 1 else 0 := by unfold ejoin; rw [if_neg (by decide), if_neg (by decide), if_neg (by decide), if_neg (by decide), if_neg (by decide), if_neg (by decide), if_pos rfl]
theorem ej62 (a b : Int32) : ejoin 62 a b = if a ≤ b then 0 else 1 := by unfold ejoin; rw [if_neg (by decide), if_neg (by decide), if_neg (by decide), if_neg (by decide), if_neg (by decide), if_neg (by decide), if_neg (by decide), if_pos rfl]
theorem ej38 (a b : Int32) : ejoin 38 a b = if a = 0 then 0 else if b = 0 then 0 else 1 := by unfold ejoin; rw [if_pos rfl]
theorem ej124 (a b : Int32) : ejoin 124 a b = if a = 0 then (if b = 0 then 0 else 1) else 1 := by unfold ejoin; rw [if_neg (by decide), if_neg (by decide), if_neg (by decide), if_neg (by decide), if_neg (by decide), if_neg (by decide), if_neg (by decide), if_neg (by decide), if_pos rfl]
abbrev rdG (B L u : Nat) (T : Nat → Int32) (a b c : Int32) (op : Nat) (P : Nat → pR) (F : jj_M → Option (Int32 × jj_M)) : Prop := ∀ pos μ, pos ≤ L → rdC B L u T a b c μ → μ 60 7 = nI pos → μ 60 8 = nI op → μ 60 13 = 0 → rdO a b c op L pos (P pos) μ (F μ)
/-- a first piece, and the chain behind it -/
theorem chain_m {B L u : Nat} {T : Nat → Int32} {a b c : Int32} (hB : B + L ≤ 351) (hL : L ≤ 50) {r op : Nat} (hr : r < 5) {P : Nat → pR} {F : jj_M → Option (Int32 × jj_M)} {G : Nat → Int32 → jj_M → Option (Int32 × jj_M)} {N : Nat} (hN : 60 < N)
    (hx : ∀ n v μ h, mdf_here μ = some h → ¬ prk h = r → G (n + 1) v μ = some (v, μ))
    (hs : ∀ n v μ h w m, mdf_here μ = some h → prk h = r → F (jj_u μ 60 7 (μ 60 7 + 1)) = some (w, m) → G (n + 1) v μ = G n (ejoin h v w) m)
    (hF : rdG B L u T a b c op P F) : rdG B L u T a b c op (fun pos => pch (ph T L) P r 50 (P pos)) (fun μ => (F μ).bind fun q => G N q.1 q.2) := by
  intro pos μ hp hC h7 h8 h13
  obtain ⟨v, m, f1, f2, f3, f4, f5, f6, f7⟩ := hF pos μ hp hC h7 h8 h13
  show rdO a b c op L pos (pch (ph T L) P r 50 (P pos)) μ ((F μ).bind fun q => G N q.1 q.2)
  rw [f1, Option.bind_some]
  show rdO a b c op L pos (pch (ph T L) P r 50 (P pos)) μ (G N v m)
  cases e : (P pos).2.2 with
  | true =>
    have m13 := f7 e
    rw [pch_t 50 _ e]
    obtain ⟨k, rfl⟩ : ∃ m, N = m + 1 := ⟨N - 1, by omega⟩
    exact ⟨v, m, hx k v m _ (here_wrong m13) (prk_m1 hr), f2, f3, f4, f5, fun x => (by rw [e] at x; cases x), fun _ => m13⟩
  | false =>
    obtain ⟨m13, m8, mv⟩ := f6 e
    obtain ⟨v', m', r1, r2, r3, r4, r5, r6, r7⟩ := pch_m hB hr hx hs hF 50 N pos v (P pos) m (by omega) (by omega) (hC.t f2) f3 f5 f4 e m13 m8 mv
    exact ⟨v', m', r1, f2.tr r2, r3, r4, r5, r6, r7⟩
theorem rproduct_m {N : Nat} (hN : 60 < N) {B L u : Nat} {T : Nat → Int32} {a b c : Int32} (hB : B + L ≤ 351) (hL : L ≤ 50) {op : Nat} {P : Nat → pR} {F : jj_M → Option (Int32 × jj_M)} (hF : rdG B L u T a b c op P F) : rdG B L u T a b c op (fun pos => pch (ph T L) P 4 50 (P pos)) (mdf_product N F) := by
  refine chain_m (G := fun n v μ => (mdf_here μ).bind fun q => mdf_product_L10 N F n v q μ) hB hL (by omega) hN ?_ ?_ hF
  · intro n v μ h hh hn
    show (mdf_here μ).bind (fun q => mdf_product_L10 N F (n + 1) v q μ) = _
    rw [hh, Option.bind_some, mdf_product_L10, if_neg (fun e => hn (by rw [e]; decide)), if_neg (fun e => hn (by rw [e]; decide)), if_neg (fun e => hn (by rw [e]; decide))]
  · intro n v μ h w m hh hn hf
    show (mdf_here μ).bind (fun q => mdf_product_L10 N F (n + 1) v q μ) = (mdf_here m).bind (fun q => mdf_product_L10 N F n (ejoin h v w) q m)
    rw [hh, Option.bind_some, mdf_product_L10]
    rcases prk4 hn with e | e | e
    · subst e
      rw [if_pos rfl, ej42]
      unfold mdf_product_B28
      rw [hf, Option.bind_some, if_pos rfl]
    · subst e
      rw [if_neg (by decide), if_pos rfl, ej47]
      unfold mdf_product_B28
      rw [hf, Option.bind_some, if_neg (by decide)]
      by_cases z : w = 0
      · rw [if_pos z, if_pos z]
      · rw [if_neg z, if_neg z, if_pos rfl, if_pos z]
    · subst e
      rw [if_neg (by decide), if_neg (by decide), if_pos rfl, ej37]
      unfold mdf_product_B28
      rw [hf, Option.bind_some, if_neg (by decide)]
      by_cases z : w = 0
      · rw [if_pos z, if_pos z]
      · rw [if_neg z, if_neg z, if_neg (by decide), if_pos z]
theorem rsum_m {N : Nat} (hN : 60 < N) {B L u : Nat} {T : Nat → Int32} {a b c : Int32} (hB : B + L ≤ 351) (hL : L ≤ 50) {op : Nat} {P : Nat → pR} {F : jj_M → Option (Int32 × jj_M)} (hF : rdG B L u T a b c op P F) : rdG B L u T a b c op (fun pos => pch (ph T L) P 3 50 (P pos)) (mdf_sum N F) := by
  refine chain_m (G := fun n v μ => (mdf_here μ).bind fun q => mdf_sum_L10 N F n v q μ) hB hL (by omega) hN ?_ ?_ hF
  · intro n v μ h hh hn
    show (mdf_here μ).bind (fun q => mdf_sum_L10 N F (n + 1) v q μ) = _
    rw [hh, Option.bind_some, mdf_sum_L10, if_neg (fun e => hn (by rw [e]; decide)), if_neg (fun e => hn (by rw [e]; decide))]
  · intro n v μ h w m hh hn hf
    show (mdf_here μ).bind (fun q => mdf_sum_L10 N F (n + 1) v q μ) = (mdf_here m).bind (fun q => mdf_sum_L10 N F n (ejoin h v w) q m)
    rw [hh, Option.bind_some, mdf_sum_L10]
    rcases prk3 hn with e | e
    · subst e
      rw [if_pos rfl, ej43]
      unfold mdf_sum_B22
      rw [hf, Option.bind_some, if_pos rfl]
    · subst e
      rw [if_neg (by decide), if_pos rfl, ej45]
      unfold mdf_sum_B22
      rw [hf, Option.bind_some, if_neg (by decide)]
theorem both_m {N : Nat} (hN : 60 < N) {B L u : Nat} {T : Nat → Int32} {a b c : Int32} (hB : B + L ≤ 351) (hL : L ≤ 50) {op : Nat} {P : Nat → pR} {F : jj_M → Option (Int32 × jj_M)} (hF : rdG B L u T a b c op P F) : rdG B L u T a b c op (fun pos => pch (ph T L) P 1 50 (P pos)) (mdf_both N F) := by
  refine chain_m (G := fun n v μ => mdf_both_L5 N F n v μ) hB hL (by omega) hN ?_ ?_ hF
  · intro n v μ h hh hn
    rw [mdf_both_L5, takes_n hh (fun e => hn (by rw [e]; decide)), Option.bind_some, if_pos rfl]
  · intro n v μ h w m hh hn hf
    have e := prk1 hn
    subst e
    rw [mdf_both_L5, takes_y hh, Option.bind_some, if_neg (show ¬ (1 : Int32) = 0 by decide), hf, Option.bind_some, ej38]
    by_cases z : v = 0
    · rw [if_pos z, if_pos z]
    · rw [if_neg z, if_neg z]
      by_cases y : w = 0
      · rw [if_pos y, if_pos y]
      · rw [if_neg y, if_neg y]
theorem any_m {N : Nat} (hN : 60 < N) {B L u : Nat} {T : Nat → Int32} {a b c : Int32} (hB : B + L ≤ 351) (hL : L ≤ 50) {op : Nat} {P : Nat → pR} {F : jj_M → Option (Int32 × jj_M)} (hF : rdG B L u T a b c op P F) : rdG B L u T a b c op (fun pos => pch (ph T L) P 0 50 (P pos)) (mdf_any N F) := by
  refine chain_m (G := fun n v μ => mdf_any_L5 N F n v μ) hB hL (by omega) hN ?_ ?_ hF
  · intro n v μ h hh hn
    rw [mdf_any_L5, takes_n hh (fun e => hn (by rw [e]; decide)), Option.bind_some, if_pos rfl]
  · intro n v μ h w m hh hn hf
    have e := prk0 hn
    subst e
    rw [mdf_any_L5, takes_y hh, Option.bind_some, if_neg (show ¬ (1 : Int32) = 0 by decide), hf, Option.bind_some, ej124]
    by_cases z : v = 0
    · rw [if_pos z, if_pos z]
      by_cases y : w = 0
      · rw [if_pos y, if_pos y]
      · rw [if_neg y, if_neg y]
    · rw [if_neg z, if_neg z]
theorem test_m {N : Nat} {B L u : Nat} {T : Nat → Int32} {a b c : Int32} (hB : B + L ≤ 351) {op : Nat} {P : Nat → pR} {F : jj_M → Option (Int32 × jj_M)} (hF : rdG B L u T a b c op P F) : rdG B L u T a b c op (fun pos => pch (ph T L) P 2 1 (P pos)) (mdf_test N F) := by
  intro pos μ hp hC h7 h8 h13
  obtain ⟨v, m, f1, f2, f3, f4, f5, f6, f7⟩ := hF pos μ hp hC h7 h8 h13
  show rdO a b c op L pos (pch (ph T L) P 2 1 (P pos)) μ (mdf_test N F μ)
  unfold mdf_test
  rw [f1, Option.bind_some]
  show rdO a b c op L pos (pch (ph T L) P 2 1 (P pos)) μ ((mdf_here m).bind fun q2 => if q2 = 60 then mdf_test_B30 N F v q2 m else if q2 = 61 then mdf_test_B30 N F v q2 m else if q2 = 62 then mdf_test_B30 N F v q2 m else some (v, m))
  cases e : (P pos).2.2 with
  | true =>
    have m13 := f7 e
    rw [pch_t 1 _ e, here_wrong m13, Option.bind_some, if_neg (by decide), if_neg (by decide), if_neg (by decide)]
    exact ⟨v, m, rfl, f2, f3, f4, f5, fun x => (by rw [e] at x; cases x), fun _ => m13⟩
  | false =>
    obtain ⟨m13, m8, mv⟩ := f6 e
    have hh := here_ok (hC.t f2) hB f3 f5 m13
    rw [hh, Option.bind_some, pch]
    by_cases g : prk (ph T L (P pos).2.1) = 2
    rotate_left
    · rw [if_neg (fun x => g x.2), if_neg (fun x => g (by rw [x]; decide)), if_neg (fun x => g (by rw [x]; decide)), if_neg (fun x => g (by rw [x]; decide))]
      exact ⟨v, m, rfl, f2, f3, f4, f5, fun _ => ⟨m13, m8, mv⟩, fun x => by rw [e] at x; cases x⟩
    rw [if_pos ⟨e, g⟩, pch]
    have lt : (P pos).2.1 < L := ph_lt (fun x => prk_m1 (r := 2) (by omega) (by rw [← x]; exact g))
    have e7 : jj_u m 60 7 (m 60 7 + 1) 60 7 = nI ((P pos).2.1 + 1) := by rw [ju_self, f3, show (1 : Int32) = nI 1 from rfl, nz_add]
    have T1 : rdT μ (jj_u m 60 7 (m 60 7 + 1)) := f2.u (by omega)
    obtain ⟨w, m', k1, k2, k3, k4, k5, k6, k7⟩ := hF ((P pos).2.1 + 1) (jj_u m 60 7 (m 60 7 + 1)) lt (hC.t T1) e7 (by rw [ju_other (by omega)]; exact m8) (by rw [ju_other (by omega)]; exact m13)
    have T2 := T1.tr k2
    have key : (if ph T L (P pos).2.1 = 60 then mdf_test_B30 N F v (ph T L (P pos).2.1) m else if ph T L (P pos).2.1 = 61 then mdf_test_B30 N F v (ph T L (P pos).2.1) m else if ph T L (P pos).2.1 = 62 then mdf_test_B30 N F v (ph T L (P pos).2.1) m else some (v, m)) = some (ejoin (ph T L (P pos).2.1) v w, m') := by
      generalize ph T L (P pos).2.1 = x at g
      unfold mdf_test_B30
      rw [k1, Option.bind_some]
      rcases prk2 g with y | y | y
      · subst y
        rw [if_pos rfl, if_pos rfl, ej60]
        by_cases z : w ≤ v
        · rw [if_pos z, if_pos z]
        · rw [if_neg z, if_neg z]
      · subst y
        rw [if_neg (by decide), if_pos rfl, if_neg (by decide), if_pos rfl, ej61]
        by_cases z : v = w
        · rw [if_pos z, if_pos z]
        · rw [if_neg z, if_neg z]
      · subst y
        rw [if_neg (by decide), if_neg (by decide), if_pos rfl, if_neg (by decide), if_neg (by decide), ej62]
        by_cases z : v ≤ w
        · rw [if_pos z, if_pos z]
        · rw [if_neg z, if_neg z]
    rw [key]
    refine ⟨_, m', rfl, T2, k3, by show pos ≤ (P ((P pos).2.1 + 1)).2.1; omega, k5, fun x => ?_, k7⟩
    obtain ⟨n13, n8, nv⟩ := k6 x
    refine ⟨n13, n8, fun st => ?_⟩
    obtain ⟨n1, n2⟩ := prk_neg g (by omega)
    show List.foldl (estep a b c) st ((P pos).1 ++ (P ((P pos).2.1 + 1)).1 ++ [-(ph T L (P pos).2.1)]) = _
    rw [List.foldl_append, List.foldl_append, mv, nv, List.foldl_cons, List.foldl_nil]
    unfold estep
    rw [if_neg n1, if_neg n2]
    simp only [Int32.neg_neg]
