/-! the beginning -/
def cs_S : Nat → Int32 := cs_mu (fun _ => 9) (fun _ => 9) 61
theorem cs_S1 : ∀ j, j < 179 → (j < 140 ∨ j = 177 ∨ j = 178) → jb (cs_S j) 0 (bdh j) := by decide +kernel
theorem cs_S2 : ∀ a, a < 8 → ∀ b, b < 8 → cs_S (8 + (8 * a + b)) = 0 := by decide +kernel
theorem cs_S3 : cs_S 139 = 0 ∧ cs_S 179 = -1 ∧ cs_S 180 = -1 := by decide +kernel
theorem cs_S4 : ∀ j, j < 8 → cs_S j = 9 := by decide +kernel
abbrev cs_D (j : Nat) : Prop := 8 ≤ j ∧ dm j ∧ ¬ (140 ≤ j ∧ j < 176)
theorem cs_S5 : ∀ j, j < 351 → cs_D j → cs_mu (fun _ => 9) (fun _ => 9) (lc 1 j) (li j) = cs_S j := by decide +kernel
abbrev cs_L (k : Nat) : Prop := k = 1 ∨ k = 3 ∨ k = 4 ∨ k = 7 ∨ k = 8
theorem cs_S6 : ∀ j, j < 351 → cs_D j → cs_L (lc 1 j) := by decide +kernel
theorem cs_jS : jS cs_S := by
  refine ⟨fun j hj => cs_S1 j (by omega) hj, fun a b ha hb => by rw [cs_S2 a ha b hb, cs_S2 b hb a ha], fun a ha => cs_S2 a ha a ha, fun p hp => ?_⟩
  rw [cs_S3.1] at hp
  have z0 : (0 : Int32).toInt = 0 := by decide
  omega
theorem cs_I {af0 af1 : Nat → Int32} (eaf0 : ∀ j, j < 8 → af0 j = 9) (eaf1 : ∀ j, j < 8 → af1 j = 9) : jI (cs_mu af0 af1) := by
  have e61 : cs_mu af0 af1 61 = cs_S := rfl
  refine ⟨⟨by rw [e61]; exact cs_jS, fun j hj => ?_, ?_, ?_, fun p hp => ?_⟩, ⟨rfl, Or.inl ⟨rfl, rfl, rfl⟩⟩, fun j hj => rfl, ⟨rfl, ⟨0, by omega, rfl⟩, fun i hi => rfl⟩, fun k hk => ⟨?_, ?_, Or.inl rfl, ⟨0, by omega, rfl, fun _ => rfl⟩, fun j hj => ?_⟩⟩
  · rw [e61] at hj ⊢
    by_cases q : j < 8
    · have l1 : lc 1 j = 2 := by unfold lc; rw [if_pos q]
      have l2 : li j = j := by unfold li; rw [if_pos q]
      rw [l1, l2, cs_S4 j q]
      exact eaf0 j q
    · have d := hj.1
      unfold dm at d
      have np : ¬ (140 ≤ j ∧ j < 176) := fun e => by
        have := hj.2 e.1 e.2
        rw [cs_S3.1] at this
        have z0 : (0 : Int32).toInt = 0 := by decide
        omega
      have b := cs_S5 j (by omega) ⟨by omega, hj.1, np⟩
      have a : cs_L (lc 1 j) := cs_S6 j (by omega) ⟨by omega, hj.1, np⟩
      rw [← b]
      rcases a with a | a | a | a | a <;> rw [a] <;> rfl
  · rw [e61]
    exact ⟨rfl, Or.inl ⟨cs_S3.2.1, rfl⟩⟩
  · rw [e61]
    exact ⟨rfl, Or.inl ⟨cs_S3.2.2, rfl⟩⟩
  · rcases (by omega : p = 0 ∨ p = 1 ∨ p = 2 ∨ p = 3 ∨ p = 4 ∨ p = 5) with rfl | rfl | rfl | rfl | rfl | rfl <;> exact Or.inl rfl
  · rcases (by omega : k = 0 ∨ k = 1 ∨ k = 2 ∨ k = 3) with rfl | rfl | rfl | rfl <;> rfl
  · rcases (by omega : k = 0 ∨ k = 1 ∨ k = 2 ∨ k = 3) with rfl | rfl | rfl | rfl <;> rfl
  · rcases (by omega : k = 0 ∨ k = 1 ∨ k = 2 ∨ k = 3) with rfl | rfl | rfl | rfl <;> rfl
