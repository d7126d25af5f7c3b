/-! feed -/
def fdb (l : Int64) (i : Nat) : Int32 := Int64.toInt32 ((l >>> (Int32.toInt64 (8 * nI i) &&& 63)) &&& 255)
theorem fdb_ok (l : Int64) {i : Nat} (hi : i < 8) : (Int64.toInt32 ((Int64.toUInt64 l >>> ((Int32.toInt64 (8 * nI i)).toUInt64 &&& Int64.toUInt64 63)).toInt64)) &&& 255 = fdb l i := by
  have key : ∀ s : Nat, s < 57 → ∀ x : BitVec 64, (BitVec.setWidth 32 (x >>> s)) &&& 255#32 = BitVec.setWidth 32 ((x.sshiftRight s) &&& 255#64) := by
    intro s hs x
    apply BitVec.eq_of_getLsbD_eq
    intro j hj
    simp only [BitVec.getLsbD_and, BitVec.getLsbD_setWidth, BitVec.getLsbD_ushiftRight, BitVec.getLsbD_sshiftRight]
    by_cases q : j < 8
    · have a1 : ¬ 64 ≤ j := by omega
      have a2 : s + j < 64 := by omega
      have e : (255#32).getLsbD j = (255#64).getLsbD j := by
        have : ∀ j, j < 8 → (255#32).getLsbD j = (255#64).getLsbD j := by decide
        exact this j q
      simp [hj, a1, a2, e]
    · have e1 : (255#32).getLsbD j = false := by
        have : ∀ j, j < 32 → ¬ j < 8 → (255#32).getLsbD j = false := by decide
        exact this j hj q
      have e2 : (255#64).getLsbD j = false := by
        have : ∀ j, j < 32 → ¬ j < 8 → (255#64).getLsbD j = false := by decide
        exact this j hj q
      simp [e1, e2]
  have sh : ∀ i, i < 8 → ((Int32.toInt64 (8 * nI i)).toUInt64 &&& Int64.toUInt64 63).toBitVec = BitVec.ofNat 64 (8 * i) ∧ (Int32.toInt64 (8 * nI i) &&& 63).toBitVec = BitVec.ofNat 64 (8 * i) := by decide +kernel
  obtain ⟨s1, s2⟩ := sh i hi
  sorry
