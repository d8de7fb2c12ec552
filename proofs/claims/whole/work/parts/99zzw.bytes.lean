/-! The bytes of a word: both readers take the same. -/
theorem byF_usF_bv (x : BitVec 32) (k : Nat) (hk : k ≤ 24) : (x.sshiftRight k) &&& 255#32 = (x >>> k) &&& 255#32 := by
  apply BitVec.eq_of_getLsbD_eq
  intro i hi
  rw [BitVec.getLsbD_and, BitVec.getLsbD_and]
  by_cases q : i < 8
  · rw [BitVec.getLsbD_sshiftRight, BitVec.getLsbD_ushiftRight]
    have h1 : k + i < 32 := by omega
    have h3 : decide (32 ≤ i) = false := decide_eq_false (by omega)
    simp [h1, hi, h3]
  · have z : (255#32).getLsbD i = false := by
      have : ∀ j, j < 32 → 8 ≤ j → (255#32).getLsbD j = false := by decide
      exact this i hi (by omega)
    rw [z, Bool.and_false, Bool.and_false]
