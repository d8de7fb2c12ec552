/-! The bytes of a word: both readers take the same. -/
theorem byF_usF {w i : Int} (hi : i = 0 ∨ i = 1 ∨ i = 2 ∨ i = 3) : byF w i = usF w i := by
  unfold byF usF bAnd bShr bUsh
  rw [Int32.ofInt_toInt, Int32.ofInt_toInt]
  congr 1
  apply Int32.toBitVec_inj.mp
  have key := byF_usF_bv (Int32.ofInt w).toBitVec
  rcases hi with rfl | rfl | rfl | rfl
  · exact key 0 (by decide)
  · exact key 8 (by decide)
  · exact key 16 (by decide)
  · exact key 24 (by decide)
