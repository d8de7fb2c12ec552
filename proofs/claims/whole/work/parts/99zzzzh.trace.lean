/-! Traces in the curve's ring; the Gram determinant of a ring's basis. -/
set_option maxHeartbeats 4000000 in
theorem dtB2 {O : Type} [I : Lean.Grind.CommRing O] (β P : Int → Int → O) (lo : ∀ j i : Int, 0 ≤ j → j < i → i < 2 → β j i = 0) : dt2 (fun i j => su 2 (fun r => su 2 (fun s => β i r * β j s * P r s))) = (β 0 0 * β 1 1) * ((β 0 0 * β 1 1) * dt2 P) := by
  have z01 : β 0 1 = 0 := lo 0 1 (by decide) (by decide) (by decide)
  have e00 : su 2 (fun r => su 2 (fun s => β 0 r * β 0 s * P r s)) = β 0 0 * (β 0 0 * P 0 0) := by
    show 0 + (0 + β 0 0 * β 0 0 * P 0 0 + β 0 0 * β 0 1 * P 0 1) + (0 + β 0 1 * β 0 0 * P 1 0 + β 0 1 * β 0 1 * P 1 1) = _
    rw [z01]
    clear z01
    grind
  have e01 : su 2 (fun r => su 2 (fun s => β 0 r * β 1 s * P r s)) = β 1 0 * (β 0 0 * P 0 0) + β 1 1 * (β 0 0 * P 0 1) := by
    show 0 + (0 + β 0 0 * β 1 0 * P 0 0 + β 0 0 * β 1 1 * P 0 1) + (0 + β 0 1 * β 1 0 * P 1 0 + β 0 1 * β 1 1 * P 1 1) = _
    rw [z01]
    clear z01
    grind
  have e10 : su 2 (fun r => su 2 (fun s => β 1 r * β 0 s * P r s)) = β 0 0 * (β 1 0 * P 0 0 + β 1 1 * P 1 0) := by
    show 0 + (0 + β 1 0 * β 0 0 * P 0 0 + β 1 0 * β 0 1 * P 0 1) + (0 + β 1 1 * β 0 0 * P 1 0 + β 1 1 * β 0 1 * P 1 1) = _
    rw [z01]
    clear z01
    grind
  have e11 : su 2 (fun r => su 2 (fun s => β 1 r * β 1 s * P r s)) = β 1 0 * (β 1 0 * P 0 0 + β 1 1 * P 1 0) + β 1 1 * (β 1 0 * P 0 1 + β 1 1 * P 1 1) := by
    show 0 + (0 + β 1 0 * β 1 0 * P 0 0 + β 1 0 * β 1 1 * P 0 1) + (0 + β 1 1 * β 1 0 * P 1 0 + β 1 1 * β 1 1 * P 1 1) = _
    clear z01
    grind
  show su 2 (fun r => su 2 (fun s => β 0 r * β 0 s * P r s)) * su 2 (fun r => su 2 (fun s => β 1 r * β 1 s * P r s)) - su 2 (fun r => su 2 (fun s => β 0 r * β 1 s * P r s)) * su 2 (fun r => su 2 (fun s => β 1 r * β 0 s * P r s)) = _
  rw [e00, e01, e10, e11]
  refine (dtR2 (β 0 0) (β 1 0) (β 1 1) (β 0 0 * P 0 0) (β 0 0 * P 0 1) (β 1 0 * P 0 0 + β 1 1 * P 1 0) (β 1 0 * P 0 1 + β 1 1 * P 1 1)).trans ?_
  refine congrArg (fun z => β 0 0 * β 1 1 * z) ?_
  exact dtL2 (β 0 0) (β 1 0) (β 1 1) (P 0 0) (P 0 1) (P 1 0) (P 1 1)
theorem dtM2 {O : Type} [I : Lean.Grind.CommRing O] (x : O) (P : Int → Int → O) : dt2 (fun i j => x * P i j) = x ^ 2 * dt2 P := dtS2 x (P 0 0) (P 0 1) (P 1 0) (P 1 1)
theorem dtC2 {O : Type} [I : Lean.Grind.CommRing O] {P R : Int → Int → O} (h : ∀ i j : Int, 0 ≤ i → i < 2 → 0 ≤ j → j < 2 → P i j = R i j) : dt2 P = dt2 R := by
  unfold dt2
  rw [h 0 0 (by decide) (by decide) (by decide) (by decide), h 0 1 (by decide) (by decide) (by decide) (by decide), h 1 0 (by decide) (by decide) (by decide) (by decide), h 1 1 (by decide) (by decide) (by decide) (by decide)]
set_option maxHeartbeats 4000000 in
theorem dtB3 {O : Type} [I : Lean.Grind.CommRing O] (β P : Int → Int → O) (lo : ∀ j i : Int, 0 ≤ j → j < i → i < 3 → β j i = 0) : dt3 (fun i j => su 3 (fun r => su 3 (fun s => β i r * β j s * P r s))) = (β 0 0 * β 1 1 * β 2 2) * ((β 0 0 * β 1 1 * β 2 2) * dt3 P) := by
  have z01 : β 0 1 = 0 := lo 0 1 (by decide) (by decide) (by decide)
  have z02 : β 0 2 = 0 := lo 0 2 (by decide) (by decide) (by decide)
  have z12 : β 1 2 = 0 := lo 1 2 (by decide) (by decide) (by decide)
  have e00 : su 3 (fun r => su 3 (fun s => β 0 r * β 0 s * P r s)) = β 0 0 * (β 0 0 * P 0 0) := by
    show 0 + (0 + β 0 0 * β 0 0 * P 0 0 + β 0 0 * β 0 1 * P 0 1 + β 0 0 * β 0 2 * P 0 2) + (0 + β 0 1 * β 0 0 * P 1 0 + β 0 1 * β 0 1 * P 1 1 + β 0 1 * β 0 2 * P 1 2) + (0 + β 0 2 * β 0 0 * P 2 0 + β 0 2 * β 0 1 * P 2 1 + β 0 2 * β 0 2 * P 2 2) = _
    rw [z01, z02]
    clear z01 z02 z12
    grind
  have e01 : su 3 (fun r => su 3 (fun s => β 0 r * β 1 s * P r s)) = β 1 0 * (β 0 0 * P 0 0) + β 1 1 * (β 0 0 * P 0 1) := by
    show 0 + (0 + β 0 0 * β 1 0 * P 0 0 + β 0 0 * β 1 1 * P 0 1 + β 0 0 * β 1 2 * P 0 2) + (0 + β 0 1 * β 1 0 * P 1 0 + β 0 1 * β 1 1 * P 1 1 + β 0 1 * β 1 2 * P 1 2) + (0 + β 0 2 * β 1 0 * P 2 0 + β 0 2 * β 1 1 * P 2 1 + β 0 2 * β 1 2 * P 2 2) = _
    rw [z01, z02, z12]
    clear z01 z02 z12
    grind
  have e02 : su 3 (fun r => su 3 (fun s => β 0 r * β 2 s * P r s)) = β 2 0 * (β 0 0 * P 0 0) + β 2 1 * (β 0 0 * P 0 1) + β 2 2 * (β 0 0 * P 0 2) := by
    show 0 + (0 + β 0 0 * β 2 0 * P 0 0 + β 0 0 * β 2 1 * P 0 1 + β 0 0 * β 2 2 * P 0 2) + (0 + β 0 1 * β 2 0 * P 1 0 + β 0 1 * β 2 1 * P 1 1 + β 0 1 * β 2 2 * P 1 2) + (0 + β 0 2 * β 2 0 * P 2 0 + β 0 2 * β 2 1 * P 2 1 + β 0 2 * β 2 2 * P 2 2) = _
    rw [z01, z02]
    clear z01 z02 z12
    grind
  have e10 : su 3 (fun r => su 3 (fun s => β 1 r * β 0 s * P r s)) = β 0 0 * (β 1 0 * P 0 0 + β 1 1 * P 1 0) := by
    show 0 + (0 + β 1 0 * β 0 0 * P 0 0 + β 1 0 * β 0 1 * P 0 1 + β 1 0 * β 0 2 * P 0 2) + (0 + β 1 1 * β 0 0 * P 1 0 + β 1 1 * β 0 1 * P 1 1 + β 1 1 * β 0 2 * P 1 2) + (0 + β 1 2 * β 0 0 * P 2 0 + β 1 2 * β 0 1 * P 2 1 + β 1 2 * β 0 2 * P 2 2) = _
    rw [z12, z01, z02]
    clear z01 z02 z12
    grind
  have e11 : su 3 (fun r => su 3 (fun s => β 1 r * β 1 s * P r s)) = β 1 0 * (β 1 0 * P 0 0 + β 1 1 * P 1 0) + β 1 1 * (β 1 0 * P 0 1 + β 1 1 * P 1 1) := by
    show 0 + (0 + β 1 0 * β 1 0 * P 0 0 + β 1 0 * β 1 1 * P 0 1 + β 1 0 * β 1 2 * P 0 2) + (0 + β 1 1 * β 1 0 * P 1 0 + β 1 1 * β 1 1 * P 1 1 + β 1 1 * β 1 2 * P 1 2) + (0 + β 1 2 * β 1 0 * P 2 0 + β 1 2 * β 1 1 * P 2 1 + β 1 2 * β 1 2 * P 2 2) = _
    rw [z12]
    clear z01 z02 z12
    grind
  have e12 : su 3 (fun r => su 3 (fun s => β 1 r * β 2 s * P r s)) = β 2 0 * (β 1 0 * P 0 0 + β 1 1 * P 1 0) + β 2 1 * (β 1 0 * P 0 1 + β 1 1 * P 1 1) + β 2 2 * (β 1 0 * P 0 2 + β 1 1 * P 1 2) := by
    show 0 + (0 + β 1 0 * β 2 0 * P 0 0 + β 1 0 * β 2 1 * P 0 1 + β 1 0 * β 2 2 * P 0 2) + (0 + β 1 1 * β 2 0 * P 1 0 + β 1 1 * β 2 1 * P 1 1 + β 1 1 * β 2 2 * P 1 2) + (0 + β 1 2 * β 2 0 * P 2 0 + β 1 2 * β 2 1 * P 2 1 + β 1 2 * β 2 2 * P 2 2) = _
    rw [z12]
    clear z01 z02 z12
    grind
  have e20 : su 3 (fun r => su 3 (fun s => β 2 r * β 0 s * P r s)) = β 0 0 * (β 2 0 * P 0 0 + β 2 1 * P 1 0 + β 2 2 * P 2 0) := by
    show 0 + (0 + β 2 0 * β 0 0 * P 0 0 + β 2 0 * β 0 1 * P 0 1 + β 2 0 * β 0 2 * P 0 2) + (0 + β 2 1 * β 0 0 * P 1 0 + β 2 1 * β 0 1 * P 1 1 + β 2 1 * β 0 2 * P 1 2) + (0 + β 2 2 * β 0 0 * P 2 0 + β 2 2 * β 0 1 * P 2 1 + β 2 2 * β 0 2 * P 2 2) = _
    rw [z01, z02]
    clear z01 z02 z12
    grind
  have e21 : su 3 (fun r => su 3 (fun s => β 2 r * β 1 s * P r s)) = β 1 0 * (β 2 0 * P 0 0 + β 2 1 * P 1 0 + β 2 2 * P 2 0) + β 1 1 * (β 2 0 * P 0 1 + β 2 1 * P 1 1 + β 2 2 * P 2 1) := by
    show 0 + (0 + β 2 0 * β 1 0 * P 0 0 + β 2 0 * β 1 1 * P 0 1 + β 2 0 * β 1 2 * P 0 2) + (0 + β 2 1 * β 1 0 * P 1 0 + β 2 1 * β 1 1 * P 1 1 + β 2 1 * β 1 2 * P 1 2) + (0 + β 2 2 * β 1 0 * P 2 0 + β 2 2 * β 1 1 * P 2 1 + β 2 2 * β 1 2 * P 2 2) = _
    rw [z12]
    clear z01 z02 z12
    grind
  have e22 : su 3 (fun r => su 3 (fun s => β 2 r * β 2 s * P r s)) = β 2 0 * (β 2 0 * P 0 0 + β 2 1 * P 1 0 + β 2 2 * P 2 0) + β 2 1 * (β 2 0 * P 0 1 + β 2 1 * P 1 1 + β 2 2 * P 2 1) + β 2 2 * (β 2 0 * P 0 2 + β 2 1 * P 1 2 + β 2 2 * P 2 2) := by
    show 0 + (0 + β 2 0 * β 2 0 * P 0 0 + β 2 0 * β 2 1 * P 0 1 + β 2 0 * β 2 2 * P 0 2) + (0 + β 2 1 * β 2 0 * P 1 0 + β 2 1 * β 2 1 * P 1 1 + β 2 1 * β 2 2 * P 1 2) + (0 + β 2 2 * β 2 0 * P 2 0 + β 2 2 * β 2 1 * P 2 1 + β 2 2 * β 2 2 * P 2 2) = _
    clear z01 z02 z12
    grind
  show su 3 (fun r => su 3 (fun s => β 0 r * β 0 s * P r s)) * su 3 (fun r => su 3 (fun s => β 1 r * β 1 s * P r s)) * su 3 (fun r => su 3 (fun s => β 2 r * β 2 s * P r s)) - su 3 (fun r => su 3 (fun s => β 0 r * β 0 s * P r s)) * su 3 (fun r => su 3 (fun s => β 1 r * β 2 s * P r s)) * su 3 (fun r => su 3 (fun s => β 2 r * β 1 s * P r s)) - su 3 (fun r => su 3 (fun s => β 0 r * β 1 s * P r s)) * su 3 (fun r => su 3 (fun s => β 1 r * β 0 s * P r s)) * su 3 (fun r => su 3 (fun s => β 2 r * β 2 s * P r s)) + su 3 (fun r => su 3 (fun s => β 0 r * β 1 s * P r s)) * su 3 (fun r => su 3 (fun s => β 1 r * β 2 s * P r s)) * su 3 (fun r => su 3 (fun s => β 2 r * β 0 s * P r s)) + su 3 (fun r => su 3 (fun s => β 0 r * β 2 s * P r s)) * su 3 (fun r => su 3 (fun s => β 1 r * β 0 s * P r s)) * su 3 (fun r => su 3 (fun s => β 2 r * β 1 s * P r s)) - su 3 (fun r => su 3 (fun s => β 0 r * β 2 s * P r s)) * su 3 (fun r => su 3 (fun s => β 1 r * β 1 s * P r s)) * su 3 (fun r => su 3 (fun s => β 2 r * β 0 s * P r s)) = _
  rw [e00, e01, e02, e10, e11, e12, e20, e21, e22]
  refine (dtR3 (β 0 0) (β 1 0) (β 1 1) (β 2 0) (β 2 1) (β 2 2) (β 0 0 * P 0 0) (β 0 0 * P 0 1) (β 0 0 * P 0 2) (β 1 0 * P 0 0 + β 1 1 * P 1 0) (β 1 0 * P 0 1 + β 1 1 * P 1 1) (β 1 0 * P 0 2 + β 1 1 * P 1 2) (β 2 0 * P 0 0 + β 2 1 * P 1 0 + β 2 2 * P 2 0) (β 2 0 * P 0 1 + β 2 1 * P 1 1 + β 2 2 * P 2 1) (β 2 0 * P 0 2 + β 2 1 * P 1 2 + β 2 2 * P 2 2)).trans ?_
  refine congrArg (fun z => β 0 0 * β 1 1 * β 2 2 * z) ?_
  exact dtL3 (β 0 0) (β 1 0) (β 1 1) (β 2 0) (β 2 1) (β 2 2) (P 0 0) (P 0 1) (P 0 2) (P 1 0) (P 1 1) (P 1 2) (P 2 0) (P 2 1) (P 2 2)
theorem dtM3 {O : Type} [I : Lean.Grind.CommRing O] (x : O) (P : Int → Int → O) : dt3 (fun i j => x * P i j) = x ^ 3 * dt3 P := dtS3 x (P 0 0) (P 0 1) (P 0 2) (P 1 0) (P 1 1) (P 1 2) (P 2 0) (P 2 1) (P 2 2)
theorem dtC3 {O : Type} [I : Lean.Grind.CommRing O] {P R : Int → Int → O} (h : ∀ i j : Int, 0 ≤ i → i < 3 → 0 ≤ j → j < 3 → P i j = R i j) : dt3 P = dt3 R := by
  unfold dt3
  rw [h 0 0 (by decide) (by decide) (by decide) (by decide), h 0 1 (by decide) (by decide) (by decide) (by decide), h 0 2 (by decide) (by decide) (by decide) (by decide), h 1 0 (by decide) (by decide) (by decide) (by decide), h 1 1 (by decide) (by decide) (by decide) (by decide), h 1 2 (by decide) (by decide) (by decide) (by decide), h 2 0 (by decide) (by decide) (by decide) (by decide), h 2 1 (by decide) (by decide) (by decide) (by decide), h 2 2 (by decide) (by decide) (by decide) (by decide)]
set_option maxHeartbeats 4000000 in
theorem dtB4 {O : Type} [I : Lean.Grind.CommRing O] (β P : Int → Int → O) (lo : ∀ j i : Int, 0 ≤ j → j < i → i < 4 → β j i = 0) : dt4 (fun i j => su 4 (fun r => su 4 (fun s => β i r * β j s * P r s))) = (β 0 0 * β 1 1 * β 2 2 * β 3 3) * ((β 0 0 * β 1 1 * β 2 2 * β 3 3) * dt4 P) := by
  have z01 : β 0 1 = 0 := lo 0 1 (by decide) (by decide) (by decide)
  have z02 : β 0 2 = 0 := lo 0 2 (by decide) (by decide) (by decide)
  have z03 : β 0 3 = 0 := lo 0 3 (by decide) (by decide) (by decide)
  have z12 : β 1 2 = 0 := lo 1 2 (by decide) (by decide) (by decide)
  have z13 : β 1 3 = 0 := lo 1 3 (by decide) (by decide) (by decide)
  have z23 : β 2 3 = 0 := lo 2 3 (by decide) (by decide) (by decide)
  have e00 : su 4 (fun r => su 4 (fun s => β 0 r * β 0 s * P r s)) = β 0 0 * (β 0 0 * P 0 0) := by
    show 0 + (0 + β 0 0 * β 0 0 * P 0 0 + β 0 0 * β 0 1 * P 0 1 + β 0 0 * β 0 2 * P 0 2 + β 0 0 * β 0 3 * P 0 3) + (0 + β 0 1 * β 0 0 * P 1 0 + β 0 1 * β 0 1 * P 1 1 + β 0 1 * β 0 2 * P 1 2 + β 0 1 * β 0 3 * P 1 3) + (0 + β 0 2 * β 0 0 * P 2 0 + β 0 2 * β 0 1 * P 2 1 + β 0 2 * β 0 2 * P 2 2 + β 0 2 * β 0 3 * P 2 3) + (0 + β 0 3 * β 0 0 * P 3 0 + β 0 3 * β 0 1 * P 3 1 + β 0 3 * β 0 2 * P 3 2 + β 0 3 * β 0 3 * P 3 3) = _
    rw [z01, z02, z03]
    clear z01 z02 z03 z12 z13 z23
    grind
  have e01 : su 4 (fun r => su 4 (fun s => β 0 r * β 1 s * P r s)) = β 1 0 * (β 0 0 * P 0 0) + β 1 1 * (β 0 0 * P 0 1) := by
    show 0 + (0 + β 0 0 * β 1 0 * P 0 0 + β 0 0 * β 1 1 * P 0 1 + β 0 0 * β 1 2 * P 0 2 + β 0 0 * β 1 3 * P 0 3) + (0 + β 0 1 * β 1 0 * P 1 0 + β 0 1 * β 1 1 * P 1 1 + β 0 1 * β 1 2 * P 1 2 + β 0 1 * β 1 3 * P 1 3) + (0 + β 0 2 * β 1 0 * P 2 0 + β 0 2 * β 1 1 * P 2 1 + β 0 2 * β 1 2 * P 2 2 + β 0 2 * β 1 3 * P 2 3) + (0 + β 0 3 * β 1 0 * P 3 0 + β 0 3 * β 1 1 * P 3 1 + β 0 3 * β 1 2 * P 3 2 + β 0 3 * β 1 3 * P 3 3) = _
    rw [z01, z02, z03, z12, z13]
    clear z01 z02 z03 z12 z13 z23
    grind
  have e02 : su 4 (fun r => su 4 (fun s => β 0 r * β 2 s * P r s)) = β 2 0 * (β 0 0 * P 0 0) + β 2 1 * (β 0 0 * P 0 1) + β 2 2 * (β 0 0 * P 0 2) := by
    show 0 + (0 + β 0 0 * β 2 0 * P 0 0 + β 0 0 * β 2 1 * P 0 1 + β 0 0 * β 2 2 * P 0 2 + β 0 0 * β 2 3 * P 0 3) + (0 + β 0 1 * β 2 0 * P 1 0 + β 0 1 * β 2 1 * P 1 1 + β 0 1 * β 2 2 * P 1 2 + β 0 1 * β 2 3 * P 1 3) + (0 + β 0 2 * β 2 0 * P 2 0 + β 0 2 * β 2 1 * P 2 1 + β 0 2 * β 2 2 * P 2 2 + β 0 2 * β 2 3 * P 2 3) + (0 + β 0 3 * β 2 0 * P 3 0 + β 0 3 * β 2 1 * P 3 1 + β 0 3 * β 2 2 * P 3 2 + β 0 3 * β 2 3 * P 3 3) = _
    rw [z01, z02, z03, z23]
    clear z01 z02 z03 z12 z13 z23
    grind
  have e03 : su 4 (fun r => su 4 (fun s => β 0 r * β 3 s * P r s)) = β 3 0 * (β 0 0 * P 0 0) + β 3 1 * (β 0 0 * P 0 1) + β 3 2 * (β 0 0 * P 0 2) + β 3 3 * (β 0 0 * P 0 3) := by
    show 0 + (0 + β 0 0 * β 3 0 * P 0 0 + β 0 0 * β 3 1 * P 0 1 + β 0 0 * β 3 2 * P 0 2 + β 0 0 * β 3 3 * P 0 3) + (0 + β 0 1 * β 3 0 * P 1 0 + β 0 1 * β 3 1 * P 1 1 + β 0 1 * β 3 2 * P 1 2 + β 0 1 * β 3 3 * P 1 3) + (0 + β 0 2 * β 3 0 * P 2 0 + β 0 2 * β 3 1 * P 2 1 + β 0 2 * β 3 2 * P 2 2 + β 0 2 * β 3 3 * P 2 3) + (0 + β 0 3 * β 3 0 * P 3 0 + β 0 3 * β 3 1 * P 3 1 + β 0 3 * β 3 2 * P 3 2 + β 0 3 * β 3 3 * P 3 3) = _
    rw [z01, z02, z03]
    clear z01 z02 z03 z12 z13 z23
    grind
  have e10 : su 4 (fun r => su 4 (fun s => β 1 r * β 0 s * P r s)) = β 0 0 * (β 1 0 * P 0 0 + β 1 1 * P 1 0) := by
    show 0 + (0 + β 1 0 * β 0 0 * P 0 0 + β 1 0 * β 0 1 * P 0 1 + β 1 0 * β 0 2 * P 0 2 + β 1 0 * β 0 3 * P 0 3) + (0 + β 1 1 * β 0 0 * P 1 0 + β 1 1 * β 0 1 * P 1 1 + β 1 1 * β 0 2 * P 1 2 + β 1 1 * β 0 3 * P 1 3) + (0 + β 1 2 * β 0 0 * P 2 0 + β 1 2 * β 0 1 * P 2 1 + β 1 2 * β 0 2 * P 2 2 + β 1 2 * β 0 3 * P 2 3) + (0 + β 1 3 * β 0 0 * P 3 0 + β 1 3 * β 0 1 * P 3 1 + β 1 3 * β 0 2 * P 3 2 + β 1 3 * β 0 3 * P 3 3) = _
    rw [z12, z13, z01, z02, z03]
    clear z01 z02 z03 z12 z13 z23
    grind
  have e11 : su 4 (fun r => su 4 (fun s => β 1 r * β 1 s * P r s)) = β 1 0 * (β 1 0 * P 0 0 + β 1 1 * P 1 0) + β 1 1 * (β 1 0 * P 0 1 + β 1 1 * P 1 1) := by
    show 0 + (0 + β 1 0 * β 1 0 * P 0 0 + β 1 0 * β 1 1 * P 0 1 + β 1 0 * β 1 2 * P 0 2 + β 1 0 * β 1 3 * P 0 3) + (0 + β 1 1 * β 1 0 * P 1 0 + β 1 1 * β 1 1 * P 1 1 + β 1 1 * β 1 2 * P 1 2 + β 1 1 * β 1 3 * P 1 3) + (0 + β 1 2 * β 1 0 * P 2 0 + β 1 2 * β 1 1 * P 2 1 + β 1 2 * β 1 2 * P 2 2 + β 1 2 * β 1 3 * P 2 3) + (0 + β 1 3 * β 1 0 * P 3 0 + β 1 3 * β 1 1 * P 3 1 + β 1 3 * β 1 2 * P 3 2 + β 1 3 * β 1 3 * P 3 3) = _
    rw [z12, z13]
    clear z01 z02 z03 z12 z13 z23
    grind
  have e12 : su 4 (fun r => su 4 (fun s => β 1 r * β 2 s * P r s)) = β 2 0 * (β 1 0 * P 0 0 + β 1 1 * P 1 0) + β 2 1 * (β 1 0 * P 0 1 + β 1 1 * P 1 1) + β 2 2 * (β 1 0 * P 0 2 + β 1 1 * P 1 2) := by
    show 0 + (0 + β 1 0 * β 2 0 * P 0 0 + β 1 0 * β 2 1 * P 0 1 + β 1 0 * β 2 2 * P 0 2 + β 1 0 * β 2 3 * P 0 3) + (0 + β 1 1 * β 2 0 * P 1 0 + β 1 1 * β 2 1 * P 1 1 + β 1 1 * β 2 2 * P 1 2 + β 1 1 * β 2 3 * P 1 3) + (0 + β 1 2 * β 2 0 * P 2 0 + β 1 2 * β 2 1 * P 2 1 + β 1 2 * β 2 2 * P 2 2 + β 1 2 * β 2 3 * P 2 3) + (0 + β 1 3 * β 2 0 * P 3 0 + β 1 3 * β 2 1 * P 3 1 + β 1 3 * β 2 2 * P 3 2 + β 1 3 * β 2 3 * P 3 3) = _
    rw [z12, z13, z23]
    clear z01 z02 z03 z12 z13 z23
    grind
  have e13 : su 4 (fun r => su 4 (fun s => β 1 r * β 3 s * P r s)) = β 3 0 * (β 1 0 * P 0 0 + β 1 1 * P 1 0) + β 3 1 * (β 1 0 * P 0 1 + β 1 1 * P 1 1) + β 3 2 * (β 1 0 * P 0 2 + β 1 1 * P 1 2) + β 3 3 * (β 1 0 * P 0 3 + β 1 1 * P 1 3) := by
    show 0 + (0 + β 1 0 * β 3 0 * P 0 0 + β 1 0 * β 3 1 * P 0 1 + β 1 0 * β 3 2 * P 0 2 + β 1 0 * β 3 3 * P 0 3) + (0 + β 1 1 * β 3 0 * P 1 0 + β 1 1 * β 3 1 * P 1 1 + β 1 1 * β 3 2 * P 1 2 + β 1 1 * β 3 3 * P 1 3) + (0 + β 1 2 * β 3 0 * P 2 0 + β 1 2 * β 3 1 * P 2 1 + β 1 2 * β 3 2 * P 2 2 + β 1 2 * β 3 3 * P 2 3) + (0 + β 1 3 * β 3 0 * P 3 0 + β 1 3 * β 3 1 * P 3 1 + β 1 3 * β 3 2 * P 3 2 + β 1 3 * β 3 3 * P 3 3) = _
    rw [z12, z13]
    clear z01 z02 z03 z12 z13 z23
    grind
  have e20 : su 4 (fun r => su 4 (fun s => β 2 r * β 0 s * P r s)) = β 0 0 * (β 2 0 * P 0 0 + β 2 1 * P 1 0 + β 2 2 * P 2 0) := by
    show 0 + (0 + β 2 0 * β 0 0 * P 0 0 + β 2 0 * β 0 1 * P 0 1 + β 2 0 * β 0 2 * P 0 2 + β 2 0 * β 0 3 * P 0 3) + (0 + β 2 1 * β 0 0 * P 1 0 + β 2 1 * β 0 1 * P 1 1 + β 2 1 * β 0 2 * P 1 2 + β 2 1 * β 0 3 * P 1 3) + (0 + β 2 2 * β 0 0 * P 2 0 + β 2 2 * β 0 1 * P 2 1 + β 2 2 * β 0 2 * P 2 2 + β 2 2 * β 0 3 * P 2 3) + (0 + β 2 3 * β 0 0 * P 3 0 + β 2 3 * β 0 1 * P 3 1 + β 2 3 * β 0 2 * P 3 2 + β 2 3 * β 0 3 * P 3 3) = _
    rw [z23, z01, z02, z03]
    clear z01 z02 z03 z12 z13 z23
    grind
  have e21 : su 4 (fun r => su 4 (fun s => β 2 r * β 1 s * P r s)) = β 1 0 * (β 2 0 * P 0 0 + β 2 1 * P 1 0 + β 2 2 * P 2 0) + β 1 1 * (β 2 0 * P 0 1 + β 2 1 * P 1 1 + β 2 2 * P 2 1) := by
    show 0 + (0 + β 2 0 * β 1 0 * P 0 0 + β 2 0 * β 1 1 * P 0 1 + β 2 0 * β 1 2 * P 0 2 + β 2 0 * β 1 3 * P 0 3) + (0 + β 2 1 * β 1 0 * P 1 0 + β 2 1 * β 1 1 * P 1 1 + β 2 1 * β 1 2 * P 1 2 + β 2 1 * β 1 3 * P 1 3) + (0 + β 2 2 * β 1 0 * P 2 0 + β 2 2 * β 1 1 * P 2 1 + β 2 2 * β 1 2 * P 2 2 + β 2 2 * β 1 3 * P 2 3) + (0 + β 2 3 * β 1 0 * P 3 0 + β 2 3 * β 1 1 * P 3 1 + β 2 3 * β 1 2 * P 3 2 + β 2 3 * β 1 3 * P 3 3) = _
    rw [z23, z12, z13]
    clear z01 z02 z03 z12 z13 z23
    grind
  have e22 : su 4 (fun r => su 4 (fun s => β 2 r * β 2 s * P r s)) = β 2 0 * (β 2 0 * P 0 0 + β 2 1 * P 1 0 + β 2 2 * P 2 0) + β 2 1 * (β 2 0 * P 0 1 + β 2 1 * P 1 1 + β 2 2 * P 2 1) + β 2 2 * (β 2 0 * P 0 2 + β 2 1 * P 1 2 + β 2 2 * P 2 2) := by
    show 0 + (0 + β 2 0 * β 2 0 * P 0 0 + β 2 0 * β 2 1 * P 0 1 + β 2 0 * β 2 2 * P 0 2 + β 2 0 * β 2 3 * P 0 3) + (0 + β 2 1 * β 2 0 * P 1 0 + β 2 1 * β 2 1 * P 1 1 + β 2 1 * β 2 2 * P 1 2 + β 2 1 * β 2 3 * P 1 3) + (0 + β 2 2 * β 2 0 * P 2 0 + β 2 2 * β 2 1 * P 2 1 + β 2 2 * β 2 2 * P 2 2 + β 2 2 * β 2 3 * P 2 3) + (0 + β 2 3 * β 2 0 * P 3 0 + β 2 3 * β 2 1 * P 3 1 + β 2 3 * β 2 2 * P 3 2 + β 2 3 * β 2 3 * P 3 3) = _
    rw [z23]
    clear z01 z02 z03 z12 z13 z23
    grind
  have e23 : su 4 (fun r => su 4 (fun s => β 2 r * β 3 s * P r s)) = β 3 0 * (β 2 0 * P 0 0 + β 2 1 * P 1 0 + β 2 2 * P 2 0) + β 3 1 * (β 2 0 * P 0 1 + β 2 1 * P 1 1 + β 2 2 * P 2 1) + β 3 2 * (β 2 0 * P 0 2 + β 2 1 * P 1 2 + β 2 2 * P 2 2) + β 3 3 * (β 2 0 * P 0 3 + β 2 1 * P 1 3 + β 2 2 * P 2 3) := by
    show 0 + (0 + β 2 0 * β 3 0 * P 0 0 + β 2 0 * β 3 1 * P 0 1 + β 2 0 * β 3 2 * P 0 2 + β 2 0 * β 3 3 * P 0 3) + (0 + β 2 1 * β 3 0 * P 1 0 + β 2 1 * β 3 1 * P 1 1 + β 2 1 * β 3 2 * P 1 2 + β 2 1 * β 3 3 * P 1 3) + (0 + β 2 2 * β 3 0 * P 2 0 + β 2 2 * β 3 1 * P 2 1 + β 2 2 * β 3 2 * P 2 2 + β 2 2 * β 3 3 * P 2 3) + (0 + β 2 3 * β 3 0 * P 3 0 + β 2 3 * β 3 1 * P 3 1 + β 2 3 * β 3 2 * P 3 2 + β 2 3 * β 3 3 * P 3 3) = _
    rw [z23]
    clear z01 z02 z03 z12 z13 z23
    grind
  have e30 : su 4 (fun r => su 4 (fun s => β 3 r * β 0 s * P r s)) = β 0 0 * (β 3 0 * P 0 0 + β 3 1 * P 1 0 + β 3 2 * P 2 0 + β 3 3 * P 3 0) := by
    show 0 + (0 + β 3 0 * β 0 0 * P 0 0 + β 3 0 * β 0 1 * P 0 1 + β 3 0 * β 0 2 * P 0 2 + β 3 0 * β 0 3 * P 0 3) + (0 + β 3 1 * β 0 0 * P 1 0 + β 3 1 * β 0 1 * P 1 1 + β 3 1 * β 0 2 * P 1 2 + β 3 1 * β 0 3 * P 1 3) + (0 + β 3 2 * β 0 0 * P 2 0 + β 3 2 * β 0 1 * P 2 1 + β 3 2 * β 0 2 * P 2 2 + β 3 2 * β 0 3 * P 2 3) + (0 + β 3 3 * β 0 0 * P 3 0 + β 3 3 * β 0 1 * P 3 1 + β 3 3 * β 0 2 * P 3 2 + β 3 3 * β 0 3 * P 3 3) = _
    rw [z01, z02, z03]
    clear z01 z02 z03 z12 z13 z23
    grind
  have e31 : su 4 (fun r => su 4 (fun s => β 3 r * β 1 s * P r s)) = β 1 0 * (β 3 0 * P 0 0 + β 3 1 * P 1 0 + β 3 2 * P 2 0 + β 3 3 * P 3 0) + β 1 1 * (β 3 0 * P 0 1 + β 3 1 * P 1 1 + β 3 2 * P 2 1 + β 3 3 * P 3 1) := by
    show 0 + (0 + β 3 0 * β 1 0 * P 0 0 + β 3 0 * β 1 1 * P 0 1 + β 3 0 * β 1 2 * P 0 2 + β 3 0 * β 1 3 * P 0 3) + (0 + β 3 1 * β 1 0 * P 1 0 + β 3 1 * β 1 1 * P 1 1 + β 3 1 * β 1 2 * P 1 2 + β 3 1 * β 1 3 * P 1 3) + (0 + β 3 2 * β 1 0 * P 2 0 + β 3 2 * β 1 1 * P 2 1 + β 3 2 * β 1 2 * P 2 2 + β 3 2 * β 1 3 * P 2 3) + (0 + β 3 3 * β 1 0 * P 3 0 + β 3 3 * β 1 1 * P 3 1 + β 3 3 * β 1 2 * P 3 2 + β 3 3 * β 1 3 * P 3 3) = _
    rw [z12, z13]
    clear z01 z02 z03 z12 z13 z23
    grind
  have e32 : su 4 (fun r => su 4 (fun s => β 3 r * β 2 s * P r s)) = β 2 0 * (β 3 0 * P 0 0 + β 3 1 * P 1 0 + β 3 2 * P 2 0 + β 3 3 * P 3 0) + β 2 1 * (β 3 0 * P 0 1 + β 3 1 * P 1 1 + β 3 2 * P 2 1 + β 3 3 * P 3 1) + β 2 2 * (β 3 0 * P 0 2 + β 3 1 * P 1 2 + β 3 2 * P 2 2 + β 3 3 * P 3 2) := by
    show 0 + (0 + β 3 0 * β 2 0 * P 0 0 + β 3 0 * β 2 1 * P 0 1 + β 3 0 * β 2 2 * P 0 2 + β 3 0 * β 2 3 * P 0 3) + (0 + β 3 1 * β 2 0 * P 1 0 + β 3 1 * β 2 1 * P 1 1 + β 3 1 * β 2 2 * P 1 2 + β 3 1 * β 2 3 * P 1 3) + (0 + β 3 2 * β 2 0 * P 2 0 + β 3 2 * β 2 1 * P 2 1 + β 3 2 * β 2 2 * P 2 2 + β 3 2 * β 2 3 * P 2 3) + (0 + β 3 3 * β 2 0 * P 3 0 + β 3 3 * β 2 1 * P 3 1 + β 3 3 * β 2 2 * P 3 2 + β 3 3 * β 2 3 * P 3 3) = _
    rw [z23]
    clear z01 z02 z03 z12 z13 z23
    grind
  have e33 : su 4 (fun r => su 4 (fun s => β 3 r * β 3 s * P r s)) = β 3 0 * (β 3 0 * P 0 0 + β 3 1 * P 1 0 + β 3 2 * P 2 0 + β 3 3 * P 3 0) + β 3 1 * (β 3 0 * P 0 1 + β 3 1 * P 1 1 + β 3 2 * P 2 1 + β 3 3 * P 3 1) + β 3 2 * (β 3 0 * P 0 2 + β 3 1 * P 1 2 + β 3 2 * P 2 2 + β 3 3 * P 3 2) + β 3 3 * (β 3 0 * P 0 3 + β 3 1 * P 1 3 + β 3 2 * P 2 3 + β 3 3 * P 3 3) := by
    show 0 + (0 + β 3 0 * β 3 0 * P 0 0 + β 3 0 * β 3 1 * P 0 1 + β 3 0 * β 3 2 * P 0 2 + β 3 0 * β 3 3 * P 0 3) + (0 + β 3 1 * β 3 0 * P 1 0 + β 3 1 * β 3 1 * P 1 1 + β 3 1 * β 3 2 * P 1 2 + β 3 1 * β 3 3 * P 1 3) + (0 + β 3 2 * β 3 0 * P 2 0 + β 3 2 * β 3 1 * P 2 1 + β 3 2 * β 3 2 * P 2 2 + β 3 2 * β 3 3 * P 2 3) + (0 + β 3 3 * β 3 0 * P 3 0 + β 3 3 * β 3 1 * P 3 1 + β 3 3 * β 3 2 * P 3 2 + β 3 3 * β 3 3 * P 3 3) = _
    clear z01 z02 z03 z12 z13 z23
    grind
  show su 4 (fun r => su 4 (fun s => β 0 r * β 0 s * P r s)) * su 4 (fun r => su 4 (fun s => β 1 r * β 1 s * P r s)) * su 4 (fun r => su 4 (fun s => β 2 r * β 2 s * P r s)) * su 4 (fun r => su 4 (fun s => β 3 r * β 3 s * P r s)) - su 4 (fun r => su 4 (fun s => β 0 r * β 0 s * P r s)) * su 4 (fun r => su 4 (fun s => β 1 r * β 1 s * P r s)) * su 4 (fun r => su 4 (fun s => β 2 r * β 3 s * P r s)) * su 4 (fun r => su 4 (fun s => β 3 r * β 2 s * P r s)) - su 4 (fun r => su 4 (fun s => β 0 r * β 0 s * P r s)) * su 4 (fun r => su 4 (fun s => β 1 r * β 2 s * P r s)) * su 4 (fun r => su 4 (fun s => β 2 r * β 1 s * P r s)) * su 4 (fun r => su 4 (fun s => β 3 r * β 3 s * P r s)) + su 4 (fun r => su 4 (fun s => β 0 r * β 0 s * P r s)) * su 4 (fun r => su 4 (fun s => β 1 r * β 2 s * P r s)) * su 4 (fun r => su 4 (fun s => β 2 r * β 3 s * P r s)) * su 4 (fun r => su 4 (fun s => β 3 r * β 1 s * P r s)) + su 4 (fun r => su 4 (fun s => β 0 r * β 0 s * P r s)) * su 4 (fun r => su 4 (fun s => β 1 r * β 3 s * P r s)) * su 4 (fun r => su 4 (fun s => β 2 r * β 1 s * P r s)) * su 4 (fun r => su 4 (fun s => β 3 r * β 2 s * P r s)) - su 4 (fun r => su 4 (fun s => β 0 r * β 0 s * P r s)) * su 4 (fun r => su 4 (fun s => β 1 r * β 3 s * P r s)) * su 4 (fun r => su 4 (fun s => β 2 r * β 2 s * P r s)) * su 4 (fun r => su 4 (fun s => β 3 r * β 1 s * P r s)) - su 4 (fun r => su 4 (fun s => β 0 r * β 1 s * P r s)) * su 4 (fun r => su 4 (fun s => β 1 r * β 0 s * P r s)) * su 4 (fun r => su 4 (fun s => β 2 r * β 2 s * P r s)) * su 4 (fun r => su 4 (fun s => β 3 r * β 3 s * P r s)) + su 4 (fun r => su 4 (fun s => β 0 r * β 1 s * P r s)) * su 4 (fun r => su 4 (fun s => β 1 r * β 0 s * P r s)) * su 4 (fun r => su 4 (fun s => β 2 r * β 3 s * P r s)) * su 4 (fun r => su 4 (fun s => β 3 r * β 2 s * P r s)) + su 4 (fun r => su 4 (fun s => β 0 r * β 1 s * P r s)) * su 4 (fun r => su 4 (fun s => β 1 r * β 2 s * P r s)) * su 4 (fun r => su 4 (fun s => β 2 r * β 0 s * P r s)) * su 4 (fun r => su 4 (fun s => β 3 r * β 3 s * P r s)) - su 4 (fun r => su 4 (fun s => β 0 r * β 1 s * P r s)) * su 4 (fun r => su 4 (fun s => β 1 r * β 2 s * P r s)) * su 4 (fun r => su 4 (fun s => β 2 r * β 3 s * P r s)) * su 4 (fun r => su 4 (fun s => β 3 r * β 0 s * P r s)) - su 4 (fun r => su 4 (fun s => β 0 r * β 1 s * P r s)) * su 4 (fun r => su 4 (fun s => β 1 r * β 3 s * P r s)) * su 4 (fun r => su 4 (fun s => β 2 r * β 0 s * P r s)) * su 4 (fun r => su 4 (fun s => β 3 r * β 2 s * P r s)) + su 4 (fun r => su 4 (fun s => β 0 r * β 1 s * P r s)) * su 4 (fun r => su 4 (fun s => β 1 r * β 3 s * P r s)) * su 4 (fun r => su 4 (fun s => β 2 r * β 2 s * P r s)) * su 4 (fun r => su 4 (fun s => β 3 r * β 0 s * P r s)) + su 4 (fun r => su 4 (fun s => β 0 r * β 2 s * P r s)) * su 4 (fun r => su 4 (fun s => β 1 r * β 0 s * P r s)) * su 4 (fun r => su 4 (fun s => β 2 r * β 1 s * P r s)) * su 4 (fun r => su 4 (fun s => β 3 r * β 3 s * P r s)) - su 4 (fun r => su 4 (fun s => β 0 r * β 2 s * P r s)) * su 4 (fun r => su 4 (fun s => β 1 r * β 0 s * P r s)) * su 4 (fun r => su 4 (fun s => β 2 r * β 3 s * P r s)) * su 4 (fun r => su 4 (fun s => β 3 r * β 1 s * P r s)) - su 4 (fun r => su 4 (fun s => β 0 r * β 2 s * P r s)) * su 4 (fun r => su 4 (fun s => β 1 r * β 1 s * P r s)) * su 4 (fun r => su 4 (fun s => β 2 r * β 0 s * P r s)) * su 4 (fun r => su 4 (fun s => β 3 r * β 3 s * P r s)) + su 4 (fun r => su 4 (fun s => β 0 r * β 2 s * P r s)) * su 4 (fun r => su 4 (fun s => β 1 r * β 1 s * P r s)) * su 4 (fun r => su 4 (fun s => β 2 r * β 3 s * P r s)) * su 4 (fun r => su 4 (fun s => β 3 r * β 0 s * P r s)) + su 4 (fun r => su 4 (fun s => β 0 r * β 2 s * P r s)) * su 4 (fun r => su 4 (fun s => β 1 r * β 3 s * P r s)) * su 4 (fun r => su 4 (fun s => β 2 r * β 0 s * P r s)) * su 4 (fun r => su 4 (fun s => β 3 r * β 1 s * P r s)) - su 4 (fun r => su 4 (fun s => β 0 r * β 2 s * P r s)) * su 4 (fun r => su 4 (fun s => β 1 r * β 3 s * P r s)) * su 4 (fun r => su 4 (fun s => β 2 r * β 1 s * P r s)) * su 4 (fun r => su 4 (fun s => β 3 r * β 0 s * P r s)) - su 4 (fun r => su 4 (fun s => β 0 r * β 3 s * P r s)) * su 4 (fun r => su 4 (fun s => β 1 r * β 0 s * P r s)) * su 4 (fun r => su 4 (fun s => β 2 r * β 1 s * P r s)) * su 4 (fun r => su 4 (fun s => β 3 r * β 2 s * P r s)) + su 4 (fun r => su 4 (fun s => β 0 r * β 3 s * P r s)) * su 4 (fun r => su 4 (fun s => β 1 r * β 0 s * P r s)) * su 4 (fun r => su 4 (fun s => β 2 r * β 2 s * P r s)) * su 4 (fun r => su 4 (fun s => β 3 r * β 1 s * P r s)) + su 4 (fun r => su 4 (fun s => β 0 r * β 3 s * P r s)) * su 4 (fun r => su 4 (fun s => β 1 r * β 1 s * P r s)) * su 4 (fun r => su 4 (fun s => β 2 r * β 0 s * P r s)) * su 4 (fun r => su 4 (fun s => β 3 r * β 2 s * P r s)) - su 4 (fun r => su 4 (fun s => β 0 r * β 3 s * P r s)) * su 4 (fun r => su 4 (fun s => β 1 r * β 1 s * P r s)) * su 4 (fun r => su 4 (fun s => β 2 r * β 2 s * P r s)) * su 4 (fun r => su 4 (fun s => β 3 r * β 0 s * P r s)) - su 4 (fun r => su 4 (fun s => β 0 r * β 3 s * P r s)) * su 4 (fun r => su 4 (fun s => β 1 r * β 2 s * P r s)) * su 4 (fun r => su 4 (fun s => β 2 r * β 0 s * P r s)) * su 4 (fun r => su 4 (fun s => β 3 r * β 1 s * P r s)) + su 4 (fun r => su 4 (fun s => β 0 r * β 3 s * P r s)) * su 4 (fun r => su 4 (fun s => β 1 r * β 2 s * P r s)) * su 4 (fun r => su 4 (fun s => β 2 r * β 1 s * P r s)) * su 4 (fun r => su 4 (fun s => β 3 r * β 0 s * P r s)) = _
  rw [e00, e01, e02, e03, e10, e11, e12, e13, e20, e21, e22, e23, e30, e31, e32, e33]
  refine (dtR4 (β 0 0) (β 1 0) (β 1 1) (β 2 0) (β 2 1) (β 2 2) (β 3 0) (β 3 1) (β 3 2) (β 3 3) (β 0 0 * P 0 0) (β 0 0 * P 0 1) (β 0 0 * P 0 2) (β 0 0 * P 0 3) (β 1 0 * P 0 0 + β 1 1 * P 1 0) (β 1 0 * P 0 1 + β 1 1 * P 1 1) (β 1 0 * P 0 2 + β 1 1 * P 1 2) (β 1 0 * P 0 3 + β 1 1 * P 1 3) (β 2 0 * P 0 0 + β 2 1 * P 1 0 + β 2 2 * P 2 0) (β 2 0 * P 0 1 + β 2 1 * P 1 1 + β 2 2 * P 2 1) (β 2 0 * P 0 2 + β 2 1 * P 1 2 + β 2 2 * P 2 2) (β 2 0 * P 0 3 + β 2 1 * P 1 3 + β 2 2 * P 2 3) (β 3 0 * P 0 0 + β 3 1 * P 1 0 + β 3 2 * P 2 0 + β 3 3 * P 3 0) (β 3 0 * P 0 1 + β 3 1 * P 1 1 + β 3 2 * P 2 1 + β 3 3 * P 3 1) (β 3 0 * P 0 2 + β 3 1 * P 1 2 + β 3 2 * P 2 2 + β 3 3 * P 3 2) (β 3 0 * P 0 3 + β 3 1 * P 1 3 + β 3 2 * P 2 3 + β 3 3 * P 3 3)).trans ?_
  refine congrArg (fun z => β 0 0 * β 1 1 * β 2 2 * β 3 3 * z) ?_
  exact dtL4 (β 0 0) (β 1 0) (β 1 1) (β 2 0) (β 2 1) (β 2 2) (β 3 0) (β 3 1) (β 3 2) (β 3 3) (P 0 0) (P 0 1) (P 0 2) (P 0 3) (P 1 0) (P 1 1) (P 1 2) (P 1 3) (P 2 0) (P 2 1) (P 2 2) (P 2 3) (P 3 0) (P 3 1) (P 3 2) (P 3 3)
theorem dtM4 {O : Type} [I : Lean.Grind.CommRing O] (x : O) (P : Int → Int → O) : dt4 (fun i j => x * P i j) = x ^ 4 * dt4 P := dtS4 x (P 0 0) (P 0 1) (P 0 2) (P 0 3) (P 1 0) (P 1 1) (P 1 2) (P 1 3) (P 2 0) (P 2 1) (P 2 2) (P 2 3) (P 3 0) (P 3 1) (P 3 2) (P 3 3)
theorem dtC4 {O : Type} [I : Lean.Grind.CommRing O] {P R : Int → Int → O} (h : ∀ i j : Int, 0 ≤ i → i < 4 → 0 ≤ j → j < 4 → P i j = R i j) : dt4 P = dt4 R := by
  unfold dt4
  rw [h 0 0 (by decide) (by decide) (by decide) (by decide), h 0 1 (by decide) (by decide) (by decide) (by decide), h 0 2 (by decide) (by decide) (by decide) (by decide), h 0 3 (by decide) (by decide) (by decide) (by decide), h 1 0 (by decide) (by decide) (by decide) (by decide), h 1 1 (by decide) (by decide) (by decide) (by decide), h 1 2 (by decide) (by decide) (by decide) (by decide), h 1 3 (by decide) (by decide) (by decide) (by decide), h 2 0 (by decide) (by decide) (by decide) (by decide), h 2 1 (by decide) (by decide) (by decide) (by decide), h 2 2 (by decide) (by decide) (by decide) (by decide), h 2 3 (by decide) (by decide) (by decide) (by decide), h 3 0 (by decide) (by decide) (by decide) (by decide), h 3 1 (by decide) (by decide) (by decide) (by decide), h 3 2 (by decide) (by decide) (by decide) (by decide), h 3 3 (by decide) (by decide) (by decide) (by decide)]
noncomputable def coE {O E : Type} [I : Lean.Grind.CommRing O] [J : Lean.Grind.CommRing E] {n : Nat} {c : Int → O} {ι : O → E} {y : E} (A : ALG n c ι y) (e : E) : Int → O := Classical.choose (A.2.2.2.1 e)
theorem co_s {O E : Type} [I : Lean.Grind.CommRing O] [J : Lean.Grind.CommRing E] {n : Nat} {c : Int → O} {ι : O → E} {y : E} (A : ALG n c ι y) (e : E) : e = su n (fun l => ι (coE A e l) * y ^ l.toNat) := Classical.choose_spec (A.2.2.2.1 e)
theorem co_u {O E : Type} [I : Lean.Grind.CommRing O] [J : Lean.Grind.CommRing E] {n : Nat} {c : Int → O} {ι : O → E} {y : E} (A : ALG n c ι y) {e : E} {v : Int → O} (h : e = su n (fun l => ι (v l) * y ^ l.toNat)) (l : Int) (l0 : 0 ≤ l) (l1 : l < n) : coE A e l = v l := y_ind A ((co_s A e).symm.trans h) l l0 l1
noncomputable def TrE {O E : Type} [I : Lean.Grind.CommRing O] [J : Lean.Grind.CommRing E] {n : Nat} {c : Int → O} {ι : O → E} {y : E} (A : ALG n c ι y) (e : E) : O := su n (fun r => coE A (e * y ^ r.toNat) r)
theorem tr_add {O E : Type} [I : Lean.Grind.CommRing O] [J : Lean.Grind.CommRing E] {n : Nat} {c : Int → O} {ι : O → E} {y : E} (A : ALG n c ι y) (a b : E) : TrE A (a + b) = TrE A a + TrE A b := by
  unfold TrE
  rw [← su_add]
  refine su_congr fun r r0 r1 => co_u A (v := fun l => coE A (a * y ^ r.toNat) l + coE A (b * y ^ r.toNat) l) ?_ r r0 r1
  rw [show (a + b) * y ^ r.toNat = a * y ^ r.toNat + b * y ^ r.toNat by grind]
  have p := co_s A (a * y ^ r.toNat)
  have q := co_s A (b * y ^ r.toNat)
  refine (show a * y ^ r.toNat + b * y ^ r.toNat = su n (fun l => ι (coE A (a * y ^ r.toNat) l) * y ^ l.toNat) + su n (fun l => ι (coE A (b * y ^ r.toNat) l) * y ^ l.toNat) by rw [← p, ← q]).trans ?_
  rw [← su_add]
  exact su_congr fun l _ _ => by rw [A.1]; clear p q; grind
theorem tr_sca {O E : Type} [I : Lean.Grind.CommRing O] [J : Lean.Grind.CommRing E] {n : Nat} {c : Int → O} {ι : O → E} {y : E} (A : ALG n c ι y) (x : O) (a : E) : TrE A (ι x * a) = x * TrE A a := by
  unfold TrE
  rw [← su_mul]
  refine su_congr fun r r0 r1 => co_u A (v := fun l => x * coE A (a * y ^ r.toNat) l) ?_ r r0 r1
  have p := co_s A (a * y ^ r.toNat)
  refine (show ι x * a * y ^ r.toNat = ι x * su n (fun l => ι (coE A (a * y ^ r.toNat) l) * y ^ l.toNat) by rw [← p]; clear p; grind).trans ?_
  rw [← su_mul]
  exact su_congr fun l _ _ => by rw [A.2.1]; clear p; grind
theorem tr_su {O E : Type} [I : Lean.Grind.CommRing O] [J : Lean.Grind.CommRing E] {n : Nat} {c : Int → O} {ι : O → E} {y : E} (A : ALG n c ι y) (f : Int → E) : ∀ k : Nat, TrE A (su k f) = su k (fun i => TrE A (f i))
  | 0 => by
    have := tr_sca A 0 (0 : E)
    rw [A.i0, show (0 : E) * 0 = 0 by grind, show (0 : O) * TrE A 0 = 0 by grind] at this
    exact this
  | k + 1 => by rw [su_succ, tr_add, tr_su A f k, su_succ]
theorem adj_ex {O : Type} [I : Lean.Grind.CommRing O] {n : Nat} (hn : 2 ≤ n ∧ n ≤ 4) (β : Int → Int → O) (lo : ∀ j i : Int, 0 ≤ j → j < i → i < n → β j i = 0) {t : O} {ex : Int → Nat} (di : ∀ j : Int, 0 ≤ j → j < n → β j j = t ^ ex j) : ∃ (V : Int → Int → O) (N : Nat), (∀ m j : Int, 0 ≤ m → m < n → 0 ≤ j → j < n → su n (fun l => β m l * V l j) = if m = j then t ^ N else 0) ∧ ∀ l r : Int, 0 ≤ l → l < n → 0 ≤ r → r < n → su n (fun j => V l j * β j r) = if l = r then t ^ N else 0 := by
  rcases (show n = 2 ∨ n = 3 ∨ n = 4 by omega) with rfl | rfl | rfl
  · obtain ⟨V, a, b⟩ := adj_ex2 β lo
    refine ⟨V, ex 0 + ex 1, ?_⟩
    rw [Lean.Grind.Semiring.pow_add, ← di 0 (by decide) (by decide), ← di 1 (by decide) (by decide)]
    exact ⟨a, b⟩
  · obtain ⟨V, a, b⟩ := adj_ex3 β lo
    refine ⟨V, ex 0 + ex 1 + ex 2, ?_⟩
    rw [Lean.Grind.Semiring.pow_add, Lean.Grind.Semiring.pow_add, ← di 0 (by decide) (by decide), ← di 1 (by decide) (by decide), ← di 2 (by decide) (by decide)]
    exact ⟨a, b⟩
  · obtain ⟨V, a, b⟩ := adj_ex4 β lo
    refine ⟨V, ex 0 + ex 1 + ex 2 + ex 3, ?_⟩
    rw [Lean.Grind.Semiring.pow_add, Lean.Grind.Semiring.pow_add, Lean.Grind.Semiring.pow_add, ← di 0 (by decide) (by decide), ← di 1 (by decide) (by decide), ← di 2 (by decide) (by decide), ← di 3 (by decide) (by decide)]
    exact ⟨a, b⟩
/-- the trace, by another basis -/
theorem tr_B {p : Int} {O E : Type} [I : Lean.Grind.CommRing O] [J : Lean.Grind.CommRing E] {φ : (Int → Int) → O} {n : Nat} {c : Int → O} {ι : O → E} {y : E} (h : HMs p φ) (A : ALG n c ι y) (hn : 2 ≤ n ∧ n ≤ 4) {β : Int → Int → O} (lo : ∀ j i : Int, 0 ≤ j → j < i → i < n → β j i = 0) {ex : Int → Nat} (di : ∀ j : Int, 0 ≤ j → j < n → β j j = φ t1 ^ ex j) {e : E} {Z : Int → Int → O} (hZ : ∀ j : Int, 0 ≤ j → j < n → e * su n (fun i => ι (β j i) * y ^ i.toNat) = su n (fun m => ι (Z j m) * su n (fun i => ι (β m i) * y ^ i.toNat))) : TrE A e = su n (fun j => Z j j) := by
  obtain ⟨V, N, v1, v2⟩ := adj_ex hn β lo di
  refine h.can N ?_
  refine (tr_same (N := fun r l => coE A (e * y ^ r.toNat) l) (fun j l j0 j1 l0 l1 => ?_) v1 v2).symm
  have q := hZ j j0 j1
  have e1 : e * su n (fun i => ι (β j i) * y ^ i.toNat) = su n (fun l => ι (su n (fun r => β j r * coE A (e * y ^ r.toNat) l)) * y ^ l.toNat) := by
    rw [← su_mul, su_congr (g := fun r => su n (fun l => ι (β j r * coE A (e * y ^ r.toNat) l) * y ^ l.toNat)) (fun r _ _ => by
      have s := co_s A (e * y ^ r.toNat)
      refine (show e * (ι (β j r) * y ^ r.toNat) = ι (β j r) * (e * y ^ r.toNat) by clear s; grind).trans ?_
      refine (congrArg (fun z => ι (β j r) * z) s).trans ?_
      rw [← su_mul]
      exact su_congr fun l _ _ => by rw [A.2.1]; clear s; grind), su_swap]
    refine su_congr fun l _ _ => ?_
    rw [su_congr (g := fun r => y ^ l.toNat * ι (β j r * coE A (e * y ^ r.toNat) l)) (fun r _ _ => by grind), su_mul, ← A.isu]
    grind
  have e2 : su n (fun m => ι (Z j m) * su n (fun i => ι (β m i) * y ^ i.toNat)) = su n (fun l => ι (su n (fun m => Z j m * β m l)) * y ^ l.toNat) := by
    rw [su_congr (g := fun m => su n (fun l => ι (Z j m * β m l) * y ^ l.toNat)) (fun m _ _ => by
      rw [← su_mul]
      exact su_congr fun l _ _ => by rw [A.2.1]; grind), su_swap]
    refine su_congr fun l _ _ => ?_
    rw [su_congr (g := fun m => y ^ l.toNat * ι (Z j m * β m l)) (fun m _ _ => by grind), su_mul, ← A.isu]
    grind
  rw [e1, e2] at q
  exact y_ind A q l l0 l1
/-- Gram entries of a ring's basis are t^40 times numbers -/
theorem RNV.gram {O E : Type} [I : Lean.Grind.CommRing O] [J : Lean.Grind.CommRing E] {p n k : Int} {C : Int → Int → Int} {φ : (Int → Int) → O} {ι : O → E} {y : E} {fig : Int → Int → Int → Int} {dp : Int → Int} (v : RNV p n C φ ι y k fig dp) : ∃ G : Int → Int → O, ∀ i j, 0 ≤ i → i < n → 0 ≤ j → j < n → su n.toNat (fun r => su n.toNat (fun s => φ (bR fig i r) * φ (bR fig j s) * TrE v.2.2.2.1 (y ^ r.toNat * y ^ s.toNat))) = φ t1 ^ 40 * G i j := by
  have pr := fun i j i0 i1 j0 j1 => (v.pr (i := i) (j := j) i0 i1 j0 j1).2
  obtain ⟨h, hp, hn, A, hk, r⟩ := v
  have lo : ∀ j i : Int, 0 ≤ j → j < i → i < n.toNat → φ (bR fig j i) = 0 := fun j i j0 q i1 => bR_0 h r.2.1 j0 (by omega) q (by omega)
  have tB : ∀ l, 0 ≤ l → l < n → TrE A (vE φ ι y n.toNat (bR fig l)) = φ t1 ^ 20 * su n.toNat (fun j => φ (shN p n dp fig (mbL p n C fig l j) j)) := fun l l0 l1 => by
    rw [tr_B (ex := fun j => (20 - dp j).toNat) (β := fun j i => φ (bR fig j i)) (Z := fun j m => φ t1 ^ 20 * φ (shN p n dp fig (mbL p n C fig l j) m)) h A (by omega) lo (fun j j0 j1 => bR_d h r.1 j0 (by omega)) (fun j j0 j1 => ?_), su_mul]
    have := pr l j l0 l1 j0 (by omega)
    refine this.trans ?_
    rw [← su_mul]
    exact su_congr fun m _ _ => by rw [A.2.1, A.ipow]; show _ = _ * vE φ ι y n.toNat (bR fig m); grind
  refine ⟨fun i j => su n.toNat (fun l => φ (shN p n dp fig (mbL p n C fig i j) l) * su n.toNat (fun j => φ (shN p n dp fig (mbL p n C fig l j) j))), fun i j i0 i1 j0 j1 => ?_⟩
  have e1 : su n.toNat (fun r => su n.toNat (fun s => φ (bR fig i r) * φ (bR fig j s) * TrE A (y ^ r.toNat * y ^ s.toNat))) = TrE A (vE φ ι y n.toNat (bR fig i) * vE φ ι y n.toNat (bR fig j)) := by
    have m : vE φ ι y n.toNat (bR fig i) * vE φ ι y n.toNat (bR fig j) = su n.toNat (fun r => su n.toNat (fun s => ι (φ (bR fig i r) * φ (bR fig j s)) * (y ^ r.toNat * y ^ s.toNat))) := by
      unfold vE
      rw [show su n.toNat (fun l => ι (φ (bR fig i l)) * y ^ l.toNat) * su n.toNat (fun l => ι (φ (bR fig j l)) * y ^ l.toNat) = su n.toNat (fun l => ι (φ (bR fig j l)) * y ^ l.toNat) * su n.toNat (fun l => ι (φ (bR fig i l)) * y ^ l.toNat) by grind, ← su_mul]
      refine su_congr fun a _ _ => ?_
      rw [show su n.toNat (fun l => ι (φ (bR fig j l)) * y ^ l.toNat) * (ι (φ (bR fig i a)) * y ^ a.toNat) = ι (φ (bR fig i a)) * y ^ a.toNat * su n.toNat (fun l => ι (φ (bR fig j l)) * y ^ l.toNat) by grind, ← su_mul]
      exact su_congr fun b _ _ => by rw [A.2.1]; grind
    rw [m, tr_su]
    refine su_congr fun a _ _ => ?_
    rw [tr_su]
    exact su_congr fun b _ _ => (tr_sca A _ _).symm
  rw [e1, pr i j i0 i1 j0 j1, ← A.ipow, tr_sca, tr_su, su_congr (g := fun l => φ t1 ^ 20 * (φ (shN p n dp fig (mbL p n C fig i j) l) * su n.toNat (fun j => φ (shN p n dp fig (mbL p n C fig l j) j)))) (fun l l0 l1 => by rw [tr_sca, tB l l0 (by omega)]; grind), su_mul]
  grind
