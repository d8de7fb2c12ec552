/-! Determinants of 2, 3, 4 rows; a triangular table and what undoes it; traces. -/
def dt2 {O : Type} [I : Lean.Grind.CommRing O] (M : Int → Int → O) : O := M 0 0 * M 1 1 - M 0 1 * M 1 0
set_option maxHeartbeats 4000000 in
theorem dtL2 {O : Type} [I : Lean.Grind.CommRing O] (b00 b10 b11 p00 p01 p10 p11 : O) : (b00 * p00) * (b10 * p01 + b11 * p11) - (b00 * p01) * (b10 * p00 + b11 * p10) = b00 * b11 * (p00 * p11 - p01 * p10) := by
  grind
set_option maxHeartbeats 4000000 in
theorem dtR2 {O : Type} [I : Lean.Grind.CommRing O] (b00 b10 b11 p00 p01 p10 p11 : O) : (b00 * p00) * (b10 * p10 + b11 * p11) - (b10 * p00 + b11 * p01) * (b00 * p10) = b00 * b11 * (p00 * p11 - p01 * p10) := by
  grind
theorem dtS2 {O : Type} [I : Lean.Grind.CommRing O] (x p00 p01 p10 p11 : O) : (x * p00) * (x * p11) - (x * p01) * (x * p10) = x ^ 2 * (p00 * p11 - p01 * p10) := by
  grind
theorem adj_ex2 {O : Type} [I : Lean.Grind.CommRing O] (β : Int → Int → O) (lo : ∀ j i : Int, 0 ≤ j → j < i → i < 2 → β j i = 0) : ∃ V : Int → Int → O, (∀ m j : Int, 0 ≤ m → m < 2 → 0 ≤ j → j < 2 → su 2 (fun l => β m l * V l j) = if m = j then β 0 0 * β 1 1 else 0) ∧ ∀ l r : Int, 0 ≤ l → l < 2 → 0 ≤ r → r < 2 → su 2 (fun j => V l j * β j r) = if l = r then β 0 0 * β 1 1 else 0 := by
  have ex : ∃ V : Int → Int → O, V 0 0 = β 1 1 ∧ V 0 1 = 0 ∧ V 1 0 = - (β 1 0) ∧ V 1 1 = β 0 0 := by
    refine ⟨fun l j => if l = 0 then (if j = 0 then β 1 1 else 0) else (if j = 0 then - (β 1 0) else β 0 0), rfl, rfl, rfl, rfl⟩
  obtain ⟨V, v00, v01, v10, v11⟩ := ex
  have z01 : β 0 1 = 0 := lo 0 1 (by decide) (by decide) (by decide)
  refine ⟨V, fun m j m0 m1 j0 j1 => ?_, fun l r l0 l1 r0 r1 => ?_⟩
  · rcases (show m = 0 ∨ m = 1 by omega) with rfl | rfl
    · rcases (show j = 0 ∨ j = 1 by omega) with rfl | rfl
      · show 0 + β 0 0 * V 0 0 + β 0 1 * V 1 0 = if (0 : Int) = 0 then _ else 0
        rw [v00, v10, z01, if_pos rfl]
        clear v00 v01 v10 v11 z01
        grind
      · show 0 + β 0 0 * V 0 1 + β 0 1 * V 1 1 = if (0 : Int) = 1 then _ else 0
        rw [v01, v11, z01, if_neg (by decide)]
        clear v00 v01 v10 v11 z01
        grind
    · rcases (show j = 0 ∨ j = 1 by omega) with rfl | rfl
      · show 0 + β 1 0 * V 0 0 + β 1 1 * V 1 0 = if (1 : Int) = 0 then _ else 0
        rw [v00, v10, if_neg (by decide)]
        clear v00 v01 v10 v11 z01
        grind
      · show 0 + β 1 0 * V 0 1 + β 1 1 * V 1 1 = if (1 : Int) = 1 then _ else 0
        rw [v01, v11, if_pos rfl]
        clear v00 v01 v10 v11 z01
        grind
  · rcases (show l = 0 ∨ l = 1 by omega) with rfl | rfl
    · rcases (show r = 0 ∨ r = 1 by omega) with rfl | rfl
      · show 0 + V 0 0 * β 0 0 + V 0 1 * β 1 0 = if (0 : Int) = 0 then _ else 0
        rw [v00, v01, if_pos rfl]
        clear v00 v01 v10 v11 z01
        grind
      · show 0 + V 0 0 * β 0 1 + V 0 1 * β 1 1 = if (0 : Int) = 1 then _ else 0
        rw [v00, v01, z01, if_neg (by decide)]
        clear v00 v01 v10 v11 z01
        grind
    · rcases (show r = 0 ∨ r = 1 by omega) with rfl | rfl
      · show 0 + V 1 0 * β 0 0 + V 1 1 * β 1 0 = if (1 : Int) = 0 then _ else 0
        rw [v10, v11, if_neg (by decide)]
        clear v00 v01 v10 v11 z01
        grind
      · show 0 + V 1 0 * β 0 1 + V 1 1 * β 1 1 = if (1 : Int) = 1 then _ else 0
        rw [v10, v11, z01, if_pos rfl]
        clear v00 v01 v10 v11 z01
        grind
def dt3 {O : Type} [I : Lean.Grind.CommRing O] (M : Int → Int → O) : O := M 0 0 * M 1 1 * M 2 2 - M 0 0 * M 1 2 * M 2 1 - M 0 1 * M 1 0 * M 2 2 + M 0 1 * M 1 2 * M 2 0 + M 0 2 * M 1 0 * M 2 1 - M 0 2 * M 1 1 * M 2 0
set_option maxHeartbeats 4000000 in
theorem dtL3 {O : Type} [I : Lean.Grind.CommRing O] (b00 b10 b11 b20 b21 b22 p00 p01 p02 p10 p11 p12 p20 p21 p22 : O) : (b00 * p00) * (b10 * p01 + b11 * p11) * (b20 * p02 + b21 * p12 + b22 * p22) - (b00 * p00) * (b10 * p02 + b11 * p12) * (b20 * p01 + b21 * p11 + b22 * p21) - (b00 * p01) * (b10 * p00 + b11 * p10) * (b20 * p02 + b21 * p12 + b22 * p22) + (b00 * p01) * (b10 * p02 + b11 * p12) * (b20 * p00 + b21 * p10 + b22 * p20) + (b00 * p02) * (b10 * p00 + b11 * p10) * (b20 * p01 + b21 * p11 + b22 * p21) - (b00 * p02) * (b10 * p01 + b11 * p11) * (b20 * p00 + b21 * p10 + b22 * p20) = b00 * b11 * b22 * (p00 * p11 * p22 - p00 * p12 * p21 - p01 * p10 * p22 + p01 * p12 * p20 + p02 * p10 * p21 - p02 * p11 * p20) := by
  grind
set_option maxHeartbeats 4000000 in
theorem dtR3 {O : Type} [I : Lean.Grind.CommRing O] (b00 b10 b11 b20 b21 b22 p00 p01 p02 p10 p11 p12 p20 p21 p22 : O) : (b00 * p00) * (b10 * p10 + b11 * p11) * (b20 * p20 + b21 * p21 + b22 * p22) - (b00 * p00) * (b20 * p10 + b21 * p11 + b22 * p12) * (b10 * p20 + b11 * p21) - (b10 * p00 + b11 * p01) * (b00 * p10) * (b20 * p20 + b21 * p21 + b22 * p22) + (b10 * p00 + b11 * p01) * (b20 * p10 + b21 * p11 + b22 * p12) * (b00 * p20) + (b20 * p00 + b21 * p01 + b22 * p02) * (b00 * p10) * (b10 * p20 + b11 * p21) - (b20 * p00 + b21 * p01 + b22 * p02) * (b10 * p10 + b11 * p11) * (b00 * p20) = b00 * b11 * b22 * (p00 * p11 * p22 - p00 * p12 * p21 - p01 * p10 * p22 + p01 * p12 * p20 + p02 * p10 * p21 - p02 * p11 * p20) := by
  grind
theorem dtS3 {O : Type} [I : Lean.Grind.CommRing O] (x p00 p01 p02 p10 p11 p12 p20 p21 p22 : O) : (x * p00) * (x * p11) * (x * p22) - (x * p00) * (x * p12) * (x * p21) - (x * p01) * (x * p10) * (x * p22) + (x * p01) * (x * p12) * (x * p20) + (x * p02) * (x * p10) * (x * p21) - (x * p02) * (x * p11) * (x * p20) = x ^ 3 * (p00 * p11 * p22 - p00 * p12 * p21 - p01 * p10 * p22 + p01 * p12 * p20 + p02 * p10 * p21 - p02 * p11 * p20) := by
  grind
theorem adj_ex3 {O : Type} [I : Lean.Grind.CommRing O] (β : Int → Int → O) (lo : ∀ j i : Int, 0 ≤ j → j < i → i < 3 → β j i = 0) : ∃ V : Int → Int → O, (∀ m j : Int, 0 ≤ m → m < 3 → 0 ≤ j → j < 3 → su 3 (fun l => β m l * V l j) = if m = j then β 0 0 * β 1 1 * β 2 2 else 0) ∧ ∀ l r : Int, 0 ≤ l → l < 3 → 0 ≤ r → r < 3 → su 3 (fun j => V l j * β j r) = if l = r then β 0 0 * β 1 1 * β 2 2 else 0 := by
  have ex : ∃ V : Int → Int → O, V 0 0 = β 1 1 * β 2 2 ∧ V 0 1 = 0 ∧ V 0 2 = 0 ∧ V 1 0 = - (β 1 0 * β 2 2) ∧ V 1 1 = β 0 0 * β 2 2 ∧ V 1 2 = 0 ∧ V 2 0 = (β 1 0 * β 2 1 - β 2 0 * β 1 1) ∧ V 2 1 = - (β 2 1 * β 0 0) ∧ V 2 2 = β 0 0 * β 1 1 := by
    refine ⟨fun l j => if l = 0 then (if j = 0 then β 1 1 * β 2 2 else if j = 1 then 0 else 0) else if l = 1 then (if j = 0 then - (β 1 0 * β 2 2) else if j = 1 then β 0 0 * β 2 2 else 0) else (if j = 0 then (β 1 0 * β 2 1 - β 2 0 * β 1 1) else if j = 1 then - (β 2 1 * β 0 0) else β 0 0 * β 1 1), rfl, rfl, rfl, rfl, rfl, rfl, rfl, rfl, rfl⟩
  obtain ⟨V, v00, v01, v02, v10, v11, v12, v20, v21, v22⟩ := ex
  have z01 : β 0 1 = 0 := lo 0 1 (by decide) (by decide) (by decide)
  have z02 : β 0 2 = 0 := lo 0 2 (by decide) (by decide) (by decide)
  have z12 : β 1 2 = 0 := lo 1 2 (by decide) (by decide) (by decide)
  refine ⟨V, fun m j m0 m1 j0 j1 => ?_, fun l r l0 l1 r0 r1 => ?_⟩
  · rcases (show m = 0 ∨ m = 1 ∨ m = 2 by omega) with rfl | rfl | rfl
    · rcases (show j = 0 ∨ j = 1 ∨ j = 2 by omega) with rfl | rfl | rfl
      · show 0 + β 0 0 * V 0 0 + β 0 1 * V 1 0 + β 0 2 * V 2 0 = if (0 : Int) = 0 then _ else 0
        rw [v00, v10, v20, z01, z02, if_pos rfl]
        clear v00 v01 v02 v10 v11 v12 v20 v21 v22 z01 z02 z12
        grind
      · show 0 + β 0 0 * V 0 1 + β 0 1 * V 1 1 + β 0 2 * V 2 1 = if (0 : Int) = 1 then _ else 0
        rw [v01, v11, v21, z01, z02, if_neg (by decide)]
        clear v00 v01 v02 v10 v11 v12 v20 v21 v22 z01 z02 z12
        grind
      · show 0 + β 0 0 * V 0 2 + β 0 1 * V 1 2 + β 0 2 * V 2 2 = if (0 : Int) = 2 then _ else 0
        rw [v02, v12, v22, z01, z02, if_neg (by decide)]
        clear v00 v01 v02 v10 v11 v12 v20 v21 v22 z01 z02 z12
        grind
    · rcases (show j = 0 ∨ j = 1 ∨ j = 2 by omega) with rfl | rfl | rfl
      · show 0 + β 1 0 * V 0 0 + β 1 1 * V 1 0 + β 1 2 * V 2 0 = if (1 : Int) = 0 then _ else 0
        rw [v00, v10, v20, z12, if_neg (by decide)]
        clear v00 v01 v02 v10 v11 v12 v20 v21 v22 z01 z02 z12
        grind
      · show 0 + β 1 0 * V 0 1 + β 1 1 * V 1 1 + β 1 2 * V 2 1 = if (1 : Int) = 1 then _ else 0
        rw [v01, v11, v21, z12, if_pos rfl]
        clear v00 v01 v02 v10 v11 v12 v20 v21 v22 z01 z02 z12
        grind
      · show 0 + β 1 0 * V 0 2 + β 1 1 * V 1 2 + β 1 2 * V 2 2 = if (1 : Int) = 2 then _ else 0
        rw [v02, v12, v22, z12, if_neg (by decide)]
        clear v00 v01 v02 v10 v11 v12 v20 v21 v22 z01 z02 z12
        grind
    · rcases (show j = 0 ∨ j = 1 ∨ j = 2 by omega) with rfl | rfl | rfl
      · show 0 + β 2 0 * V 0 0 + β 2 1 * V 1 0 + β 2 2 * V 2 0 = if (2 : Int) = 0 then _ else 0
        rw [v00, v10, v20, if_neg (by decide)]
        clear v00 v01 v02 v10 v11 v12 v20 v21 v22 z01 z02 z12
        grind
      · show 0 + β 2 0 * V 0 1 + β 2 1 * V 1 1 + β 2 2 * V 2 1 = if (2 : Int) = 1 then _ else 0
        rw [v01, v11, v21, if_neg (by decide)]
        clear v00 v01 v02 v10 v11 v12 v20 v21 v22 z01 z02 z12
        grind
      · show 0 + β 2 0 * V 0 2 + β 2 1 * V 1 2 + β 2 2 * V 2 2 = if (2 : Int) = 2 then _ else 0
        rw [v02, v12, v22, if_pos rfl]
        clear v00 v01 v02 v10 v11 v12 v20 v21 v22 z01 z02 z12
        grind
  · rcases (show l = 0 ∨ l = 1 ∨ l = 2 by omega) with rfl | rfl | rfl
    · rcases (show r = 0 ∨ r = 1 ∨ r = 2 by omega) with rfl | rfl | rfl
      · show 0 + V 0 0 * β 0 0 + V 0 1 * β 1 0 + V 0 2 * β 2 0 = if (0 : Int) = 0 then _ else 0
        rw [v00, v01, v02, if_pos rfl]
        clear v00 v01 v02 v10 v11 v12 v20 v21 v22 z01 z02 z12
        grind
      · show 0 + V 0 0 * β 0 1 + V 0 1 * β 1 1 + V 0 2 * β 2 1 = if (0 : Int) = 1 then _ else 0
        rw [v00, v01, v02, z01, if_neg (by decide)]
        clear v00 v01 v02 v10 v11 v12 v20 v21 v22 z01 z02 z12
        grind
      · show 0 + V 0 0 * β 0 2 + V 0 1 * β 1 2 + V 0 2 * β 2 2 = if (0 : Int) = 2 then _ else 0
        rw [v00, v01, v02, z02, z12, if_neg (by decide)]
        clear v00 v01 v02 v10 v11 v12 v20 v21 v22 z01 z02 z12
        grind
    · rcases (show r = 0 ∨ r = 1 ∨ r = 2 by omega) with rfl | rfl | rfl
      · show 0 + V 1 0 * β 0 0 + V 1 1 * β 1 0 + V 1 2 * β 2 0 = if (1 : Int) = 0 then _ else 0
        rw [v10, v11, v12, if_neg (by decide)]
        clear v00 v01 v02 v10 v11 v12 v20 v21 v22 z01 z02 z12
        grind
      · show 0 + V 1 0 * β 0 1 + V 1 1 * β 1 1 + V 1 2 * β 2 1 = if (1 : Int) = 1 then _ else 0
        rw [v10, v11, v12, z01, if_pos rfl]
        clear v00 v01 v02 v10 v11 v12 v20 v21 v22 z01 z02 z12
        grind
      · show 0 + V 1 0 * β 0 2 + V 1 1 * β 1 2 + V 1 2 * β 2 2 = if (1 : Int) = 2 then _ else 0
        rw [v10, v11, v12, z02, z12, if_neg (by decide)]
        clear v00 v01 v02 v10 v11 v12 v20 v21 v22 z01 z02 z12
        grind
    · rcases (show r = 0 ∨ r = 1 ∨ r = 2 by omega) with rfl | rfl | rfl
      · show 0 + V 2 0 * β 0 0 + V 2 1 * β 1 0 + V 2 2 * β 2 0 = if (2 : Int) = 0 then _ else 0
        rw [v20, v21, v22, if_neg (by decide)]
        clear v00 v01 v02 v10 v11 v12 v20 v21 v22 z01 z02 z12
        grind
      · show 0 + V 2 0 * β 0 1 + V 2 1 * β 1 1 + V 2 2 * β 2 1 = if (2 : Int) = 1 then _ else 0
        rw [v20, v21, v22, z01, if_neg (by decide)]
        clear v00 v01 v02 v10 v11 v12 v20 v21 v22 z01 z02 z12
        grind
      · show 0 + V 2 0 * β 0 2 + V 2 1 * β 1 2 + V 2 2 * β 2 2 = if (2 : Int) = 2 then _ else 0
        rw [v20, v21, v22, z02, z12, if_pos rfl]
        clear v00 v01 v02 v10 v11 v12 v20 v21 v22 z01 z02 z12
        grind
def dt4 {O : Type} [I : Lean.Grind.CommRing O] (M : Int → Int → O) : O := M 0 0 * M 1 1 * M 2 2 * M 3 3 - M 0 0 * M 1 1 * M 2 3 * M 3 2 - M 0 0 * M 1 2 * M 2 1 * M 3 3 + M 0 0 * M 1 2 * M 2 3 * M 3 1 + M 0 0 * M 1 3 * M 2 1 * M 3 2 - M 0 0 * M 1 3 * M 2 2 * M 3 1 - M 0 1 * M 1 0 * M 2 2 * M 3 3 + M 0 1 * M 1 0 * M 2 3 * M 3 2 + M 0 1 * M 1 2 * M 2 0 * M 3 3 - M 0 1 * M 1 2 * M 2 3 * M 3 0 - M 0 1 * M 1 3 * M 2 0 * M 3 2 + M 0 1 * M 1 3 * M 2 2 * M 3 0 + M 0 2 * M 1 0 * M 2 1 * M 3 3 - M 0 2 * M 1 0 * M 2 3 * M 3 1 - M 0 2 * M 1 1 * M 2 0 * M 3 3 + M 0 2 * M 1 1 * M 2 3 * M 3 0 + M 0 2 * M 1 3 * M 2 0 * M 3 1 - M 0 2 * M 1 3 * M 2 1 * M 3 0 - M 0 3 * M 1 0 * M 2 1 * M 3 2 + M 0 3 * M 1 0 * M 2 2 * M 3 1 + M 0 3 * M 1 1 * M 2 0 * M 3 2 - M 0 3 * M 1 1 * M 2 2 * M 3 0 - M 0 3 * M 1 2 * M 2 0 * M 3 1 + M 0 3 * M 1 2 * M 2 1 * M 3 0
set_option maxHeartbeats 4000000 in
theorem dtL4 {O : Type} [I : Lean.Grind.CommRing O] (b00 b10 b11 b20 b21 b22 b30 b31 b32 b33 p00 p01 p02 p03 p10 p11 p12 p13 p20 p21 p22 p23 p30 p31 p32 p33 : O) : (b00 * p00) * (b10 * p01 + b11 * p11) * (b20 * p02 + b21 * p12 + b22 * p22) * (b30 * p03 + b31 * p13 + b32 * p23 + b33 * p33) - (b00 * p00) * (b10 * p01 + b11 * p11) * (b20 * p03 + b21 * p13 + b22 * p23) * (b30 * p02 + b31 * p12 + b32 * p22 + b33 * p32) - (b00 * p00) * (b10 * p02 + b11 * p12) * (b20 * p01 + b21 * p11 + b22 * p21) * (b30 * p03 + b31 * p13 + b32 * p23 + b33 * p33) + (b00 * p00) * (b10 * p02 + b11 * p12) * (b20 * p03 + b21 * p13 + b22 * p23) * (b30 * p01 + b31 * p11 + b32 * p21 + b33 * p31) + (b00 * p00) * (b10 * p03 + b11 * p13) * (b20 * p01 + b21 * p11 + b22 * p21) * (b30 * p02 + b31 * p12 + b32 * p22 + b33 * p32) - (b00 * p00) * (b10 * p03 + b11 * p13) * (b20 * p02 + b21 * p12 + b22 * p22) * (b30 * p01 + b31 * p11 + b32 * p21 + b33 * p31) - (b00 * p01) * (b10 * p00 + b11 * p10) * (b20 * p02 + b21 * p12 + b22 * p22) * (b30 * p03 + b31 * p13 + b32 * p23 + b33 * p33) + (b00 * p01) * (b10 * p00 + b11 * p10) * (b20 * p03 + b21 * p13 + b22 * p23) * (b30 * p02 + b31 * p12 + b32 * p22 + b33 * p32) + (b00 * p01) * (b10 * p02 + b11 * p12) * (b20 * p00 + b21 * p10 + b22 * p20) * (b30 * p03 + b31 * p13 + b32 * p23 + b33 * p33) - (b00 * p01) * (b10 * p02 + b11 * p12) * (b20 * p03 + b21 * p13 + b22 * p23) * (b30 * p00 + b31 * p10 + b32 * p20 + b33 * p30) - (b00 * p01) * (b10 * p03 + b11 * p13) * (b20 * p00 + b21 * p10 + b22 * p20) * (b30 * p02 + b31 * p12 + b32 * p22 + b33 * p32) + (b00 * p01) * (b10 * p03 + b11 * p13) * (b20 * p02 + b21 * p12 + b22 * p22) * (b30 * p00 + b31 * p10 + b32 * p20 + b33 * p30) + (b00 * p02) * (b10 * p00 + b11 * p10) * (b20 * p01 + b21 * p11 + b22 * p21) * (b30 * p03 + b31 * p13 + b32 * p23 + b33 * p33) - (b00 * p02) * (b10 * p00 + b11 * p10) * (b20 * p03 + b21 * p13 + b22 * p23) * (b30 * p01 + b31 * p11 + b32 * p21 + b33 * p31) - (b00 * p02) * (b10 * p01 + b11 * p11) * (b20 * p00 + b21 * p10 + b22 * p20) * (b30 * p03 + b31 * p13 + b32 * p23 + b33 * p33) + (b00 * p02) * (b10 * p01 + b11 * p11) * (b20 * p03 + b21 * p13 + b22 * p23) * (b30 * p00 + b31 * p10 + b32 * p20 + b33 * p30) + (b00 * p02) * (b10 * p03 + b11 * p13) * (b20 * p00 + b21 * p10 + b22 * p20) * (b30 * p01 + b31 * p11 + b32 * p21 + b33 * p31) - (b00 * p02) * (b10 * p03 + b11 * p13) * (b20 * p01 + b21 * p11 + b22 * p21) * (b30 * p00 + b31 * p10 + b32 * p20 + b33 * p30) - (b00 * p03) * (b10 * p00 + b11 * p10) * (b20 * p01 + b21 * p11 + b22 * p21) * (b30 * p02 + b31 * p12 + b32 * p22 + b33 * p32) + (b00 * p03) * (b10 * p00 + b11 * p10) * (b20 * p02 + b21 * p12 + b22 * p22) * (b30 * p01 + b31 * p11 + b32 * p21 + b33 * p31) + (b00 * p03) * (b10 * p01 + b11 * p11) * (b20 * p00 + b21 * p10 + b22 * p20) * (b30 * p02 + b31 * p12 + b32 * p22 + b33 * p32) - (b00 * p03) * (b10 * p01 + b11 * p11) * (b20 * p02 + b21 * p12 + b22 * p22) * (b30 * p00 + b31 * p10 + b32 * p20 + b33 * p30) - (b00 * p03) * (b10 * p02 + b11 * p12) * (b20 * p00 + b21 * p10 + b22 * p20) * (b30 * p01 + b31 * p11 + b32 * p21 + b33 * p31) + (b00 * p03) * (b10 * p02 + b11 * p12) * (b20 * p01 + b21 * p11 + b22 * p21) * (b30 * p00 + b31 * p10 + b32 * p20 + b33 * p30) = b00 * b11 * b22 * b33 * (p00 * p11 * p22 * p33 - p00 * p11 * p23 * p32 - p00 * p12 * p21 * p33 + p00 * p12 * p23 * p31 + p00 * p13 * p21 * p32 - p00 * p13 * p22 * p31 - p01 * p10 * p22 * p33 + p01 * p10 * p23 * p32 + p01 * p12 * p20 * p33 - p01 * p12 * p23 * p30 - p01 * p13 * p20 * p32 + p01 * p13 * p22 * p30 + p02 * p10 * p21 * p33 - p02 * p10 * p23 * p31 - p02 * p11 * p20 * p33 + p02 * p11 * p23 * p30 + p02 * p13 * p20 * p31 - p02 * p13 * p21 * p30 - p03 * p10 * p21 * p32 + p03 * p10 * p22 * p31 + p03 * p11 * p20 * p32 - p03 * p11 * p22 * p30 - p03 * p12 * p20 * p31 + p03 * p12 * p21 * p30) := by
  grind
set_option maxHeartbeats 4000000 in
theorem dtR4 {O : Type} [I : Lean.Grind.CommRing O] (b00 b10 b11 b20 b21 b22 b30 b31 b32 b33 p00 p01 p02 p03 p10 p11 p12 p13 p20 p21 p22 p23 p30 p31 p32 p33 : O) : (b00 * p00) * (b10 * p10 + b11 * p11) * (b20 * p20 + b21 * p21 + b22 * p22) * (b30 * p30 + b31 * p31 + b32 * p32 + b33 * p33) - (b00 * p00) * (b10 * p10 + b11 * p11) * (b30 * p20 + b31 * p21 + b32 * p22 + b33 * p23) * (b20 * p30 + b21 * p31 + b22 * p32) - (b00 * p00) * (b20 * p10 + b21 * p11 + b22 * p12) * (b10 * p20 + b11 * p21) * (b30 * p30 + b31 * p31 + b32 * p32 + b33 * p33) + (b00 * p00) * (b20 * p10 + b21 * p11 + b22 * p12) * (b30 * p20 + b31 * p21 + b32 * p22 + b33 * p23) * (b10 * p30 + b11 * p31) + (b00 * p00) * (b30 * p10 + b31 * p11 + b32 * p12 + b33 * p13) * (b10 * p20 + b11 * p21) * (b20 * p30 + b21 * p31 + b22 * p32) - (b00 * p00) * (b30 * p10 + b31 * p11 + b32 * p12 + b33 * p13) * (b20 * p20 + b21 * p21 + b22 * p22) * (b10 * p30 + b11 * p31) - (b10 * p00 + b11 * p01) * (b00 * p10) * (b20 * p20 + b21 * p21 + b22 * p22) * (b30 * p30 + b31 * p31 + b32 * p32 + b33 * p33) + (b10 * p00 + b11 * p01) * (b00 * p10) * (b30 * p20 + b31 * p21 + b32 * p22 + b33 * p23) * (b20 * p30 + b21 * p31 + b22 * p32) + (b10 * p00 + b11 * p01) * (b20 * p10 + b21 * p11 + b22 * p12) * (b00 * p20) * (b30 * p30 + b31 * p31 + b32 * p32 + b33 * p33) - (b10 * p00 + b11 * p01) * (b20 * p10 + b21 * p11 + b22 * p12) * (b30 * p20 + b31 * p21 + b32 * p22 + b33 * p23) * (b00 * p30) - (b10 * p00 + b11 * p01) * (b30 * p10 + b31 * p11 + b32 * p12 + b33 * p13) * (b00 * p20) * (b20 * p30 + b21 * p31 + b22 * p32) + (b10 * p00 + b11 * p01) * (b30 * p10 + b31 * p11 + b32 * p12 + b33 * p13) * (b20 * p20 + b21 * p21 + b22 * p22) * (b00 * p30) + (b20 * p00 + b21 * p01 + b22 * p02) * (b00 * p10) * (b10 * p20 + b11 * p21) * (b30 * p30 + b31 * p31 + b32 * p32 + b33 * p33) - (b20 * p00 + b21 * p01 + b22 * p02) * (b00 * p10) * (b30 * p20 + b31 * p21 + b32 * p22 + b33 * p23) * (b10 * p30 + b11 * p31) - (b20 * p00 + b21 * p01 + b22 * p02) * (b10 * p10 + b11 * p11) * (b00 * p20) * (b30 * p30 + b31 * p31 + b32 * p32 + b33 * p33) + (b20 * p00 + b21 * p01 + b22 * p02) * (b10 * p10 + b11 * p11) * (b30 * p20 + b31 * p21 + b32 * p22 + b33 * p23) * (b00 * p30) + (b20 * p00 + b21 * p01 + b22 * p02) * (b30 * p10 + b31 * p11 + b32 * p12 + b33 * p13) * (b00 * p20) * (b10 * p30 + b11 * p31) - (b20 * p00 + b21 * p01 + b22 * p02) * (b30 * p10 + b31 * p11 + b32 * p12 + b33 * p13) * (b10 * p20 + b11 * p21) * (b00 * p30) - (b30 * p00 + b31 * p01 + b32 * p02 + b33 * p03) * (b00 * p10) * (b10 * p20 + b11 * p21) * (b20 * p30 + b21 * p31 + b22 * p32) + (b30 * p00 + b31 * p01 + b32 * p02 + b33 * p03) * (b00 * p10) * (b20 * p20 + b21 * p21 + b22 * p22) * (b10 * p30 + b11 * p31) + (b30 * p00 + b31 * p01 + b32 * p02 + b33 * p03) * (b10 * p10 + b11 * p11) * (b00 * p20) * (b20 * p30 + b21 * p31 + b22 * p32) - (b30 * p00 + b31 * p01 + b32 * p02 + b33 * p03) * (b10 * p10 + b11 * p11) * (b20 * p20 + b21 * p21 + b22 * p22) * (b00 * p30) - (b30 * p00 + b31 * p01 + b32 * p02 + b33 * p03) * (b20 * p10 + b21 * p11 + b22 * p12) * (b00 * p20) * (b10 * p30 + b11 * p31) + (b30 * p00 + b31 * p01 + b32 * p02 + b33 * p03) * (b20 * p10 + b21 * p11 + b22 * p12) * (b10 * p20 + b11 * p21) * (b00 * p30) = b00 * b11 * b22 * b33 * (p00 * p11 * p22 * p33 - p00 * p11 * p23 * p32 - p00 * p12 * p21 * p33 + p00 * p12 * p23 * p31 + p00 * p13 * p21 * p32 - p00 * p13 * p22 * p31 - p01 * p10 * p22 * p33 + p01 * p10 * p23 * p32 + p01 * p12 * p20 * p33 - p01 * p12 * p23 * p30 - p01 * p13 * p20 * p32 + p01 * p13 * p22 * p30 + p02 * p10 * p21 * p33 - p02 * p10 * p23 * p31 - p02 * p11 * p20 * p33 + p02 * p11 * p23 * p30 + p02 * p13 * p20 * p31 - p02 * p13 * p21 * p30 - p03 * p10 * p21 * p32 + p03 * p10 * p22 * p31 + p03 * p11 * p20 * p32 - p03 * p11 * p22 * p30 - p03 * p12 * p20 * p31 + p03 * p12 * p21 * p30) := by
  grind
theorem dtS4 {O : Type} [I : Lean.Grind.CommRing O] (x p00 p01 p02 p03 p10 p11 p12 p13 p20 p21 p22 p23 p30 p31 p32 p33 : O) : (x * p00) * (x * p11) * (x * p22) * (x * p33) - (x * p00) * (x * p11) * (x * p23) * (x * p32) - (x * p00) * (x * p12) * (x * p21) * (x * p33) + (x * p00) * (x * p12) * (x * p23) * (x * p31) + (x * p00) * (x * p13) * (x * p21) * (x * p32) - (x * p00) * (x * p13) * (x * p22) * (x * p31) - (x * p01) * (x * p10) * (x * p22) * (x * p33) + (x * p01) * (x * p10) * (x * p23) * (x * p32) + (x * p01) * (x * p12) * (x * p20) * (x * p33) - (x * p01) * (x * p12) * (x * p23) * (x * p30) - (x * p01) * (x * p13) * (x * p20) * (x * p32) + (x * p01) * (x * p13) * (x * p22) * (x * p30) + (x * p02) * (x * p10) * (x * p21) * (x * p33) - (x * p02) * (x * p10) * (x * p23) * (x * p31) - (x * p02) * (x * p11) * (x * p20) * (x * p33) + (x * p02) * (x * p11) * (x * p23) * (x * p30) + (x * p02) * (x * p13) * (x * p20) * (x * p31) - (x * p02) * (x * p13) * (x * p21) * (x * p30) - (x * p03) * (x * p10) * (x * p21) * (x * p32) + (x * p03) * (x * p10) * (x * p22) * (x * p31) + (x * p03) * (x * p11) * (x * p20) * (x * p32) - (x * p03) * (x * p11) * (x * p22) * (x * p30) - (x * p03) * (x * p12) * (x * p20) * (x * p31) + (x * p03) * (x * p12) * (x * p21) * (x * p30) = x ^ 4 * (p00 * p11 * p22 * p33 - p00 * p11 * p23 * p32 - p00 * p12 * p21 * p33 + p00 * p12 * p23 * p31 + p00 * p13 * p21 * p32 - p00 * p13 * p22 * p31 - p01 * p10 * p22 * p33 + p01 * p10 * p23 * p32 + p01 * p12 * p20 * p33 - p01 * p12 * p23 * p30 - p01 * p13 * p20 * p32 + p01 * p13 * p22 * p30 + p02 * p10 * p21 * p33 - p02 * p10 * p23 * p31 - p02 * p11 * p20 * p33 + p02 * p11 * p23 * p30 + p02 * p13 * p20 * p31 - p02 * p13 * p21 * p30 - p03 * p10 * p21 * p32 + p03 * p10 * p22 * p31 + p03 * p11 * p20 * p32 - p03 * p11 * p22 * p30 - p03 * p12 * p20 * p31 + p03 * p12 * p21 * p30) := by
  grind
theorem adj_ex4 {O : Type} [I : Lean.Grind.CommRing O] (β : Int → Int → O) (lo : ∀ j i : Int, 0 ≤ j → j < i → i < 4 → β j i = 0) : ∃ V : Int → Int → O, (∀ m j : Int, 0 ≤ m → m < 4 → 0 ≤ j → j < 4 → su 4 (fun l => β m l * V l j) = if m = j then β 0 0 * β 1 1 * β 2 2 * β 3 3 else 0) ∧ ∀ l r : Int, 0 ≤ l → l < 4 → 0 ≤ r → r < 4 → su 4 (fun j => V l j * β j r) = if l = r then β 0 0 * β 1 1 * β 2 2 * β 3 3 else 0 := by
  have ex : ∃ V : Int → Int → O, V 0 0 = β 1 1 * β 2 2 * β 3 3 ∧ V 0 1 = 0 ∧ V 0 2 = 0 ∧ V 0 3 = 0 ∧ V 1 0 = - (β 1 0 * β 2 2 * β 3 3) ∧ V 1 1 = β 0 0 * β 2 2 * β 3 3 ∧ V 1 2 = 0 ∧ V 1 3 = 0 ∧ V 2 0 = (β 1 0 * β 2 1 - β 2 0 * β 1 1) * β 3 3 ∧ V 2 1 = - (β 2 1 * β 0 0 * β 3 3) ∧ V 2 2 = β 0 0 * β 1 1 * β 3 3 ∧ V 2 3 = 0 ∧ V 3 0 = - (β 3 0 * β 1 1 * β 2 2) + β 3 1 * β 1 0 * β 2 2 + β 3 2 * β 2 0 * β 1 1 - β 3 2 * β 2 1 * β 1 0 ∧ V 3 1 = (β 2 1 * β 3 2 - β 3 1 * β 2 2) * β 0 0 ∧ V 3 2 = - (β 3 2 * β 0 0 * β 1 1) ∧ V 3 3 = β 0 0 * β 1 1 * β 2 2 := by
    refine ⟨fun l j => if l = 0 then (if j = 0 then β 1 1 * β 2 2 * β 3 3 else if j = 1 then 0 else if j = 2 then 0 else 0) else if l = 1 then (if j = 0 then - (β 1 0 * β 2 2 * β 3 3) else if j = 1 then β 0 0 * β 2 2 * β 3 3 else if j = 2 then 0 else 0) else if l = 2 then (if j = 0 then (β 1 0 * β 2 1 - β 2 0 * β 1 1) * β 3 3 else if j = 1 then - (β 2 1 * β 0 0 * β 3 3) else if j = 2 then β 0 0 * β 1 1 * β 3 3 else 0) else (if j = 0 then - (β 3 0 * β 1 1 * β 2 2) + β 3 1 * β 1 0 * β 2 2 + β 3 2 * β 2 0 * β 1 1 - β 3 2 * β 2 1 * β 1 0 else if j = 1 then (β 2 1 * β 3 2 - β 3 1 * β 2 2) * β 0 0 else if j = 2 then - (β 3 2 * β 0 0 * β 1 1) else β 0 0 * β 1 1 * β 2 2), rfl, rfl, rfl, rfl, rfl, rfl, rfl, rfl, rfl, rfl, rfl, rfl, rfl, rfl, rfl, rfl⟩
  obtain ⟨V, v00, v01, v02, v03, v10, v11, v12, v13, v20, v21, v22, v23, v30, v31, v32, v33⟩ := ex
  have z01 : β 0 1 = 0 := lo 0 1 (by decide) (by decide) (by decide)
  have z02 : β 0 2 = 0 := lo 0 2 (by decide) (by decide) (by decide)
  have z03 : β 0 3 = 0 := lo 0 3 (by decide) (by decide) (by decide)
  have z12 : β 1 2 = 0 := lo 1 2 (by decide) (by decide) (by decide)
  have z13 : β 1 3 = 0 := lo 1 3 (by decide) (by decide) (by decide)
  have z23 : β 2 3 = 0 := lo 2 3 (by decide) (by decide) (by decide)
  refine ⟨V, fun m j m0 m1 j0 j1 => ?_, fun l r l0 l1 r0 r1 => ?_⟩
  · rcases (show m = 0 ∨ m = 1 ∨ m = 2 ∨ m = 3 by omega) with rfl | rfl | rfl | rfl
    · rcases (show j = 0 ∨ j = 1 ∨ j = 2 ∨ j = 3 by omega) with rfl | rfl | rfl | rfl
      · show 0 + β 0 0 * V 0 0 + β 0 1 * V 1 0 + β 0 2 * V 2 0 + β 0 3 * V 3 0 = if (0 : Int) = 0 then _ else 0
        rw [v00, v10, v20, v30, z01, z02, z03, if_pos rfl]
        clear v00 v01 v02 v03 v10 v11 v12 v13 v20 v21 v22 v23 v30 v31 v32 v33 z01 z02 z03 z12 z13 z23
        grind
      · show 0 + β 0 0 * V 0 1 + β 0 1 * V 1 1 + β 0 2 * V 2 1 + β 0 3 * V 3 1 = if (0 : Int) = 1 then _ else 0
        rw [v01, v11, v21, v31, z01, z02, z03, if_neg (by decide)]
        clear v00 v01 v02 v03 v10 v11 v12 v13 v20 v21 v22 v23 v30 v31 v32 v33 z01 z02 z03 z12 z13 z23
        grind
      · show 0 + β 0 0 * V 0 2 + β 0 1 * V 1 2 + β 0 2 * V 2 2 + β 0 3 * V 3 2 = if (0 : Int) = 2 then _ else 0
        rw [v02, v12, v22, v32, z01, z02, z03, if_neg (by decide)]
        clear v00 v01 v02 v03 v10 v11 v12 v13 v20 v21 v22 v23 v30 v31 v32 v33 z01 z02 z03 z12 z13 z23
        grind
      · show 0 + β 0 0 * V 0 3 + β 0 1 * V 1 3 + β 0 2 * V 2 3 + β 0 3 * V 3 3 = if (0 : Int) = 3 then _ else 0
        rw [v03, v13, v23, v33, z01, z02, z03, if_neg (by decide)]
        clear v00 v01 v02 v03 v10 v11 v12 v13 v20 v21 v22 v23 v30 v31 v32 v33 z01 z02 z03 z12 z13 z23
        grind
    · rcases (show j = 0 ∨ j = 1 ∨ j = 2 ∨ j = 3 by omega) with rfl | rfl | rfl | rfl
      · show 0 + β 1 0 * V 0 0 + β 1 1 * V 1 0 + β 1 2 * V 2 0 + β 1 3 * V 3 0 = if (1 : Int) = 0 then _ else 0
        rw [v00, v10, v20, v30, z12, z13, if_neg (by decide)]
        clear v00 v01 v02 v03 v10 v11 v12 v13 v20 v21 v22 v23 v30 v31 v32 v33 z01 z02 z03 z12 z13 z23
        grind
      · show 0 + β 1 0 * V 0 1 + β 1 1 * V 1 1 + β 1 2 * V 2 1 + β 1 3 * V 3 1 = if (1 : Int) = 1 then _ else 0
        rw [v01, v11, v21, v31, z12, z13, if_pos rfl]
        clear v00 v01 v02 v03 v10 v11 v12 v13 v20 v21 v22 v23 v30 v31 v32 v33 z01 z02 z03 z12 z13 z23
        grind
      · show 0 + β 1 0 * V 0 2 + β 1 1 * V 1 2 + β 1 2 * V 2 2 + β 1 3 * V 3 2 = if (1 : Int) = 2 then _ else 0
        rw [v02, v12, v22, v32, z12, z13, if_neg (by decide)]
        clear v00 v01 v02 v03 v10 v11 v12 v13 v20 v21 v22 v23 v30 v31 v32 v33 z01 z02 z03 z12 z13 z23
        grind
      · show 0 + β 1 0 * V 0 3 + β 1 1 * V 1 3 + β 1 2 * V 2 3 + β 1 3 * V 3 3 = if (1 : Int) = 3 then _ else 0
        rw [v03, v13, v23, v33, z12, z13, if_neg (by decide)]
        clear v00 v01 v02 v03 v10 v11 v12 v13 v20 v21 v22 v23 v30 v31 v32 v33 z01 z02 z03 z12 z13 z23
        grind
    · rcases (show j = 0 ∨ j = 1 ∨ j = 2 ∨ j = 3 by omega) with rfl | rfl | rfl | rfl
      · show 0 + β 2 0 * V 0 0 + β 2 1 * V 1 0 + β 2 2 * V 2 0 + β 2 3 * V 3 0 = if (2 : Int) = 0 then _ else 0
        rw [v00, v10, v20, v30, z23, if_neg (by decide)]
        clear v00 v01 v02 v03 v10 v11 v12 v13 v20 v21 v22 v23 v30 v31 v32 v33 z01 z02 z03 z12 z13 z23
        grind
      · show 0 + β 2 0 * V 0 1 + β 2 1 * V 1 1 + β 2 2 * V 2 1 + β 2 3 * V 3 1 = if (2 : Int) = 1 then _ else 0
        rw [v01, v11, v21, v31, z23, if_neg (by decide)]
        clear v00 v01 v02 v03 v10 v11 v12 v13 v20 v21 v22 v23 v30 v31 v32 v33 z01 z02 z03 z12 z13 z23
        grind
      · show 0 + β 2 0 * V 0 2 + β 2 1 * V 1 2 + β 2 2 * V 2 2 + β 2 3 * V 3 2 = if (2 : Int) = 2 then _ else 0
        rw [v02, v12, v22, v32, z23, if_pos rfl]
        clear v00 v01 v02 v03 v10 v11 v12 v13 v20 v21 v22 v23 v30 v31 v32 v33 z01 z02 z03 z12 z13 z23
        grind
      · show 0 + β 2 0 * V 0 3 + β 2 1 * V 1 3 + β 2 2 * V 2 3 + β 2 3 * V 3 3 = if (2 : Int) = 3 then _ else 0
        rw [v03, v13, v23, v33, z23, if_neg (by decide)]
        clear v00 v01 v02 v03 v10 v11 v12 v13 v20 v21 v22 v23 v30 v31 v32 v33 z01 z02 z03 z12 z13 z23
        grind
    · rcases (show j = 0 ∨ j = 1 ∨ j = 2 ∨ j = 3 by omega) with rfl | rfl | rfl | rfl
      · show 0 + β 3 0 * V 0 0 + β 3 1 * V 1 0 + β 3 2 * V 2 0 + β 3 3 * V 3 0 = if (3 : Int) = 0 then _ else 0
        rw [v00, v10, v20, v30, if_neg (by decide)]
        clear v00 v01 v02 v03 v10 v11 v12 v13 v20 v21 v22 v23 v30 v31 v32 v33 z01 z02 z03 z12 z13 z23
        grind
      · show 0 + β 3 0 * V 0 1 + β 3 1 * V 1 1 + β 3 2 * V 2 1 + β 3 3 * V 3 1 = if (3 : Int) = 1 then _ else 0
        rw [v01, v11, v21, v31, if_neg (by decide)]
        clear v00 v01 v02 v03 v10 v11 v12 v13 v20 v21 v22 v23 v30 v31 v32 v33 z01 z02 z03 z12 z13 z23
        grind
      · show 0 + β 3 0 * V 0 2 + β 3 1 * V 1 2 + β 3 2 * V 2 2 + β 3 3 * V 3 2 = if (3 : Int) = 2 then _ else 0
        rw [v02, v12, v22, v32, if_neg (by decide)]
        clear v00 v01 v02 v03 v10 v11 v12 v13 v20 v21 v22 v23 v30 v31 v32 v33 z01 z02 z03 z12 z13 z23
        grind
      · show 0 + β 3 0 * V 0 3 + β 3 1 * V 1 3 + β 3 2 * V 2 3 + β 3 3 * V 3 3 = if (3 : Int) = 3 then _ else 0
        rw [v03, v13, v23, v33, if_pos rfl]
        clear v00 v01 v02 v03 v10 v11 v12 v13 v20 v21 v22 v23 v30 v31 v32 v33 z01 z02 z03 z12 z13 z23
        grind
  · rcases (show l = 0 ∨ l = 1 ∨ l = 2 ∨ l = 3 by omega) with rfl | rfl | rfl | rfl
    · rcases (show r = 0 ∨ r = 1 ∨ r = 2 ∨ r = 3 by omega) with rfl | rfl | rfl | rfl
      · show 0 + V 0 0 * β 0 0 + V 0 1 * β 1 0 + V 0 2 * β 2 0 + V 0 3 * β 3 0 = if (0 : Int) = 0 then _ else 0
        rw [v00, v01, v02, v03, if_pos rfl]
        clear v00 v01 v02 v03 v10 v11 v12 v13 v20 v21 v22 v23 v30 v31 v32 v33 z01 z02 z03 z12 z13 z23
        grind
      · show 0 + V 0 0 * β 0 1 + V 0 1 * β 1 1 + V 0 2 * β 2 1 + V 0 3 * β 3 1 = if (0 : Int) = 1 then _ else 0
        rw [v00, v01, v02, v03, z01, if_neg (by decide)]
        clear v00 v01 v02 v03 v10 v11 v12 v13 v20 v21 v22 v23 v30 v31 v32 v33 z01 z02 z03 z12 z13 z23
        grind
      · show 0 + V 0 0 * β 0 2 + V 0 1 * β 1 2 + V 0 2 * β 2 2 + V 0 3 * β 3 2 = if (0 : Int) = 2 then _ else 0
        rw [v00, v01, v02, v03, z02, z12, if_neg (by decide)]
        clear v00 v01 v02 v03 v10 v11 v12 v13 v20 v21 v22 v23 v30 v31 v32 v33 z01 z02 z03 z12 z13 z23
        grind
      · show 0 + V 0 0 * β 0 3 + V 0 1 * β 1 3 + V 0 2 * β 2 3 + V 0 3 * β 3 3 = if (0 : Int) = 3 then _ else 0
        rw [v00, v01, v02, v03, z03, z13, z23, if_neg (by decide)]
        clear v00 v01 v02 v03 v10 v11 v12 v13 v20 v21 v22 v23 v30 v31 v32 v33 z01 z02 z03 z12 z13 z23
        grind
    · rcases (show r = 0 ∨ r = 1 ∨ r = 2 ∨ r = 3 by omega) with rfl | rfl | rfl | rfl
      · show 0 + V 1 0 * β 0 0 + V 1 1 * β 1 0 + V 1 2 * β 2 0 + V 1 3 * β 3 0 = if (1 : Int) = 0 then _ else 0
        rw [v10, v11, v12, v13, if_neg (by decide)]
        clear v00 v01 v02 v03 v10 v11 v12 v13 v20 v21 v22 v23 v30 v31 v32 v33 z01 z02 z03 z12 z13 z23
        grind
      · show 0 + V 1 0 * β 0 1 + V 1 1 * β 1 1 + V 1 2 * β 2 1 + V 1 3 * β 3 1 = if (1 : Int) = 1 then _ else 0
        rw [v10, v11, v12, v13, z01, if_pos rfl]
        clear v00 v01 v02 v03 v10 v11 v12 v13 v20 v21 v22 v23 v30 v31 v32 v33 z01 z02 z03 z12 z13 z23
        grind
      · show 0 + V 1 0 * β 0 2 + V 1 1 * β 1 2 + V 1 2 * β 2 2 + V 1 3 * β 3 2 = if (1 : Int) = 2 then _ else 0
        rw [v10, v11, v12, v13, z02, z12, if_neg (by decide)]
        clear v00 v01 v02 v03 v10 v11 v12 v13 v20 v21 v22 v23 v30 v31 v32 v33 z01 z02 z03 z12 z13 z23
        grind
      · show 0 + V 1 0 * β 0 3 + V 1 1 * β 1 3 + V 1 2 * β 2 3 + V 1 3 * β 3 3 = if (1 : Int) = 3 then _ else 0
        rw [v10, v11, v12, v13, z03, z13, z23, if_neg (by decide)]
        clear v00 v01 v02 v03 v10 v11 v12 v13 v20 v21 v22 v23 v30 v31 v32 v33 z01 z02 z03 z12 z13 z23
        grind
    · rcases (show r = 0 ∨ r = 1 ∨ r = 2 ∨ r = 3 by omega) with rfl | rfl | rfl | rfl
      · show 0 + V 2 0 * β 0 0 + V 2 1 * β 1 0 + V 2 2 * β 2 0 + V 2 3 * β 3 0 = if (2 : Int) = 0 then _ else 0
        rw [v20, v21, v22, v23, if_neg (by decide)]
        clear v00 v01 v02 v03 v10 v11 v12 v13 v20 v21 v22 v23 v30 v31 v32 v33 z01 z02 z03 z12 z13 z23
        grind
      · show 0 + V 2 0 * β 0 1 + V 2 1 * β 1 1 + V 2 2 * β 2 1 + V 2 3 * β 3 1 = if (2 : Int) = 1 then _ else 0
        rw [v20, v21, v22, v23, z01, if_neg (by decide)]
        clear v00 v01 v02 v03 v10 v11 v12 v13 v20 v21 v22 v23 v30 v31 v32 v33 z01 z02 z03 z12 z13 z23
        grind
      · show 0 + V 2 0 * β 0 2 + V 2 1 * β 1 2 + V 2 2 * β 2 2 + V 2 3 * β 3 2 = if (2 : Int) = 2 then _ else 0
        rw [v20, v21, v22, v23, z02, z12, if_pos rfl]
        clear v00 v01 v02 v03 v10 v11 v12 v13 v20 v21 v22 v23 v30 v31 v32 v33 z01 z02 z03 z12 z13 z23
        grind
      · show 0 + V 2 0 * β 0 3 + V 2 1 * β 1 3 + V 2 2 * β 2 3 + V 2 3 * β 3 3 = if (2 : Int) = 3 then _ else 0
        rw [v20, v21, v22, v23, z03, z13, z23, if_neg (by decide)]
        clear v00 v01 v02 v03 v10 v11 v12 v13 v20 v21 v22 v23 v30 v31 v32 v33 z01 z02 z03 z12 z13 z23
        grind
    · rcases (show r = 0 ∨ r = 1 ∨ r = 2 ∨ r = 3 by omega) with rfl | rfl | rfl | rfl
      · show 0 + V 3 0 * β 0 0 + V 3 1 * β 1 0 + V 3 2 * β 2 0 + V 3 3 * β 3 0 = if (3 : Int) = 0 then _ else 0
        rw [v30, v31, v32, v33, if_neg (by decide)]
        clear v00 v01 v02 v03 v10 v11 v12 v13 v20 v21 v22 v23 v30 v31 v32 v33 z01 z02 z03 z12 z13 z23
        grind
      · show 0 + V 3 0 * β 0 1 + V 3 1 * β 1 1 + V 3 2 * β 2 1 + V 3 3 * β 3 1 = if (3 : Int) = 1 then _ else 0
        rw [v30, v31, v32, v33, z01, if_neg (by decide)]
        clear v00 v01 v02 v03 v10 v11 v12 v13 v20 v21 v22 v23 v30 v31 v32 v33 z01 z02 z03 z12 z13 z23
        grind
      · show 0 + V 3 0 * β 0 2 + V 3 1 * β 1 2 + V 3 2 * β 2 2 + V 3 3 * β 3 2 = if (3 : Int) = 2 then _ else 0
        rw [v30, v31, v32, v33, z02, z12, if_neg (by decide)]
        clear v00 v01 v02 v03 v10 v11 v12 v13 v20 v21 v22 v23 v30 v31 v32 v33 z01 z02 z03 z12 z13 z23
        grind
      · show 0 + V 3 0 * β 0 3 + V 3 1 * β 1 3 + V 3 2 * β 2 3 + V 3 3 * β 3 3 = if (3 : Int) = 3 then _ else 0
        rw [v30, v31, v32, v33, z03, z13, z23, if_pos rfl]
        clear v00 v01 v02 v03 v10 v11 v12 v13 v20 v21 v22 v23 v30 v31 v32 v33 z01 z02 z03 z12 z13 z23
        grind
theorem tr_same {O : Type} [I : Lean.Grind.CommRing O] {n : Nat} {β N Z V : Int → Int → O} {D : O} (h : ∀ j l : Int, 0 ≤ j → j < n → 0 ≤ l → l < n → su n (fun r => β j r * N r l) = su n (fun m => Z j m * β m l)) (h1 : ∀ m j : Int, 0 ≤ m → m < n → 0 ≤ j → j < n → su n (fun l => β m l * V l j) = if m = j then D else 0) (h2 : ∀ l r : Int, 0 ≤ l → l < n → 0 ≤ r → r < n → su n (fun j => V l j * β j r) = if l = r then D else 0) : D * su n (fun j => Z j j) = D * su n (fun r => N r r) := by
  have a : su n (fun j => su n (fun l => V l j * su n (fun m => Z j m * β m l))) = D * su n (fun j => Z j j) := by
    rw [← su_mul]
    refine su_congr fun j j0 j1 => ?_
    rw [su_congr (g := fun l => su n (fun m => Z j m * (β m l * V l j))) (fun l _ _ => by
      rw [← su_mul]
      exact su_congr fun m _ _ => by grind), su_swap, su_congr (g := fun m => Z j m * (if m = j then D else 0)) (fun m m0 m1 => by rw [su_mul, h1 m j m0 m1 j0 j1]), su_one j j0 j1 (fun i _ _ ni => by rw [if_neg ni]; grind), if_pos rfl]
    grind
  have b : su n (fun j => su n (fun l => V l j * su n (fun r => β j r * N r l))) = D * su n (fun r => N r r) := by
    rw [su_congr (g := fun j => su n (fun l => su n (fun r => N r l * (V l j * β j r)))) (fun j _ _ => su_congr fun l _ _ => by
      rw [← su_mul]
      exact su_congr fun r _ _ => by grind), su_swap, ← su_mul]
    refine su_congr fun l l0 l1 => ?_
    rw [su_swap, su_congr (g := fun r => N r l * (if l = r then D else 0)) (fun r r0 r1 => by rw [su_mul, h2 l r l0 l1 r0 r1]), su_one l l0 l1 (fun i _ _ ni => by rw [if_neg (fun z => ni z.symm)]; grind), if_pos rfl]
    grind
  rw [← a, ← b]
  exact su_congr fun j j0 j1 => su_congr fun l l0 l1 => by rw [h j l j0 j1 l0 l1]
