/-! The law's calls. -/
theorem law0 {d m1 m2 : Nat} {i : Int} {S : Hp} {A : Hp → Prop} {B : Hp → Prop} (k1 : zK S 1 = 11) (hb : ∀ j, 1 ≤ j → j ≤ 5 → 0 ≤ w32 (i + j) ∧ w32 (i + j) < zL S (-2)) (h : TW d m1 m2 [] S 485) (hA : ∀ S3, MID S S3 485 → Rel S3 485 → A S3) : (zK S 1 = 11) ∧ Ev d m1 [(2, 1)] S (fun r S1 => ∃ x, r = (0, x) ∧ (zK S1 485 = 12) ∧ Ev d m2 [(2, 485)] S1 (fun r S3 => ∃ y, r = (0, y) ∧ (x = y → A S3) ∧ (¬ (x = y) → B S3))) := by
  unfold TW at h
  refine ⟨k1, ev_mono h (fun r S1 h1 => ?_)⟩
  obtain ⟨x, e, mi, e2⟩ := h1
  have l : zL S1 (-2) = zL S (-2) := mi.2.2.2.1
  have g : ∀ j, zG S1 (-2) j = zG S (-2) j := mi.2.2.1
  refine ⟨x, e, mi.2.1, ?_⟩
  skip
  exact ev_mono e2 (fun r' S2 h2 => ⟨x, h2.1, fun _ => hA S2 (mid_tr mi h2.2.1) h2.2.2, fun w => absurd rfl w⟩)
theorem law1 {d m1 m2 : Nat} {i : Int} {S : Hp} {A : Hp → Prop} {B : Hp → Prop} (k1 : zK S 1 = 11) (hb : ∀ j, 1 ≤ j → j ≤ 5 → 0 ≤ w32 (i + j) ∧ w32 (i + j) < zL S (-2)) (h : TW d m1 m2 [(0, zG S (-2) (w32 (i + 1)))] S 485) (hA : ∀ S3, MID S S3 485 → Rel S3 485 → A S3) : ((-2 : Int) = -2 ∧ 0 ≤ w32 (i + 1) ∧ w32 (i + 1) < zL S (-2)) ∧ (zK S 1 = 11) ∧ Ev d m1 [(2, 1), (0, zG S (-2) (w32 (i + 1)))] S (fun r S1 => ∃ x, r = (0, x) ∧ ((-2 : Int) = -2 ∧ 0 ≤ w32 (i + 1) ∧ w32 (i + 1) < zL S1 (-2)) ∧ (zK S1 485 = 12) ∧ Ev d m2 [(2, 485), (0, zG S1 (-2) (w32 (i + 1)))] S1 (fun r S3 => ∃ y, r = (0, y) ∧ (x = y → A S3) ∧ (¬ (x = y) → B S3))) := by
  unfold TW at h
  refine ⟨⟨rfl, hb 1 (by omega) (by omega)⟩, k1, ev_mono h (fun r S1 h1 => ?_)⟩
  obtain ⟨x, e, mi, e2⟩ := h1
  have l : zL S1 (-2) = zL S (-2) := mi.2.2.2.1
  have g : ∀ j, zG S1 (-2) j = zG S (-2) j := mi.2.2.1
  refine ⟨x, e, ⟨rfl, (hb 1 (by omega) (by omega)).1, by rw [l]; exact (hb 1 (by omega) (by omega)).2⟩, mi.2.1, ?_⟩
  rw [g]
  exact ev_mono e2 (fun r' S2 h2 => ⟨x, h2.1, fun _ => hA S2 (mid_tr mi h2.2.1) h2.2.2, fun w => absurd rfl w⟩)
theorem law2 {d m1 m2 : Nat} {i : Int} {S : Hp} {A : Hp → Prop} {B : Hp → Prop} (k1 : zK S 1 = 11) (hb : ∀ j, 1 ≤ j → j ≤ 5 → 0 ≤ w32 (i + j) ∧ w32 (i + j) < zL S (-2)) (h : TW d m1 m2 [(0, zG S (-2) (w32 (i + 1))), (0, zG S (-2) (w32 (i + 2)))] S 485) (hA : ∀ S3, MID S S3 485 → Rel S3 485 → A S3) : ((-2 : Int) = -2 ∧ 0 ≤ w32 (i + 1) ∧ w32 (i + 1) < zL S (-2)) ∧ ((-2 : Int) = -2 ∧ 0 ≤ w32 (i + 2) ∧ w32 (i + 2) < zL S (-2)) ∧ (zK S 1 = 11) ∧ Ev d m1 [(2, 1), (0, zG S (-2) (w32 (i + 1))), (0, zG S (-2) (w32 (i + 2)))] S (fun r S1 => ∃ x, r = (0, x) ∧ ((-2 : Int) = -2 ∧ 0 ≤ w32 (i + 1) ∧ w32 (i + 1) < zL S1 (-2)) ∧ ((-2 : Int) = -2 ∧ 0 ≤ w32 (i + 2) ∧ w32 (i + 2) < zL S1 (-2)) ∧ (zK S1 485 = 12) ∧ Ev d m2 [(2, 485), (0, zG S1 (-2) (w32 (i + 1))), (0, zG S1 (-2) (w32 (i + 2)))] S1 (fun r S3 => ∃ y, r = (0, y) ∧ (x = y → A S3) ∧ (¬ (x = y) → B S3))) := by
  unfold TW at h
  refine ⟨⟨rfl, hb 1 (by omega) (by omega)⟩, ⟨rfl, hb 2 (by omega) (by omega)⟩, k1, ev_mono h (fun r S1 h1 => ?_)⟩
  obtain ⟨x, e, mi, e2⟩ := h1
  have l : zL S1 (-2) = zL S (-2) := mi.2.2.2.1
  have g : ∀ j, zG S1 (-2) j = zG S (-2) j := mi.2.2.1
  refine ⟨x, e, ⟨rfl, (hb 1 (by omega) (by omega)).1, by rw [l]; exact (hb 1 (by omega) (by omega)).2⟩, ⟨rfl, (hb 2 (by omega) (by omega)).1, by rw [l]; exact (hb 2 (by omega) (by omega)).2⟩, mi.2.1, ?_⟩
  rw [g, g]
  exact ev_mono e2 (fun r' S2 h2 => ⟨x, h2.1, fun _ => hA S2 (mid_tr mi h2.2.1) h2.2.2, fun w => absurd rfl w⟩)
theorem law3 {d m1 m2 : Nat} {i : Int} {S : Hp} {A : Hp → Prop} {B : Hp → Prop} (k1 : zK S 1 = 11) (hb : ∀ j, 1 ≤ j → j ≤ 5 → 0 ≤ w32 (i + j) ∧ w32 (i + j) < zL S (-2)) (h : TW d m1 m2 [(0, zG S (-2) (w32 (i + 1))), (0, zG S (-2) (w32 (i + 2))), (0, zG S (-2) (w32 (i + 3)))] S 485) (hA : ∀ S3, MID S S3 485 → Rel S3 485 → A S3) : ((-2 : Int) = -2 ∧ 0 ≤ w32 (i + 1) ∧ w32 (i + 1) < zL S (-2)) ∧ ((-2 : Int) = -2 ∧ 0 ≤ w32 (i + 2) ∧ w32 (i + 2) < zL S (-2)) ∧ ((-2 : Int) = -2 ∧ 0 ≤ w32 (i + 3) ∧ w32 (i + 3) < zL S (-2)) ∧ (zK S 1 = 11) ∧ Ev d m1 [(2, 1), (0, zG S (-2) (w32 (i + 1))), (0, zG S (-2) (w32 (i + 2))), (0, zG S (-2) (w32 (i + 3)))] S (fun r S1 => ∃ x, r = (0, x) ∧ ((-2 : Int) = -2 ∧ 0 ≤ w32 (i + 1) ∧ w32 (i + 1) < zL S1 (-2)) ∧ ((-2 : Int) = -2 ∧ 0 ≤ w32 (i + 2) ∧ w32 (i + 2) < zL S1 (-2)) ∧ ((-2 : Int) = -2 ∧ 0 ≤ w32 (i + 3) ∧ w32 (i + 3) < zL S1 (-2)) ∧ (zK S1 485 = 12) ∧ Ev d m2 [(2, 485), (0, zG S1 (-2) (w32 (i + 1))), (0, zG S1 (-2) (w32 (i + 2))), (0, zG S1 (-2) (w32 (i + 3)))] S1 (fun r S3 => ∃ y, r = (0, y) ∧ (x = y → A S3) ∧ (¬ (x = y) → B S3))) := by
  unfold TW at h
  refine ⟨⟨rfl, hb 1 (by omega) (by omega)⟩, ⟨rfl, hb 2 (by omega) (by omega)⟩, ⟨rfl, hb 3 (by omega) (by omega)⟩, k1, ev_mono h (fun r S1 h1 => ?_)⟩
  obtain ⟨x, e, mi, e2⟩ := h1
  have l : zL S1 (-2) = zL S (-2) := mi.2.2.2.1
  have g : ∀ j, zG S1 (-2) j = zG S (-2) j := mi.2.2.1
  refine ⟨x, e, ⟨rfl, (hb 1 (by omega) (by omega)).1, by rw [l]; exact (hb 1 (by omega) (by omega)).2⟩, ⟨rfl, (hb 2 (by omega) (by omega)).1, by rw [l]; exact (hb 2 (by omega) (by omega)).2⟩, ⟨rfl, (hb 3 (by omega) (by omega)).1, by rw [l]; exact (hb 3 (by omega) (by omega)).2⟩, mi.2.1, ?_⟩
  rw [g, g, g]
  exact ev_mono e2 (fun r' S2 h2 => ⟨x, h2.1, fun _ => hA S2 (mid_tr mi h2.2.1) h2.2.2, fun w => absurd rfl w⟩)
theorem law4 {d m1 m2 : Nat} {i : Int} {S : Hp} {A : Hp → Prop} {B : Hp → Prop} (k1 : zK S 1 = 11) (hb : ∀ j, 1 ≤ j → j ≤ 5 → 0 ≤ w32 (i + j) ∧ w32 (i + j) < zL S (-2)) (h : TW d m1 m2 [(0, zG S (-2) (w32 (i + 1))), (0, zG S (-2) (w32 (i + 2))), (0, zG S (-2) (w32 (i + 3))), (0, zG S (-2) (w32 (i + 4)))] S 485) (hA : ∀ S3, MID S S3 485 → Rel S3 485 → A S3) : ((-2 : Int) = -2 ∧ 0 ≤ w32 (i + 1) ∧ w32 (i + 1) < zL S (-2)) ∧ ((-2 : Int) = -2 ∧ 0 ≤ w32 (i + 2) ∧ w32 (i + 2) < zL S (-2)) ∧ ((-2 : Int) = -2 ∧ 0 ≤ w32 (i + 3) ∧ w32 (i + 3) < zL S (-2)) ∧ ((-2 : Int) = -2 ∧ 0 ≤ w32 (i + 4) ∧ w32 (i + 4) < zL S (-2)) ∧ (zK S 1 = 11) ∧ Ev d m1 [(2, 1), (0, zG S (-2) (w32 (i + 1))), (0, zG S (-2) (w32 (i + 2))), (0, zG S (-2) (w32 (i + 3))), (0, zG S (-2) (w32 (i + 4)))] S (fun r S1 => ∃ x, r = (0, x) ∧ ((-2 : Int) = -2 ∧ 0 ≤ w32 (i + 1) ∧ w32 (i + 1) < zL S1 (-2)) ∧ ((-2 : Int) = -2 ∧ 0 ≤ w32 (i + 2) ∧ w32 (i + 2) < zL S1 (-2)) ∧ ((-2 : Int) = -2 ∧ 0 ≤ w32 (i + 3) ∧ w32 (i + 3) < zL S1 (-2)) ∧ ((-2 : Int) = -2 ∧ 0 ≤ w32 (i + 4) ∧ w32 (i + 4) < zL S1 (-2)) ∧ (zK S1 485 = 12) ∧ Ev d m2 [(2, 485), (0, zG S1 (-2) (w32 (i + 1))), (0, zG S1 (-2) (w32 (i + 2))), (0, zG S1 (-2) (w32 (i + 3))), (0, zG S1 (-2) (w32 (i + 4)))] S1 (fun r S3 => ∃ y, r = (0, y) ∧ (x = y → A S3) ∧ (¬ (x = y) → B S3))) := by
  unfold TW at h
  refine ⟨⟨rfl, hb 1 (by omega) (by omega)⟩, ⟨rfl, hb 2 (by omega) (by omega)⟩, ⟨rfl, hb 3 (by omega) (by omega)⟩, ⟨rfl, hb 4 (by omega) (by omega)⟩, k1, ev_mono h (fun r S1 h1 => ?_)⟩
  obtain ⟨x, e, mi, e2⟩ := h1
  have l : zL S1 (-2) = zL S (-2) := mi.2.2.2.1
  have g : ∀ j, zG S1 (-2) j = zG S (-2) j := mi.2.2.1
  refine ⟨x, e, ⟨rfl, (hb 1 (by omega) (by omega)).1, by rw [l]; exact (hb 1 (by omega) (by omega)).2⟩, ⟨rfl, (hb 2 (by omega) (by omega)).1, by rw [l]; exact (hb 2 (by omega) (by omega)).2⟩, ⟨rfl, (hb 3 (by omega) (by omega)).1, by rw [l]; exact (hb 3 (by omega) (by omega)).2⟩, ⟨rfl, (hb 4 (by omega) (by omega)).1, by rw [l]; exact (hb 4 (by omega) (by omega)).2⟩, mi.2.1, ?_⟩
  rw [g, g, g, g]
  exact ev_mono e2 (fun r' S2 h2 => ⟨x, h2.1, fun _ => hA S2 (mid_tr mi h2.2.1) h2.2.2, fun w => absurd rfl w⟩)
theorem law5 {d m1 m2 : Nat} {i : Int} {S : Hp} {A : Hp → Prop} {B : Hp → Prop} (k1 : zK S 1 = 11) (hb : ∀ j, 1 ≤ j → j ≤ 5 → 0 ≤ w32 (i + j) ∧ w32 (i + j) < zL S (-2)) (h : TW d m1 m2 [(0, zG S (-2) (w32 (i + 1))), (0, zG S (-2) (w32 (i + 2))), (0, zG S (-2) (w32 (i + 3))), (0, zG S (-2) (w32 (i + 4))), (0, zG S (-2) (w32 (i + 5)))] S 485) (hA : ∀ S3, MID S S3 485 → Rel S3 485 → A S3) : ((-2 : Int) = -2 ∧ 0 ≤ w32 (i + 1) ∧ w32 (i + 1) < zL S (-2)) ∧ ((-2 : Int) = -2 ∧ 0 ≤ w32 (i + 2) ∧ w32 (i + 2) < zL S (-2)) ∧ ((-2 : Int) = -2 ∧ 0 ≤ w32 (i + 3) ∧ w32 (i + 3) < zL S (-2)) ∧ ((-2 : Int) = -2 ∧ 0 ≤ w32 (i + 4) ∧ w32 (i + 4) < zL S (-2)) ∧ ((-2 : Int) = -2 ∧ 0 ≤ w32 (i + 5) ∧ w32 (i + 5) < zL S (-2)) ∧ (zK S 1 = 11) ∧ Ev d m1 [(2, 1), (0, zG S (-2) (w32 (i + 1))), (0, zG S (-2) (w32 (i + 2))), (0, zG S (-2) (w32 (i + 3))), (0, zG S (-2) (w32 (i + 4))), (0, zG S (-2) (w32 (i + 5)))] S (fun r S1 => ∃ x, r = (0, x) ∧ ((-2 : Int) = -2 ∧ 0 ≤ w32 (i + 1) ∧ w32 (i + 1) < zL S1 (-2)) ∧ ((-2 : Int) = -2 ∧ 0 ≤ w32 (i + 2) ∧ w32 (i + 2) < zL S1 (-2)) ∧ ((-2 : Int) = -2 ∧ 0 ≤ w32 (i + 3) ∧ w32 (i + 3) < zL S1 (-2)) ∧ ((-2 : Int) = -2 ∧ 0 ≤ w32 (i + 4) ∧ w32 (i + 4) < zL S1 (-2)) ∧ ((-2 : Int) = -2 ∧ 0 ≤ w32 (i + 5) ∧ w32 (i + 5) < zL S1 (-2)) ∧ (zK S1 485 = 12) ∧ Ev d m2 [(2, 485), (0, zG S1 (-2) (w32 (i + 1))), (0, zG S1 (-2) (w32 (i + 2))), (0, zG S1 (-2) (w32 (i + 3))), (0, zG S1 (-2) (w32 (i + 4))), (0, zG S1 (-2) (w32 (i + 5)))] S1 (fun r S3 => ∃ y, r = (0, y) ∧ (x = y → A S3) ∧ (¬ (x = y) → B S3))) := by
  unfold TW at h
  refine ⟨⟨rfl, hb 1 (by omega) (by omega)⟩, ⟨rfl, hb 2 (by omega) (by omega)⟩, ⟨rfl, hb 3 (by omega) (by omega)⟩, ⟨rfl, hb 4 (by omega) (by omega)⟩, ⟨rfl, hb 5 (by omega) (by omega)⟩, k1, ev_mono h (fun r S1 h1 => ?_)⟩
  obtain ⟨x, e, mi, e2⟩ := h1
  have l : zL S1 (-2) = zL S (-2) := mi.2.2.2.1
  have g : ∀ j, zG S1 (-2) j = zG S (-2) j := mi.2.2.1
  refine ⟨x, e, ⟨rfl, (hb 1 (by omega) (by omega)).1, by rw [l]; exact (hb 1 (by omega) (by omega)).2⟩, ⟨rfl, (hb 2 (by omega) (by omega)).1, by rw [l]; exact (hb 2 (by omega) (by omega)).2⟩, ⟨rfl, (hb 3 (by omega) (by omega)).1, by rw [l]; exact (hb 3 (by omega) (by omega)).2⟩, ⟨rfl, (hb 4 (by omega) (by omega)).1, by rw [l]; exact (hb 4 (by omega) (by omega)).2⟩, ⟨rfl, (hb 5 (by omega) (by omega)).1, by rw [l]; exact (hb 5 (by omega) (by omega)).2⟩, mi.2.1, ?_⟩
  rw [g, g, g, g, g]
  exact ev_mono e2 (fun r' S2 h2 => ⟨x, h2.1, fun _ => hA S2 (mid_tr mi h2.2.1) h2.2.2, fun w => absurd rfl w⟩)
theorem lawP {d : Nat} {i : Int} {S : Hp} {A : Hp → Prop} {B : Hp → Prop} (k1 : zK S 1 = 11) (hb : ∀ j, 1 ≤ j → j ≤ 5 → 0 ≤ w32 (i + j) ∧ w32 (i + j) < zL S (-2)) (h : TW d 134 276 [(0, zG S (-2) (w32 (i + 1))), (0, zG S (-2) (w32 (i + 2))), (1, lOr (lShl (zG S (-2) (w32 (i + 3))) 32) (lAnd (zG S (-2) (w32 (i + 4))) 4294967295))] S 485) (hA : ∀ S3, MID S S3 485 → Rel S3 485 → A S3) : ((-2 : Int) = -2 ∧ 0 ≤ w32 (i + 1) ∧ w32 (i + 1) < zL S (-2)) ∧ ((-2 : Int) = -2 ∧ 0 ≤ w32 (i + 2) ∧ w32 (i + 2) < zL S (-2)) ∧ ((-2 : Int) = -2 ∧ 0 ≤ w32 (i + 3) ∧ w32 (i + 3) < zL S (-2)) ∧ ((-2 : Int) = -2 ∧ 0 ≤ w32 (i + 4) ∧ w32 (i + 4) < zL S (-2)) ∧ (zK S 1 = 11) ∧ Ev d 134 [(2, 1), (0, zG S (-2) (w32 (i + 1))), (0, zG S (-2) (w32 (i + 2))), (1, lOr (lShl (zG S (-2) (w32 (i + 3))) 32) (lAnd (zG S (-2) (w32 (i + 4))) 4294967295))] S (fun r S1 => ∃ x, r = (0, x) ∧ ((-2 : Int) = -2 ∧ 0 ≤ w32 (i + 1) ∧ w32 (i + 1) < zL S1 (-2)) ∧ ((-2 : Int) = -2 ∧ 0 ≤ w32 (i + 2) ∧ w32 (i + 2) < zL S1 (-2)) ∧ ((-2 : Int) = -2 ∧ 0 ≤ w32 (i + 3) ∧ w32 (i + 3) < zL S1 (-2)) ∧ ((-2 : Int) = -2 ∧ 0 ≤ w32 (i + 4) ∧ w32 (i + 4) < zL S1 (-2)) ∧ (zK S1 485 = 12) ∧ Ev d 276 [(2, 485), (0, zG S1 (-2) (w32 (i + 1))), (0, zG S1 (-2) (w32 (i + 2))), (1, lOr (lShl (zG S1 (-2) (w32 (i + 3))) 32) (lAnd (zG S1 (-2) (w32 (i + 4))) 4294967295))] S1 (fun r S3 => ∃ y, r = (0, y) ∧ (x = y → A S3) ∧ (¬ (x = y) → B S3))) := by
  unfold TW at h
  refine ⟨⟨rfl, hb 1 (by omega) (by omega)⟩, ⟨rfl, hb 2 (by omega) (by omega)⟩, ⟨rfl, hb 3 (by omega) (by omega)⟩, ⟨rfl, hb 4 (by omega) (by omega)⟩, k1, ev_mono h (fun r S1 h1 => ?_)⟩
  obtain ⟨x, e, mi, e2⟩ := h1
  have l : zL S1 (-2) = zL S (-2) := mi.2.2.2.1
  have g : ∀ j, zG S1 (-2) j = zG S (-2) j := mi.2.2.1
  refine ⟨x, e, ⟨rfl, (hb 1 (by omega) (by omega)).1, by rw [l]; exact (hb 1 (by omega) (by omega)).2⟩, ⟨rfl, (hb 2 (by omega) (by omega)).1, by rw [l]; exact (hb 2 (by omega) (by omega)).2⟩, ⟨rfl, (hb 3 (by omega) (by omega)).1, by rw [l]; exact (hb 3 (by omega) (by omega)).2⟩, ⟨rfl, (hb 4 (by omega) (by omega)).1, by rw [l]; exact (hb 4 (by omega) (by omega)).2⟩, mi.2.1, ?_⟩
  rw [g, g, g, g]
  exact ev_mono e2 (fun r' S2 h2 => ⟨x, h2.1, fun _ => hA S2 (mid_tr mi h2.2.1) h2.2.2, fun w => absurd rfl w⟩)
/-- the flag alone was taken down -/
theorem rel_zU {S : Hp} {D : Int} (R : Rel S D) : Rel (zU S) D := R
