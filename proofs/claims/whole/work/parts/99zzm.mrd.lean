/-! The class's reader takes words; the model's reader: rows. -/
def usF (w i : Int) : Int := bAnd (bUsh w (8 * i)) 255
theorem s_append {d : Nat} {R n m w : Int} {S : Hp} {Q : Vl → Hp → Prop} (h : RDW S R) (h1 : zG S R 1 = n) (hn : 0 ≤ n ∧ n ≤ 100) (hm : 0 ≤ m ∧ m ≤ 4) (H0 : 100 < n + m → Q (0, 0) S) (H1 : n + m ≤ 100 → ∀ S', Md (fun x => x = R ∨ x = R + 1) S S' → RDW S' R → (∀ i, i ≠ 1 → zG S' R i = zG S R i) → zG S' R 1 = n + m → (∀ i, zG S' (R + 1) i = if n ≤ i ∧ i < n + m then usF w (i - n) else zG S (R + 1) i) → Q (0, 1) S') : Ev d 82 [(2, R), (0, m), (0, w)] S Q := by
  have hB := h.2.2.2.2.2.1
  apply w_Reader_append_0
  rw [h1, w32_id (x := n + m) (by omega) (by omega)]
  refine ⟨h.1, fun q => ?_, fun q => ⟨by unfold in01; omega, H0 (by omega)⟩⟩
  refine loopU (P := fun e S' => At d 82 c82_15 [(0, (2, R)), (1, (0, m)), (2, (0, w)), (3, (0, e))] [] S' Q) (I := fun e S' => 0 ≤ e ∧ Md (fun x => x = R + 1) S S' ∧ ∀ i, zG S' (R + 1) i = if n ≤ i ∧ i < n + e then usF w (i - n) else zG S (R + 1) i) m ?_ ?_ 0 S (by omega) ⟨by omega, Md.refl _ _, fun i => by rw [if_neg (by omega)]⟩
  · rintro e S1 he ⟨e0, m1, v1⟩ hk
    have w1 : RDW S1 R := h.keep m1 (fun i _ => m1.G (by omega) i) (by omega)
    apply w_Reader_append_15
    rw [(m1.G (a := R) (by omega) 1).trans h1, w1.2.1, w1.2.2.2.2.2.1.1, w1.2.2.2.2.2.1.2, w32_id (x := n + e) (by omega) (by omega), w32_id (x := 8 * e) (by omega) (by omega)]
    refine ⟨fun z => by omega, fun _ => ⟨w1.1, w1.1, ⟨rfl, by omega, by omega⟩, ?_⟩⟩
    rintro _ rfl _ rfl
    rw [w32_id (by omega) (by omega)]
    refine hk _ ⟨by omega, m1.tr (Md.zS _ _ _ _), fun i => ?_⟩
    rw [zG_zS]
    by_cases z : i = n + e
    · rw [if_pos ⟨rfl, z⟩, if_pos (by omega), z, show n + e - n = e by omega]
      rfl
    · rw [if_neg (fun y => z y.2), v1 i]
      by_cases z' : n ≤ i ∧ i < n + e
      · rw [if_pos z', if_pos (by omega)]
      · rw [if_neg z', if_neg (by omega)]
  · rintro S1 ⟨-, m1, v1⟩
    have w1 : RDW S1 R := h.keep m1 (fun i _ => m1.G (by omega) i) (by omega)
    apply w_Reader_append_15
    rw [(m1.G (a := R) (by omega) 1).trans h1, w32_id (x := n + m) (by omega) (by omega)]
    refine ⟨fun _ => ⟨w1.1, w1.1, ?_⟩, fun z => absurd (Int.le_refl m) z⟩
    rintro _ rfl
    refine ⟨by unfold in01; omega, H1 q _ ((m1.wide (fun x hx => Or.inr hx)).tr ((Md.zS _ _ _ _).wide (fun x hx => Or.inl hx))) (w1.keep (Md.zS _ _ _ _) (fun i _ => zG_zS_ne _ (Or.inr (by omega))) (by omega)) (fun i hi => ?_) (zG_zS_at _ _ _ _) (fun i => ?_)⟩
    · rw [zG_zS_ne _ (Or.inr hi)]
      exact m1.G (by omega) i
    · rw [zG_zS_ne _ (Or.inl (by omega))]
      exact v1 i
theorem m_begins {d : Nat} {D l : Int} {S : Hp} {Q : Vl → Hp → Prop} (h : DW S D) (h27 : zG S D 27 = l) (hl : 0 ≤ l ∧ l ≤ 4) (H : ∀ S', Md (fun x => x = D + 14 ∨ x = D + 16 ∨ x = D + 17) S S' → (∀ x, zG S' (D + 14) x = if 49 * l ≤ x ∧ x < 49 * l + 49 then 0 else zG S (D + 14) x) → (∀ x, zG S' (D + 16) x = if x = l then 0 else zG S (D + 16) x) → (∀ x, zG S' (D + 17) x = if x = l then -1 else zG S (D + 17) x) → Q (3, 0) S') : Ev d 176 [(2, D)] S Q := by
  apply w_Model_begins_0
  refine loopU (P := fun e S' => At d 176 c176_2 [(0, (2, D)), (1, (0, e))] [] S' Q) (I := fun e S' => 0 ≤ e ∧ Md (fun x => x = D + 14) S S' ∧ ∀ x, zG S' (D + 14) x = if 49 * l ≤ x ∧ x < 49 * l + e then 0 else zG S (D + 14) x) 49 ?_ ?_ 0 S (by omega) ⟨by omega, Md.refl _ _, fun i => by rw [if_neg (by omega)]⟩
  · rintro e S1 he ⟨e0, m1, v1⟩ hk
    have w1 : DW S1 D := h.md m1 (by omega)
    apply w_Model_begins_2
    rw [(m1.G (a := D) (by omega) 27).trans h27, w1.x_sums.1, w1.x_sums.2.1, w1.x_sums.2.2, w32_id (x := 49 * l) (by omega) (by omega), w32_id (x := 49 * l + e) (by omega) (by omega)]
    refine ⟨fun z => by omega, fun _ => ⟨w1.1, w1.1, ⟨rfl, by omega, by omega⟩, ?_⟩⟩
    rintro _ rfl _ rfl
    rw [w32_id (by omega) (by omega)]
    refine hk _ ⟨by omega, m1.tr (Md.zS _ _ _ _), fun i => ?_⟩
    rw [zG_zS]
    by_cases z : i = 49 * l + e
    · rw [if_pos ⟨rfl, z⟩, if_pos (by omega)]
    · rw [if_neg (fun y => z y.2), v1 i]
      by_cases z' : 49 * l ≤ i ∧ i < 49 * l + e
      · rw [if_pos z', if_pos (by omega)]
      · rw [if_neg z', if_neg (by omega)]
  · rintro S1 ⟨-, m1, v1⟩
    have w1 : DW S1 D := h.md m1 (by omega)
    apply w_Model_begins_2
    rw [(m1.G (a := D) (by omega) 27).trans h27, w1.x_less.1, w1.x_less.2.1, w1.x_less.2.2]
    refine ⟨fun _ => ⟨w1.1, w1.1, ⟨rfl, by omega, by omega, by unfold in01; omega⟩, ?_⟩, fun z => absurd (Int.le_refl 49) z⟩
    rintro _ rfl
    have w2 : DW (zS S1 (D + 16) l 0) D := w1.zSr (by omega)
    rw [zG_zS_ne _ (Or.inl (by omega)), zG_zS_ne _ (Or.inl (by omega)), (m1.G (a := D) (by omega) 27).trans h27, w1.x_timesAt.1, w2.x_timesAt.2.1, w2.x_timesAt.2.2]
    refine ⟨w2.1, w2.1, ⟨rfl, by omega, by omega⟩, ?_⟩
    rintro _ rfl
    refine H _ (((m1.wide (fun x hx => by omega)).tr ((Md.zS _ _ _ _).wide (fun x hx => by omega))).tr ((Md.zS _ _ _ _).wide (fun x hx => by omega))) (fun x => ?_) (fun x => ?_) (fun x => ?_)
    · rw [zG_zS_ne _ (Or.inl (by omega)), zG_zS_ne _ (Or.inl (by omega))]
      exact v1 x
    · rw [zG_zS_ne _ (Or.inl (by omega)), zG_zS, m1.G (by omega)]
      by_cases z : x = l
      · rw [if_pos ⟨rfl, z⟩, if_pos z]
      · rw [if_neg (fun y => z y.2), if_neg z]
    · rw [zG_zS, zG_zS_ne _ (Or.inl (by omega)), m1.G (by omega)]
      by_cases z : x = l
      · rw [if_pos ⟨rfl, z⟩, if_pos z]
      · rw [if_neg (fun y => z y.2), if_neg z]
