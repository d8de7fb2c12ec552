/-! The model: copyOut, back. -/
theorem m_copyOut {d : Nat} {D n k s : Int} {S : Hp} {Q : Vl → Hp → Prop} (h : DW S D) (hN : zG S D 1 = n) (hB : 0 ≤ zG S D 16 ∧ zG S D 16 ≤ 7) (H0 : n = 0 → Q (0, -2) S) (H1 : n ≠ 0 → ¬ ((0 ≤ k ∧ k < zG S D 16) ∧ 0 ≤ s ∧ s < 6) → Q (0, -1) S) (H2 : n ≠ 0 → (0 ≤ k ∧ k < zG S D 16) ∧ 0 ≤ s ∧ s < 6 → ∀ S', Md (fun x => x = D + 3 ∨ x = D + 4 ∨ x = D + 5 ∨ x = D + 6) S S' → DW S' D → (∀ i, i ≠ s → zG S' (D + 3) i = zG S (D + 3) i ∧ zG S' (D + 5) i = zG S (D + 5) i ∧ zG S' (D + 6) i = zG S (D + 6) i) → zG S' (D + 3) s = 1 → zG S' (D + 5) s = zG S (D + 11) k → zG S' (D + 6) s = zG S (D + 12) k → (∀ x, zG S' (D + 4) x = if 124 * s ≤ x ∧ x < 124 * s + 124 then zG S (D + 10) (124 * k + (x - 124 * s)) else zG S (D + 4) x) → Q (0, zG S (D + 11) k) S') : Ev (d + 2) 273 [(2, D), (0, k), (0, s)] S Q := by
  have e1 : w32 (zG S D 16 - 1) = zG S D 16 - 1 := w32_id (by omega) (by omega)
  apply w_Model_copyOut_0
  rw [hN, e1]
  refine ⟨h.1, fun n0 => ⟨h.1, m_in ⟨_, rfl, fun hz => H1 n0 (fun z => i0 hz (by omega)), fun hz1 => m_isShelf ⟨_, rfl, fun hz2 => ?_, fun hz => H1 n0 (fun z => i2 hz z.2)⟩⟩⟩, fun n0 => H0 (by omega)⟩
  have hk := i1 hz1
  have hs := i1 hz2
  have H2 := H2 n0 ⟨by omega, hs⟩
  clear H0 H1
  have k7 : 0 ≤ k ∧ k < 7 := by omega
  clear hk hB hz1 hz2 e1
  refine loopU (P := fun i S' => At (d + 2) 273 c273_35 [(0, (2, D)), (1, (0, k)), (2, (0, s)), (3, (0, i))] [] S' Q) (I := fun i S' => 0 ≤ i ∧ Md (fun x => x = D + 4) S S' ∧ ∀ x, zG S' (D + 4) x = if 124 * s ≤ x ∧ x < 124 * s + i then zG S (D + 10) (124 * k + (x - 124 * s)) else zG S (D + 4) x) 124 ?_ ?_ 0 S (by omega) ⟨by omega, Md.refl _ _, fun x => by rw [if_neg (by omega)]⟩
  · rintro i S1 hi ⟨i0', m1, v1⟩ hnx
    have w1 : DW S1 D := h.md m1 (by omega)
    apply w_Model_copyOut_35
    rw [w1.x_parts.1, w1.x_parts.2.1, w1.x_parts.2.2, w1.x_bookParts.1, w1.x_bookParts.2.1, w1.x_bookParts.2.2, w32_id (x := 124 * k) (by omega) (by omega), w32_id (x := 124 * s) (by omega) (by omega), w32_id (x := 124 * k + i) (by omega) (by omega), w32_id (x := 124 * s + i) (by omega) (by omega), m1.G (a := D + 10) (by omega)]
    refine ⟨fun hc => by omega, fun _ => ⟨w1.1, w1.1, ⟨rfl, by omega, by omega⟩, ⟨rfl, by omega, by omega⟩, ?_⟩⟩
    rintro _ rfl _ rfl
    rw [w32_id (by omega) (by omega)]
    refine hnx _ ⟨by omega, m1.tr (Md.zS _ _ _ _), fun x => ?_⟩
    by_cases q : x = 124 * s + i
    · rw [q, zG_zS_at, if_pos (by omega), show 124 * s + i - 124 * s = i by omega]
    · rw [zG_zS_ne _ (Or.inr q), v1 x]
      by_cases q2 : 124 * s ≤ x ∧ x < 124 * s + i
      · rw [if_pos q2, if_pos (by omega)]
      · rw [if_neg q2, if_neg (by omega)]
  · rintro S1 ⟨-, m1, v1⟩
    have w1 : DW S1 D := h.md m1 (by omega)
    apply w_Model_copyOut_35
    rw [w1.x_under.1, w1.x_under.2.1, w1.x_under.2.2, w1.x_bookUnder.1, w1.x_bookUnder.2.1, w1.x_bookUnder.2.2, m1.G (a := D + 11) (by omega)]
    refine ⟨fun _ => ⟨w1.1, w1.1, ⟨rfl, by omega, by omega⟩, ⟨rfl, by omega, by omega⟩, ?_⟩, fun hc => absurd (Int.le_refl 124) hc⟩
    rintro _ rfl
    have w2 : DW (zS S1 (D + 5) s (zG S (D + 11) k)) D := w1.zSr (by omega)
    rw [w2.x_places.1, w2.x_places.2.1, w2.x_places.2.2, w2.x_bookPlaces.1, w2.x_bookPlaces.2.1, w2.x_bookPlaces.2.2, zG_zS_ne _ (Or.inl (by omega)), m1.G (a := D + 12) (by omega)]
    refine ⟨w2.1, w2.1, ⟨rfl, by omega, by omega⟩, ⟨rfl, by omega, by omega⟩, ?_⟩
    rintro _ rfl
    have w3 : DW (zS (zS S1 (D + 5) s (zG S (D + 11) k)) (D + 6) s (zG S (D + 12) k)) D := w2.zSr (by omega)
    rw [w3.x_holds.1, w3.x_holds.2.1, w3.x_holds.2.2]
    refine ⟨w3.1, ⟨rfl, by omega, by omega⟩, ?_⟩
    rintro _ rfl
    have w4 : DW (zS (zS (zS S1 (D + 5) s (zG S (D + 11) k)) (D + 6) s (zG S (D + 12) k)) (D + 3) s 1) D := w3.zSr (by omega)
    have e5 : zG (zS (zS (zS S1 (D + 5) s (zG S (D + 11) k)) (D + 6) s (zG S (D + 12) k)) (D + 3) s 1) (D + 5) s = zG S (D + 11) k := by
      rw [zG_zS_ne _ (Or.inl (by omega)), zG_zS_ne _ (Or.inl (by omega)), zG_zS_at]
    rw [w4.x_under.1, w4.x_under.2.1, w4.x_under.2.2, e5]
    refine ⟨w4.1, ⟨rfl, by omega, by omega⟩, H2 _ ?_ w4 (fun i hi => ⟨?_, ?_, ?_⟩) (zG_zS_at _ _ _ _) e5 ?_ (fun x => ?_)⟩
    · refine (m1.wide ?_).tr (((Md.zS _ _ _ _).wide ?_).tr (((Md.zS _ _ _ _).wide ?_).tr ((Md.zS _ _ _ _).wide ?_))) <;> intro x hx <;> omega
    · rw [zG_zS_ne _ (Or.inr hi), zG_zS_ne _ (Or.inl (by omega)), zG_zS_ne _ (Or.inl (by omega)), m1.G (by omega)]
    · rw [zG_zS_ne _ (Or.inl (by omega)), zG_zS_ne _ (Or.inl (by omega)), zG_zS_ne _ (Or.inr hi), m1.G (by omega)]
    · rw [zG_zS_ne _ (Or.inl (by omega)), zG_zS_ne _ (Or.inr hi), zG_zS_ne _ (Or.inl (by omega)), m1.G (by omega)]
    · rw [zG_zS_ne _ (Or.inl (by omega)), zG_zS_at]
    · rw [zG_zS_ne _ (Or.inl (by omega)), zG_zS_ne _ (Or.inl (by omega)), zG_zS_ne _ (Or.inl (by omega))]
      exact v1 x
theorem m_back {d : Nat} {D : Int} {S : Hp} {Q : Vl → Hp → Prop} (h : DW S D) (H0 : zG S D 61 = 0 → Q (0, -3) S) (H1 : zG S D 61 ≠ 0 → ∀ S', Md (fun x => x = D ∨ x = D + 1 ∨ x = D + 2 ∨ x = D + 3) S S' → DW S' D → (∀ i, i ≠ 0 → i ≠ 1 → i ≠ 2 → i ≠ 16 → i ≠ 48 → zG S' D i = zG S D i) → zG S' D 0 = zG S D 61 → zG S' D 1 = zG S D 62 → zG S' D 2 = zG S D 63 → zG S' D 16 = 0 → zG S' D 48 = -1 → (∀ e, 0 ≤ e → e < 49 → zG S' (D + 1) e = zG S (D + 43) e) → (∀ e, 0 ≤ e → e < 200 → zG S' (D + 2) e = zG S (D + 44) e) → (∀ i, zG S' (D + 3) i = fgH (zG S (D + 3)) i) → Q (0, zG S D 61) S') : Ev (d + 1) 283 [(2, D)] S Q := by
  apply w_Model_back_0
  refine ⟨h.1, fun n0 => ⟨h.1, h.1, ?_⟩, fun n0 => H0 (Decidable.not_not.mp n0)⟩
  have H1 := H1 n0
  rintro _ rfl
  refine ⟨h.1, h.1, ?_⟩
  rintro _ rfl
  refine ⟨h.1, h.1, ?_⟩
  rintro _ rfl
  rw [zG_zS_ne S (show D ≠ D ∨ (62 : Int) ≠ 0 by omega), zG_zS_ne _ (show D ≠ D ∨ (63 : Int) ≠ 1 by omega), zG_zS_ne S (show D ≠ D ∨ (63 : Int) ≠ 0 by omega)]
  have m1 : Md (fun x => x = D) S (zS (zS (zS S D 0 (zG S D 61)) D 1 (zG S D 62)) D 2 (zG S D 63)) := ((Md.zS _ _ _ _).tr (Md.zS _ _ _ _)).tr (Md.zS _ _ _ _)
  have w1 : DW (zS (zS (zS S D 0 (zG S D 61)) D 1 (zG S D 62)) D 2 (zG S D 63)) D := ((h.sc (by decide)).sc (by decide)).sc (by decide)
  have o1 : ∀ i, i ≠ 0 → i ≠ 1 → i ≠ 2 → zG (zS (zS (zS S D 0 (zG S D 61)) D 1 (zG S D 62)) D 2 (zG S D 63)) D i = zG S D i := fun i i1 i2 i3 => by
    rw [zG_zS_ne _ (Or.inr i3), zG_zS_ne _ (Or.inr i2), zG_zS_ne _ (Or.inr i1)]
  have e1 : zG (zS (zS (zS S D 0 (zG S D 61)) D 1 (zG S D 62)) D 2 (zG S D 63)) D 0 = zG S D 61 := by
    rw [zG_zS_ne _ (Or.inr (by omega)), zG_zS_ne _ (Or.inr (by omega)), zG_zS_at]
  have e2 : zG (zS (zS (zS S D 0 (zG S D 61)) D 1 (zG S D 62)) D 2 (zG S D 63)) D 1 = zG S D 62 := by
    rw [zG_zS_ne _ (Or.inr (by omega)), zG_zS_at]
  have e3 : zG (zS (zS (zS S D 0 (zG S D 61)) D 1 (zG S D 62)) D 2 (zG S D 63)) D 2 = zG S D 63 := zG_zS_at _ _ _ _
  generalize zS (zS (zS S D 0 (zG S D 61)) D 1 (zG S D 62)) D 2 (zG S D 63) = S1 at *
  refine loopU (P := fun k S' => At (d + 1) 283 c283_36 [(0, (2, D)), (1, (0, k))] [] S' Q) (I := fun k S' => 0 ≤ k ∧ Md (fun x => x = D + 1) S1 S' ∧ ∀ e, 0 ≤ e → e < k → zG S' (D + 1) e = zG S (D + 43) e) 49 ?_ ?_ 0 S1 (by omega) ⟨by omega, Md.refl _ _, fun e e0 e1 => by omega⟩
  · rintro k S2 hk ⟨k0, m2, v2⟩ hnx
    have w2 : DW S2 D := w1.md m2 (by omega)
    apply w_Model_back_36
    rw [w2.x_f.1, w2.x_f.2.1, w2.x_f.2.2, w2.x_keptF.1, w2.x_keptF.2.1, w2.x_keptF.2.2, m2.G (a := D + 43) (by omega), m1.G (a := D + 43) (by omega)]
    refine ⟨fun hc => by omega, fun _ => ⟨w2.1, w2.1, ⟨rfl, by omega, by omega⟩, ⟨rfl, by omega, by omega⟩, ?_⟩⟩
    rintro _ rfl _ rfl
    rw [w32_id (by omega) (by omega)]
    refine hnx _ ⟨by omega, m2.tr (Md.zS _ _ _ _), fun e e0 e1 => ?_⟩
    by_cases q : e = k
    · rw [q, zG_zS_at]
    · rw [zG_zS_ne _ (Or.inr q)]
      exact v2 e e0 (by omega)
  · rintro S2 ⟨-, m2, v2⟩
    have w2 : DW S2 D := w1.md m2 (by omega)
    apply w_Model_back_36
    refine ⟨fun _ => ?_, fun hc => absurd (Int.le_refl 49) hc⟩
    refine loopU (P := fun k S' => At (d + 1) 283 c283_62 [(0, (2, D)), (1, (0, k))] [] S' Q) (I := fun k S' => 0 ≤ k ∧ Md (fun x => x = D + 2) S2 S' ∧ ∀ e, 0 ≤ e → e < k → zG S' (D + 2) e = zG S (D + 44) e) 200 ?_ ?_ 0 S2 (by omega) ⟨by omega, Md.refl _ _, fun e e0 e1 => by omega⟩
    · rintro k S3 hk ⟨k0, m3, v3⟩ hnx
      have w3 : DW S3 D := w2.md m3 (by omega)
      apply w_Model_back_62
      rw [w3.x_disc.1, w3.x_disc.2.1, w3.x_disc.2.2, w3.x_keptDisc.1, w3.x_keptDisc.2.1, w3.x_keptDisc.2.2, m3.G (a := D + 44) (by omega), m2.G (a := D + 44) (by omega), m1.G (a := D + 44) (by omega)]
      refine ⟨fun hc => by omega, fun _ => ⟨w3.1, w3.1, ⟨rfl, by omega, by omega⟩, ⟨rfl, by omega, by omega⟩, ?_⟩⟩
      rintro _ rfl _ rfl
      rw [w32_id (by omega) (by omega)]
      refine hnx _ ⟨by omega, m3.tr (Md.zS _ _ _ _), fun e e0 e1 => ?_⟩
      by_cases q : e = k
      · rw [q, zG_zS_at]
      · rw [zG_zS_ne _ (Or.inr q)]
        exact v3 e e0 (by omega)
    · rintro S3 ⟨-, m3, v3⟩
      have w3 : DW S3 D := w2.md m3 (by omega)
      have o3 : ∀ i, zG S3 D i = zG S1 D i := fun i => by rw [m3.G (by omega), m2.G (by omega)]
      have h3 : zG S3 (D + 3) = zG S (D + 3) := funext fun i => by rw [m3.G (by omega), m2.G (by omega), m1.G (by omega)]
      apply w_Model_back_62
      refine ⟨fun _ => ⟨w3.1, m_forgets w3 ⟨rfl, w3.1, ?_⟩⟩, fun hc => absurd (Int.le_refl 200) hc⟩
      rw [h3]
      have ee : ∀ i, i ≠ 16 → i ≠ 48 → zG (zS (zS (zR S3 (D + 3) (fgH (zG S (D + 3)))) D 16 0) D 48 (-1)) D i = zG S1 D i := fun i i1 i2 => by
        rw [zG_zS_ne _ (Or.inr i2), zG_zS_ne _ (Or.inr i1), zG_zR_ne _ (by omega), o3]
      rw [ee 0 (by omega) (by omega), e1]
      refine H1 _ ?_ (((w3.zR (by omega)).sc (by decide)).sc (by decide)) (fun i i0 i1 i2 i3 i4 => (ee i i3 i4).trans (o1 i i0 i1 i2)) ((ee 0 (by omega) (by omega)).trans e1) ((ee 1 (by omega) (by omega)).trans e2) ((ee 2 (by omega) (by omega)).trans e3) ?_ (zG_zS_at _ _ _ _) (fun e e0 e1 => ?_) (fun e e0 e1 => ?_) (fun i => ?_)
      · refine (m1.wide ?_).tr ((m2.wide ?_).tr ((m3.wide ?_).tr (((Md.zR _ _ _).wide ?_).tr (((Md.zS _ _ _ _).wide ?_).tr ((Md.zS _ _ _ _).wide ?_))))) <;> intro x hx <;> omega
      · rw [zG_zS_ne _ (Or.inr (by omega)), zG_zS_at]
      · rw [zG_zS_ne _ (Or.inl (by omega)), zG_zS_ne _ (Or.inl (by omega)), zG_zR_ne _ (by omega), m3.G (by omega)]
        exact v2 e e0 e1
      · rw [zG_zS_ne _ (Or.inl (by omega)), zG_zS_ne _ (Or.inl (by omega)), zG_zR_ne _ (by omega)]
        exact v3 e e0 e1
      · rw [zG_zS_ne _ (Or.inl (by omega)), zG_zS_ne _ (Or.inl (by omega)), zG_zR_at]
