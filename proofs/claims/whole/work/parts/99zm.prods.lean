/-! The model: products of the basis; classes as numbers. -/
def flF (fig : Int → Int → Int → Int) (i : Int) : Int → Int := fun a => fig i (a / 21) (a % 21)
def mbL (p n : Int) (C : Int → Int → Int) (fig : Int → Int → Int → Int) (i j : Int) : Int → Int → Int := lwN p n C (2 * n - 2) (n - 1).toNat (mbF p (flF fig i) (flF fig j))
def pwI (p : Int) : Nat → Int
  | 0 => 1
  | k + 1 => pwI p k * p
theorem pwI_bd {p : Int} (h2 : 2 ≤ p ∧ p ≤ 7) : ∀ (k : Nat), k ≤ 4 → 1 ≤ pwI p k ∧ pwI p k ≤ 2401
  | 0, _ => ⟨show (1 : Int) ≤ 1 by decide, show (1 : Int) ≤ 2401 by decide⟩
  | 1, _ => by show 1 ≤ 1 * p ∧ 1 * p ≤ 2401; omega
  | 2, _ => by
    have : p = 2 ∨ p = 3 ∨ p = 4 ∨ p = 5 ∨ p = 6 ∨ p = 7 := by omega
    rcases this with rfl | rfl | rfl | rfl | rfl | rfl <;> decide
  | 3, _ => by
    have : p = 2 ∨ p = 3 ∨ p = 4 ∨ p = 5 ∨ p = 6 ∨ p = 7 := by omega
    rcases this with rfl | rfl | rfl | rfl | rfl | rfl <;> decide
  | 4, _ => by
    have : p = 2 ∨ p = 3 ∨ p = 4 ∨ p = 5 ∨ p = 6 ∨ p = 7 := by omega
    rcases this with rfl | rfl | rfl | rfl | rfl | rfl <;> decide
  | k + 5, h => by omega
set_option maxHeartbeats 1000000 in
theorem m_findsProducts {d : Nat} {D p n k : Int} {S : Hp} {fig : Int → Int → Int → Int} {dp : Int → Int} {C : Int → Int → Int} {Q : Vl → Hp → Prop} (h : DW S D) (hp : zG S D 0 = p) (h2 : 2 ≤ p ∧ p ≤ 7) (hN : zG S D 1 = n) (hn : 2 ≤ n ∧ n ≤ 4) (hk : 0 ≤ k ∧ k < 20) (hd : DG S D k n p fig dp) (hr : RDC n fig dp) (hC : ∀ k, 0 ≤ k → k < 7 * n → zG S (D + 31) k = C (k / 7) (k % 7)) (bC : ∀ j e, 0 ≤ C j e ∧ C j e < p) (sC : ∀ j e, (e < 0 ∨ 6 < e) → C j e = 0) (zC : ∀ j e, n ≤ j → C j e = 0) (hok : ∀ i j, 0 ≤ i → i < n → 0 ≤ j → j < n → okE p n dp fig (mbL p n C fig i j)) (H : ∀ S', Md (fun x => x = D ∨ (D + 34 ≤ x ∧ x ≤ D + 37)) S S' → DW S' D → (∀ i, i ≠ 53 → zG S' D i = zG S D i) → zG S' D 53 = pwI p n.toNat → (∀ i j l, 0 ≤ i → i < n → 0 ≤ j → j < n → 0 ≤ l → l < n → zG S' (D + 36) (16 * i + 4 * j + l) = shN p n dp fig (mbL p n C fig i j) l 0 ∧ zG S' (D + 37) (16 * i + 4 * j + l) = shN p n dp fig (mbL p n C fig i j) l 1) → Q (3, 0) S') : Ev (d + 3) 217 [(2, D), (0, k)] S Q := by
  apply w_Model_findsProducts_0
  refine loopU (P := fun i S' => At (d + 3) 217 c217_2 [(0, (2, D)), (1, (0, k)), (2, (0, i))] [] S' Q) (I := fun i S' => 0 ≤ i ∧ Md (fun x => D + 34 ≤ x ∧ x ≤ D + 37) S S' ∧ ∀ a j l, 0 ≤ a → a < i → 0 ≤ j → j < n → 0 ≤ l → l < n → zG S' (D + 36) (16 * a + 4 * j + l) = shN p n dp fig (mbL p n C fig a j) l 0 ∧ zG S' (D + 37) (16 * a + 4 * j + l) = shN p n dp fig (mbL p n C fig a j) l 1) n ?_ ?_ 0 S (by omega) ⟨by omega, Md.refl _ _, fun a j l a0 a1 => by omega⟩
  · rintro i S1 hi ⟨i0, m1, v1⟩ hk1
    apply w_Model_findsProducts_2
    rw [(m1.G (a := D) (by omega) 1).trans hN]
    refine ⟨by rw [m1.K]; exact h.1, fun hc => by omega, fun _ => ?_⟩
    refine loopU (P := fun j S' => At (d + 3) 217 c217_12 [(0, (2, D)), (1, (0, k)), (2, (0, i)), (3, (0, j))] [] S' Q) (I := fun j S' => 0 ≤ j ∧ Md (fun x => D + 34 ≤ x ∧ x ≤ D + 37) S S' ∧ ∀ a b l, 0 ≤ a → 0 ≤ b → b < n → (a < i ∨ a = i ∧ b < j) → 0 ≤ l → l < n → zG S' (D + 36) (16 * a + 4 * b + l) = shN p n dp fig (mbL p n C fig a b) l 0 ∧ zG S' (D + 37) (16 * a + 4 * b + l) = shN p n dp fig (mbL p n C fig a b) l 1) n ?_ ?_ 0 S1 (by omega) ⟨by omega, m1, fun a b l a0 b0 b1 ab l0 l1 => v1 a b l a0 (by omega) b0 b1 l0 l1⟩
    · rintro j S2 hj ⟨j0, m2, v2⟩ hk2
      have w2 : DW S2 D := h.md m2 (by omega)
      have p2 : zG S2 D 0 = p := (m2.G (by omega) 0).trans hp
      have n2 : zG S2 D 1 = n := (m2.G (by omega) 1).trans hN
      have d2 := hd.keep m2 (by omega) (by omega)
      have fl : ∀ i, 0 ≤ i → i < n → ∀ a, 0 ≤ a → a < 84 → zG S2 (D + 32) (84 * (4 * k + i) + a) = flF fig i a ∧ 0 ≤ flF fig i a ∧ flF fig i a < p := fun i i0 i1 a a0 a1 => by
        have := d2.1 i (a / 21) (a % 21) i0 i1 (by omega) (by omega) (by omega) (by omega)
        rw [show 84 * (4 * k + i) + 21 * (a / 21) + a % 21 = 84 * (4 * k + i) + a by omega] at this
        exact this
      apply w_Model_findsProducts_12
      rw [n2]
      refine ⟨w2.1, fun hc => by omega, fun _ => ⟨w2.1, ?_⟩⟩
      refine m_multipliesBasis (F := flF fig i) (G := flF fig j) w2 p2 h2 n2 hn hk (by omega) (by omega) (fl i i0 hi) (fl j j0 hj) (fun k k0 k1 => (m2.G (by omega) k).trans (hC k k0 k1)) bC sC zC (fun S3 m3 b3 => ⟨rfl, ?_⟩)
      have w3 : DW S3 D := w2.md m3 (by omega)
      refine ⟨w3.1, m_isIn (Sp := mbL p n C fig i j) w3 ((m3.G (by omega) 0).trans p2) h2 ((m3.G (by omega) 1).trans n2) hn hk (d2.keep m3 (by omega) (by omega)) hr b3 (fun a x a0 a1 hx => ?_) (fun hb => absurd (hok i j i0 hi j0 hj) hb) (fun _ S4 m4 c4 => ⟨_, rfl, ?_⟩)⟩
      · exact lwN_deg (D := 40) sC (by omega) (fun b x hx => mbF_deg b x (Or.inr hx)) _ a x (by omega)
      · have M4 : Md (fun x => D + 34 ≤ x ∧ x ≤ D + 37) S2 S4 := (m3.wide (fun x hx => by omega)).tr (m4.wide (fun x hx => by omega))
        have w4 : DW S4 D := w2.md M4 (by omega)
        have v4 : ∀ a b l, 0 ≤ a → 0 ≤ b → b < n → (a < i ∨ a = i ∧ b < j) → 0 ≤ l → l < n → zG S4 (D + 36) (16 * a + 4 * b + l) = shN p n dp fig (mbL p n C fig a b) l 0 ∧ zG S4 (D + 37) (16 * a + 4 * b + l) = shN p n dp fig (mbL p n C fig a b) l 1 := fun a b l a0 b0 b1 ab l0 l1 => by
          rw [m4.G (by omega), m3.G (by omega), m4.G (by omega), m3.G (by omega)]
          exact v2 a b l a0 b0 b1 ab l0 l1
        have n4 : zG S4 D 1 = n := (M4.G (by omega) 1).trans n2
        refine loopU (P := fun l S' => At (d + 3) 217 c217_36 [(0, (2, D)), (1, (0, k)), (2, (0, i)), (3, (0, j)), (4, (0, l))] [] S' Q) (I := fun l S' => 0 ≤ l ∧ Md (fun x => x = D + 36 ∨ x = D + 37) S4 S' ∧ (∀ a b c, 0 ≤ a → 0 ≤ b → b < n → (a < i ∨ a = i ∧ b < j) → 0 ≤ c → c < n → zG S' (D + 36) (16 * a + 4 * b + c) = shN p n dp fig (mbL p n C fig a b) c 0 ∧ zG S' (D + 37) (16 * a + 4 * b + c) = shN p n dp fig (mbL p n C fig a b) c 1) ∧ ∀ c, 0 ≤ c → c < l → zG S' (D + 36) (16 * i + 4 * j + c) = shN p n dp fig (mbL p n C fig i j) c 0 ∧ zG S' (D + 37) (16 * i + 4 * j + c) = shN p n dp fig (mbL p n C fig i j) c 1) n ?_ ?_ 0 S4 (by omega) ⟨by omega, Md.refl _ _, v4, fun c c0 c1 => by omega⟩
        · rintro l S5 hl ⟨l0, m5, v5, u5⟩ hk3
          have w5 : DW S5 D := w4.md m5 (by omega)
          have c0' := c4.2.2.1 l 0 l0 (by omega) (by omega) (by omega)
          have c1' := c4.2.2.1 l 1 l0 (by omega) (by omega) (by omega)
          rw [show 96 * l + 0 = 96 * l by omega] at c0'
          apply w_Model_findsProducts_36
          rw [(m5.G (a := D) (by omega) 1).trans n4, w5.x_coord.1, w5.x_coord.2.1, w5.x_coord.2.2, w5.x_first.1, w5.x_first.2.1, w5.x_first.2.2, w32_id (x := 96 * l) (by omega) (by omega), w32_id (x := 16 * i) (by omega) (by omega), w32_id (x := 4 * j) (by omega) (by omega), w32_id (x := 16 * i + 4 * j) (by omega) (by omega), w32_id (x := 16 * i + 4 * j + l) (by omega) (by omega), m5.G (a := D + 35) (by omega), c0', w32_id (x := 96 * l + 1) (by omega) (by omega)]
          refine ⟨w5.1, fun hc => by omega, fun _ => ⟨w5.1, w5.1, ⟨rfl, by omega, by omega⟩, ⟨rfl, by omega, by omega⟩, ?_⟩⟩
          rintro _ rfl
          have w6 : DW (zS S5 (D + 36) (16 * i + 4 * j + l) (shN p n dp fig (mbL p n C fig i j) l 0)) D := w5.zSr (by omega)
          rw [w6.x_coord.1, w6.x_coord.2.1, w6.x_coord.2.2, w6.x_second.1, w6.x_second.2.1, w6.x_second.2.2, zG_zS_ne _ (Or.inl (by omega)), m5.G (a := D + 35) (by omega), c1']
          refine ⟨w6.1, w6.1, ⟨rfl, by omega, by omega⟩, ⟨rfl, by omega, by omega⟩, ?_⟩
          rintro _ rfl _ rfl
          rw [w32_id (by omega) (by omega)]
          refine hk3 _ ⟨by omega, (m5.tr ((Md.zS _ _ _ _).wide (fun x hx => Or.inl hx))).tr ((Md.zS _ _ _ _).wide (fun x hx => Or.inr hx)), fun a b c a0 b0 b1 ab c0 c1 => ?_, fun c c0 c1 => ?_⟩
          · rw [zG_zS_ne _ (Or.inl (by omega)), zG_zS_ne _ (Or.inr (by omega)), zG_zS_ne _ (Or.inr (by omega)), zG_zS_ne _ (Or.inl (by omega))]
            exact v5 a b c a0 b0 b1 ab c0 c1
          · by_cases q : c = l
            · rw [q, zG_zS_ne _ (Or.inl (by omega)), zG_zS_at, zG_zS_at]
              exact ⟨rfl, rfl⟩
            · rw [zG_zS_ne _ (Or.inl (by omega)), zG_zS_ne _ (Or.inr (by omega)), zG_zS_ne _ (Or.inr (by omega)), zG_zS_ne _ (Or.inl (by omega))]
              exact u5 c c0 (by omega)
        · rintro S5 ⟨-, m5, v5, u5⟩
          apply w_Model_findsProducts_36
          rw [(m5.G (a := D) (by omega) 1).trans n4]
          refine ⟨by rw [m5.K]; exact w4.1, fun _ => ?_, fun hc => absurd (Int.le_refl n) hc⟩
          rintro _ rfl
          rw [w32_id (by omega) (by omega)]
          refine hk2 _ ⟨by omega, (m2.tr M4).tr (m5.wide (fun x hx => by omega)), fun a b l a0 b0 b1 ab l0 l1 => ?_⟩
          by_cases q : a = i ∧ b = j
          · rw [q.1, q.2]
            exact u5 l l0 l1
          · exact v5 a b l a0 b0 b1 (by omega) l0 l1
    · rintro S2 ⟨-, m2, v2⟩
      apply w_Model_findsProducts_12
      rw [(m2.G (a := D) (by omega) 1).trans hN]
      refine ⟨by rw [m2.K]; exact h.1, fun _ => ?_, fun hc => absurd (Int.le_refl n) hc⟩
      rintro _ rfl
      rw [w32_id (by omega) (by omega)]
      exact hk1 _ ⟨by omega, m2, fun a j l a0 a1 j0 j1 l0 l1 => v2 a j l a0 j0 j1 (by omega) l0 l1⟩
  · rintro S1 ⟨-, m1, v1⟩
    have w1 : DW S1 D := h.md m1 (by omega)
    apply w_Model_findsProducts_2
    rw [(m1.G (a := D) (by omega) 1).trans hN]
    refine ⟨w1.1, fun _ => ⟨w1.1, ?_⟩, fun hc => absurd (Int.le_refl n) hc⟩
    rintro _ rfl
    refine loopU (P := fun i S' => At (d + 3) 217 c217_124 [(0, (2, D)), (2, (0, i))] [] S' Q) (I := fun i S' => 0 ≤ i ∧ S' = zS S1 D 53 (pwI p i.toNat)) n ?_ ?_ 0 _ (by omega) ⟨by omega, rfl⟩
    · rintro i _ hi ⟨i0, rfl⟩ hk1
      have b := pwI_bd h2 (i + 1).toNat (by omega)
      have e : pwI p (i + 1).toNat = pwI p i.toNat * p := by
        rw [show (i + 1).toNat = i.toNat + 1 by omega]
        rfl
      apply w_Model_findsProducts_124
      rw [zG_zS_ne _ (Or.inr (show (1 : Int) ≠ 53 by omega)), (m1.G (a := D) (by omega) 1).trans hN, zG_zS_at, zG_zS_ne _ (Or.inr (show (0 : Int) ≠ 53 by omega)), (m1.G (a := D) (by omega) 0).trans hp, ← e, w32_id (x := pwI p (i + 1).toNat) (by omega) (by omega)]
      refine ⟨w1.1, fun hc => by omega, fun _ => ⟨w1.1, w1.1, w1.1, ?_⟩⟩
      rintro _ rfl _ rfl
      rw [w32_id (by omega) (by omega), zS_zS]
      exact hk1 _ ⟨by omega, rfl⟩
    · rintro _ ⟨-, rfl⟩
      apply w_Model_findsProducts_124
      rw [zG_zS_ne _ (Or.inr (show (1 : Int) ≠ 53 by omega)), (m1.G (a := D) (by omega) 1).trans hN]
      refine ⟨w1.1, fun _ => H _ ((m1.wide (fun x hx => Or.inr hx)).tr ((Md.zS _ _ _ _).wide (fun x hx => Or.inl hx))) (w1.sc (by decide)) (fun i hi => ?_) (zG_zS_at _ _ _ _) (fun i j l i0 i1 j0 j1 l0 l1 => ?_), fun hc => absurd (Int.le_refl n) hc⟩
      · rw [zG_zS_ne _ (Or.inr hi), m1.G (by omega)]
      · rw [zG_zS_ne _ (Or.inl (by omega)), zG_zS_ne _ (Or.inl (by omega))]
        exact v1 i j l i0 i1 j0 j1 l0 l1
