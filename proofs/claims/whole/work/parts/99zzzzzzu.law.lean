/-! The law. -/
theorem lOr_b (a b : Int) : -9223372036854775808 ≤ lOr a b ∧ lOr a b < 9223372036854775808 := by
  unfold lOr
  exact ⟨Int64.le_toInt _, Int64.toInt_lt _⟩
/-- what stands between two calls -/
def LWI (L : Int) (xs : Nat → Int32) (k : Int) (c : Int × Int) (S : Hp) : Prop := 0 ≤ k ∧ Rel S 485 ∧ zK S 1 = 11 ∧ zK S 485 = 12 ∧ (zK S 530 = 102 ∧ zL S 530 = 1) ∧ zL S (-2) = L ∧ (∀ j, zG S (-2) j = (xs j.toNat).toInt) ∧ (c.1 ≤ 1483 + 4 * k ∧ c.2 ≤ 200000 + 60 * k)
set_option maxHeartbeats 4000000 in
theorem law_step {L k : Int} {xs : Nat → Int32} {b0 b1 : Int} {S : Hp} {Q : Vl → Hp → Prop} (hL : 0 ≤ L ∧ L ≤ 3072) (hk : k < L / 6) (h : LWI L xs k (b0, b1) S) (next : ∀ c S', LWI L xs (k + 1) c S' → At (599 + 1) 291 c291_23 [(0, (2, -2)), (1, (2, 1)), (2, (2, 485)), (3, (2, 530)), (4, (0, 6 * (k + 1))), (1000, (0, c.1)), (1001, (0, c.2)), (1002, (0, 603072)), (1003, (0, 7088234))] [] S' Q) : At (599 + 1) 291 c291_23 [(0, (2, -2)), (1, (2, 1)), (2, (2, 485)), (3, (2, 530)), (4, (0, 6 * k)), (1000, (0, b0)), (1001, (0, b1)), (1002, (0, 603072)), (1003, (0, 7088234))] [] S Q := by
  obtain ⟨k0, R, k1, k2, kX, hl, hg, hc⟩ := h
  have hc0 : b0 ≤ 1483 + 4 * k := hc.1
  have hc1 : b1 ≤ 200000 + 60 * k := hc.2
  have w : ∀ j : Int, 0 ≤ j → j ≤ 6 → w32 (6 * k + j) = 6 * k + j := fun j j0 j1 => w32_id (by omega) (by omega)
  have hb : ∀ j, 1 ≤ j → j ≤ 5 → 0 ≤ w32 (6 * k + j) ∧ w32 (6 * k + j) < zL S (-2) := fun j j0 j1 => by
    rw [w j (by omega) (by omega), hl]
    omega
  have i32 : ∀ j, -2147483648 ≤ zG S (-2) j ∧ zG S (-2) j < 2147483648 := fun j => by
    rw [hg]
    exact ⟨Int32.le_toInt _, Int32.toInt_lt _⟩
  have go : ∀ S3 c0 c1, MID S S3 485 → Rel S3 485 → c0 ≤ 1483 + 4 * (k + 1) → c1 ≤ 200000 + 60 * (k + 1) → At (599 + 1) 291 c291_1974 [(0, (2, -2)), (1, (2, 1)), (2, (2, 485)), (3, (2, 530)), (4, (0, 6 * k)), (1000, (0, c0)), (1001, (0, c1)), (1002, (0, 603072)), (1003, (0, 7088234))] [] S3 Q := fun S3 c0 c1 mi R3 x0 x1 => by
    obtain ⟨m1, m2, m3, m4, m5, m6⟩ := mi
    apply w_Law_law_1974
    rintro _ rfl
    rw [w 6 (by omega) (by omega), show 6 * k + 6 = 6 * (k + 1) by omega]
    exact next (c0, c1) S3 ⟨by omega, R3, m1, m2, ⟨m5.trans kX.1, m6.trans kX.2⟩, m4.trans hl, fun j => (m3 j).trans (hg j), x0, x1⟩
  apply w_Law_law_23
  rw [hl, w32_id (x := L - 6) (by omega) (by omega)]
  refine ⟨rfl, fun z => by omega, fun _ => ⟨⟨rfl, by omega, by omega⟩, ?_⟩⟩
  rw [← hl]
  refine ⟨fun _ => law1 k1 hb (r_field (d := 579) (by omega) R) (fun S3 mi R3 => go S3 b0 b1 mi R3 (by omega) (by omega)), fun _ => law1 k1 hb (r_inverse (d := 579) (i32 _) R) (fun S3 mi R3 => go S3 b0 b1 mi R3 (by omega) (by omega)), fun _ => law2 k1 hb (r_feed (d := 579) (by omega) R) (fun S3 mi R3 => go S3 b0 b1 mi R3 (by omega) (by omega)), fun _ => law0 k1 hb (r_wipe (d := 579) (by omega) R) (fun S3 mi R3 => go S3 b0 b1 mi R3 (by omega) (by omega)), fun _ => law0 k1 hb (r_curve (d := 559) (by omega) R) (fun S3 mi R3 => go S3 b0 b1 mi R3 (by omega) (by omega)), fun _ => law2 k1 hb (r_draw (d := 559) (by omega) R) (fun S3 mi R3 => go S3 b0 b1 mi R3 (by omega) (by omega)), fun _ => law2 k1 hb (r_front (d := 579) R) (fun S3 mi R3 => go S3 b0 b1 mi R3 (by omega) (by omega)), fun _ => law1 k1 hb (r_disc (d := 579) R) (fun S3 mi R3 => go S3 b0 b1 mi R3 (by omega) (by omega)), fun _ => law1 k1 hb (r_order (d := 579) (by omega) R) (fun S3 mi R3 => go S3 b0 b1 mi R3 (by omega) (by omega)), fun _ => law2 k1 hb (r_multiplicity (d := 579) (by omega) R) (fun S3 mi R3 => go S3 b0 b1 mi R3 (by omega) (by omega)), fun _ => law1 k1 hb (r_singular (d := 579) (by omega) R) (fun S3 mi R3 => go S3 b0 b1 mi R3 (by omega) (by omega)), fun _ => law1 k1 hb (r_last (d := 579) (by omega) R) (fun S3 mi R3 => go S3 b0 b1 mi R3 (by omega) (by omega)), fun _ => law0 k1 hb (r_open (d := 579) (by omega) R) (fun S3 mi R3 => go S3 b0 b1 mi R3 (by omega) (by omega)), fun _ => law3 k1 hb (r_depth (d := 579) (by omega) R) (fun S3 mi R3 => go S3 b0 b1 mi R3 (by omega) (by omega)), fun _ => law5 k1 hb (r_digit (d := 579) (by omega) R) (fun S3 mi R3 => go S3 b0 b1 mi R3 (by omega) (by omega)), fun _ => law2 k1 hb (r_lost (d := 579) (by omega) R) (fun S3 mi R3 => go S3 b0 b1 mi R3 (by omega) (by omega)), fun _ => law3 k1 hb (r_classes (d := 579) (by omega) R) (fun S3 mi R3 => go S3 b0 b1 mi R3 (by omega) (by omega)), fun _ => law5 k1 hb (r_table (d := 579) (i32 _).2 (by omega) R) (fun S3 mi R3 => go S3 b0 b1 mi R3 (by omega) (by omega)), fun _ => law2 k1 hb (r_branches (d := 579) (by omega) R) (fun S3 mi R3 => go S3 b0 b1 mi R3 (by omega) (by omega)), fun _ => law2 k1 hb (r_conductor (d := 579) (by omega) R) (fun S3 mi R3 => go S3 b0 b1 mi R3 (by omega) (by omega)), fun _ => law1 k1 hb (r_genus (d := 579) (by omega) R) (fun S3 mi R3 => go S3 b0 b1 mi R3 (by omega) (by omega)), fun _ => law1 k1 hb (r_element (d := 559) (by omega) R) (fun S3 mi R3 => go S3 b0 b1 mi R3 (by omega) (by omega)), fun _ => law4 k1 hb (r_basis (d := 579) (by omega) R) (fun S3 mi R3 => go S3 b0 b1 mi R3 (by omega) (by omega)), fun _ => law3 k1 hb (r_over (d := 579) (by omega) R) (fun S3 mi R3 => go S3 b0 b1 mi R3 (by omega) (by omega)), fun _ => law3 k1 hb (r_plus (d := 579) (by omega) R) (fun S3 mi R3 => go S3 b0 b1 mi R3 (by omega) (by omega)), fun _ => law3 k1 hb (r_times (d := 579) (by omega) R) (fun S3 mi R3 => go S3 b0 b1 mi R3 (by omega) (by omega)), fun _ => law3 k1 hb (r_at (d := 579) R) (fun S3 mi R3 => go S3 b0 b1 mi R3 (by omega) (by omega)), fun _ => law2 k1 hb (r_as (d := 579) R) (fun S3 mi R3 => go S3 b0 b1 mi R3 (by omega) (by omega)), fun _ => law1 k1 hb (r_place (d := 579) R) (fun S3 mi R3 => go S3 b0 b1 mi R3 (by omega) (by omega)), fun _ => law1 k1 hb (r_whole (d := 579) (by omega) R) (fun S3 mi R3 => go S3 b0 b1 mi R3 (by omega) (by omega)), fun _ => law3 k1 hb (r_equation (d := 579) (by omega) R) (fun S3 mi R3 => go S3 b0 b1 mi R3 (by omega) (by omega)), fun _ => law1 k1 hb (r_lies (d := 579) (by omega) R) (fun S3 mi R3 => go S3 b0 b1 mi R3 (by omega) (by omega)), fun _ => ?_, fun _ => law1 k1 hb (r_note (d := 579) (by omega) R) (fun S3 mi R3 => go S3 b0 b1 mi R3 (by omega) (by omega)), fun _ => law1 k1 hb (r_find (d := 579) R) (fun S3 mi R3 => go S3 b0 b1 mi R3 (by omega) (by omega)), fun _ => law2 k1 hb (r_copyOut (d := 579) (by omega) R) (fun S3 mi R3 => go S3 b0 b1 mi R3 (by omega) (by omega)), fun _ => law3 k1 hb (r_row (d := 579) (by omega) R) (fun S3 mi R3 => go S3 b0 b1 mi R3 (by omega) (by omega)), fun _ => lawP k1 hb (r_put (d := 579) (by omega) (lOr_b _ _) R) (fun S3 mi R3 => go S3 b0 b1 mi R3 (by omega) (by omega)), fun _ => ?_, fun _ => law5 k1 hb (r_copy (d := 579) (by omega) (i32 _) (i32 _) R) (fun S3 mi R3 => go S3 b0 b1 mi R3 (by omega) (by omega)), fun _ => law2 k1 hb (r_loads (d := 579) (by omega) R) (fun S3 mi R3 => go S3 b0 b1 mi R3 (by omega) (by omega)), fun _ => law2 k1 hb (r_spills (d := 579) (by omega) R) (fun S3 mi R3 => go S3 b0 b1 mi R3 (by omega) (by omega)), fun _ => law1 k1 hb (r_clear (d := 579) (by omega) R) (fun S3 mi R3 => go S3 b0 b1 mi R3 (by omega) (by omega)), fun _ => law0 k1 hb (r_image (d := 579) (by omega) R) (fun S3 mi R3 => go S3 b0 b1 mi R3 (by omega) (by omega)), fun _ => law0 k1 hb (r_back (d := 579) (by omega) R) (fun S3 mi R3 => go S3 b0 b1 mi R3 (by omega) (by omega)), fun _ => law1 k1 hb (r_count (d := 579) R) (fun S3 mi R3 => go S3 b0 b1 mi R3 (by omega) (by omega)), fun _ => go S b0 b1 (mid_md (D := 485) (Md.refl (fun _ => False) S) k1 k2 (fun z => z)) R (by omega) (by omega)⟩
  · obtain ⟨t, y, hC, hR⟩ := x_weigh (s := zG S (-2) (w32 (6 * k + 1))) (w := zG S (-2) (w32 (6 * k + 2))) R
    refine lawX (t := t) (y := y) R k1 k2 kX (by omega) hb (hC 579) (fun T o => hR 579 T o) (fun S3 mi R3 => ?_)
    apply w_Law_law_1464
    exact go S3 (b0 + 4) (b1 + 60) mi R3 (by omega) (by omega)
  · obtain ⟨t, y, hC, hR⟩ := x_get (s := zG S (-2) (w32 (6 * k + 1))) (i := zG S (-2) (w32 (6 * k + 2))) R
    refine lawX (t := t) (y := y) R k1 k2 kX (by omega) hb (hC 579) (fun T o => hR 579 T o) (fun S3 mi R3 => ?_)
    apply w_Law_law_1748
    exact go S3 (b0 + 4) (b1 + 60) mi R3 (by omega) (by omega)
theorem zLaw_ok : zLaw := by
  intro L xs hL
  have N0 : zN (zH0 L xs) = 1 := rfl
  have T0 : zT (zH0 L xs) = 1 := rfl
  apply w_Law_law_0 (d := 599)
  refine ⟨⟨by omega, T0⟩, ?_⟩
  rintro _ rfl
  obtain ⟨a1, a2, a3⟩ := zA_new (zH0 L xs) 11 1 N0 T0
  rw [N0]
  refine ⟨⟨by omega, a1⟩, s_crcNew (d := 594) a1 a2 a3 (fun S2 m2 n2 t2 cn => ⟨rfl, ?_⟩)⟩
  rintro _ rfl
  refine ⟨⟨by omega, t2⟩, ?_⟩
  rintro _ rfl
  obtain ⟨b1, b2, b3⟩ := zA_new S2 12 485 n2 t2
  have z12 := zG_zA S2 12 0
  have M4 := Mg.zA S2 12 0
  rw [n2] at z12 ⊢
  refine ⟨⟨by omega, b1⟩, s_modelNew (by omega) b1 (by omega) b3 z12 (fun S5 m5 rw5 => ⟨rfl, ?_⟩)⟩
  rintro _ rfl
  have N5 : zN S5 = 530 := rw5.1.trans (by omega)
  refine ⟨⟨by omega, rw5.2.2.1, by omega, by omega⟩, ?_⟩
  rintro _ rfl
  rintro _ rfl
  have M7 := Mg.zA S5 102 1
  have k7 := zK_zA S5 102 1
  have l7 := zL_zA S5 102 1
  rw [N5] at k7 l7 ⊢
  have mA : Mg (fun x => 485 ≤ x) S2 (zA S5 102 1) := by
    refine Mg.tr (M' := fun x => x = 485) (M := fun x => 485 ≤ x) M4.none (Mg.tr (M' := fun _ => False) m5 M7 (fun b _ z => absurd z (fun z => z))) (fun b _ z => by omega)
  have R := rel_start cn n2 mA rw5 M7
  have s2 : ∀ x, x < 1 → zK (zA S5 102 1) x = zK (zH0 L xs) x ∧ zL (zA S5 102 1) x = zL (zH0 L xs) x ∧ ∀ j, zG (zA S5 102 1) x j = zG (zH0 L xs) x j := fun x hx => by
    have M0 := Mg.zA (zH0 L xs) 11 0
    refine ⟨?_, ?_, fun j => ?_⟩
    · rw [mA.K (by omega), m2.K (by omega), M0.K (by omega)]
    · rw [mA.L (by omega), m2.L (by omega), M0.L (by omega)]
    · rw [mA.G (by omega) (by omega), m2.G (by omega) (by omega), M0.G (by omega) (fun z => z)]
  have k1 : zK (zA S5 102 1) 1 = 11 := by
    rw [mA.K (by omega)]
    exact cn.1.1
  have k2 : zK (zA S5 102 1) 485 = 12 := by
    rw [M7.K (by omega)]
    exact rw5.2.1
  generalize zA S5 102 1 = S7 at R s2 k1 k2 k7 l7 ⊢
  refine loopU2 (α := Int × Int) (β := Hp) (P := fun k c S' => At (599 + 1) 291 c291_23 [(0, (2, -2)), (1, (2, 1)), (2, (2, 485)), (3, (2, 530)), (4, (0, 6 * k)), (1000, (0, c.1)), (1001, (0, c.2)), (1002, (0, 603072)), (1003, (0, 7088234))] [] S' (fun r _ => r = (0, 1))) (I := fun k c S' => LWI L xs k c S') ((L : Int) / 6) ?_ ?_ 0 ((((((0 : Int) + 1) + 1400) + 1) + 80) + 1, (((((0 : Int) + 16) + 120000) + 66) + 30000) + 1) S7 (by omega) ⟨by omega, R, k1, k2, ⟨k7, l7⟩, ?_, fun j => ?_, by (try dsimp only); omega, by (try dsimp only); omega⟩
  · rintro k ⟨c0, c1⟩ S' hk h next
    exact law_step (L := L) (by omega) hk h (fun c S' h' => next c S' h')
  · rintro ⟨c0, c1⟩ S' h
    apply w_Law_law_23
    rw [h.2.2.2.2.2.1, w32_id (x := (L : Int) - 6) (by omega) (by omega)]
    exact ⟨rfl, fun _ => ⟨Or.inr rfl, rfl⟩, fun z => absurd (by omega) z⟩
  · exact ((s2 (-2) (by omega)).2.1).trans (zH0_L L xs)
  · exact ((s2 (-2) (by omega)).2.2 j).trans (zH0_G L xs j)
