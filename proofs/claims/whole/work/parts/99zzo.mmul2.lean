/-! The model's reader: a product. -/
theorem m_mulLoops {d : Nat} {D p h : Int} {S : Hp} {A B : Int → Int} {Q : Vl → Hp → Prop} (h2 : 2 ≤ p ∧ p ≤ 7) (w : DW S D) (hp : zG S D 0 = p) (h28 : zG S D 28 = h) (hA : ∀ x, 0 ≤ x → x < 49 → zG S (D + 18) x = A x ∧ 0 ≤ A x ∧ A x < p) (hB : ∀ x, 0 ≤ x → x < 49 → zG S (D + 19) x = B x ∧ 0 ≤ B x ∧ B x < p) (nh : h < 0 → nHi A B) (H : ∀ S', Md (fun x => x = D + 18 ∨ x = D + 20) S S' → (∀ x, 0 ≤ x → x < 49 → (0 ≤ zG S' (D + 18) x ∧ zG S' (D + 18) x < p) ∧ (h < 0 → zG S' (D + 18) x = acc p A B 2401 x)) → Q (3, 0) S') : At (d + 1) 179 c179_59 [(0, (2, D))] [] S Q := by
  -- the end: what stands in the result comes to the power
  have fin : ∀ S1, Md (fun x => x = D + 20) S S1 → (∀ x, 0 ≤ x → x < 49 → (0 ≤ zG S1 (D + 20) x ∧ zG S1 (D + 20) x < p) ∧ (h < 0 → zG S1 (D + 20) x = acc p A B 2401 x)) → At (d + 1) 179 c179_168 [(0, (2, D))] [] S1 Q := fun S1 m1 v1 => by
    apply w_Model_multiplies_168
    refine loopU (P := fun e S' => At (d + 1) 179 c179_170 [(0, (2, D)), (2, (0, e))] [] S' Q) (I := fun e S' => 0 ≤ e ∧ Md (fun x => x = D + 18) S1 S' ∧ ∀ x, 0 ≤ x → x < e → zG S' (D + 18) x = zG S1 (D + 20) x) 49 ?_ ?_ 0 S1 (by omega) ⟨by omega, Md.refl _ _, fun x a b => by omega⟩
    · rintro e S2 he ⟨e0, m2, v2⟩ hk
      have w2 : DW S2 D := (w.md m1 (by omega)).md m2 (by omega)
      apply w_Model_multiplies_170
      rw [w2.x_result.1, w2.x_result.2.1, w2.x_result.2.2, w2.x_power.1, w2.x_power.2.1, w2.x_power.2.2, m2.G (a := D + 20) (by omega)]
      refine ⟨fun z => by omega, fun _ => ⟨w2.1, w2.1, ⟨rfl, by omega, by omega⟩, ⟨rfl, by omega, by omega⟩, ?_⟩⟩
      rintro _ rfl _ rfl
      rw [w32_id (by omega) (by omega)]
      refine hk _ ⟨by omega, m2.tr (Md.zS _ _ _ _), fun x x0 x1 => ?_⟩
      rw [zG_zS]
      by_cases q : x = e
      · rw [if_pos ⟨rfl, q⟩, q]
      · rw [if_neg (fun z => q z.2)]
        exact v2 x x0 (by omega)
    · rintro S2 ⟨-, m2, v2⟩
      apply w_Model_multiplies_170
      refine ⟨fun _ => H S2 ((m1.wide (fun x hx => Or.inr hx)).tr (m2.wide (fun x hx => Or.inl hx))) (fun x x0 x1 => ?_), fun z => absurd (Int.le_refl 49) z⟩
      rw [v2 x x0 x1]
      exact v1 x x0 x1
  apply w_Model_multiplies_59
  refine loopU (P := fun e S' => At (d + 1) 179 c179_61 [(0, (2, D)), (2, (0, e))] [] S' Q) (I := fun e S' => 0 ≤ e ∧ Md (fun x => x = D + 20) S S' ∧ ∀ x, 0 ≤ x → x < e → zG S' (D + 20) x = 0) 49 ?_ ?_ 0 S (by omega) ⟨by omega, Md.refl _ _, fun x a b => by omega⟩
  · rintro e S1 he ⟨e0, m1, v1⟩ hk
    have w1 : DW S1 D := w.md m1 (by omega)
    apply w_Model_multiplies_61
    rw [w1.x_result.1, w1.x_result.2.1, w1.x_result.2.2]
    refine ⟨fun z => by omega, fun _ => ⟨w1.1, ⟨rfl, by omega, by omega⟩, ?_⟩⟩
    rintro _ rfl _ rfl
    rw [w32_id (by omega) (by omega)]
    refine hk _ ⟨by omega, m1.tr (Md.zS _ _ _ _), fun x x0 x1 => ?_⟩
    rw [zG_zS]
    split
    · rfl
    · exact v1 x x0 (by omega)
  · rintro S1 ⟨-, m1, v1⟩
    apply w_Model_multiplies_61
    refine ⟨fun _ => ?_, fun z => absurd (Int.le_refl 49) z⟩
    by_cases hh : 0 ≤ h
    · apply w_Model_multiplies_82
      rw [(m1.G (a := D) (by omega) 28).trans h28]
      refine ⟨fun _ => (w.md m1 (by omega)).1, fun _ => fin S1 m1 (fun x x0 x1 => ?_), fun z => absurd (Or.inr hh) z⟩
      rw [v1 x x0 x1]
      exact ⟨by omega, fun z => by omega⟩
    · have nh := nh (by omega)
      refine loopU (P := fun e S' => At (d + 1) 179 c179_82 [(0, (2, D)), (2, (0, e))] [] S' Q) (I := fun e S' => 0 ≤ e ∧ Md (fun x => x = D + 20) S S' ∧ ∀ x, 0 ≤ x → x < 49 → zG S' (D + 20) x = acc p A B (49 * e).toNat x) 49 ?_ ?_ 0 S1 (by omega) ⟨by omega, m1, fun x x0 x1 => v1 x x0 x1⟩
      · rintro e S2 he ⟨e0, m2, v2⟩ hk1
        have w2 : DW S2 D := w.md m2 (by omega)
        have A2 := hA e e0 he
        have nxt : ∀ S3, Md (fun x => x = D + 20) S S3 → (∀ x, 0 ≤ x → x < 49 → zG S3 (D + 20) x = acc p A B (49 * e + 49).toNat x) → At (d + 1) 179 c179_162 [(0, (2, D)), (2, (0, e))] [] S3 Q := fun S3 m3 v3 => by
          apply w_Model_multiplies_162
          rintro _ rfl
          rw [w32_id (by omega) (by omega)]
          refine hk1 S3 ⟨by omega, m3, fun x x0 x1 => ?_⟩
          rw [show 49 * (e + 1) = 49 * e + 49 by omega]
          exact v3 x x0 x1
        apply w_Model_multiplies_82
        rw [(m2.G (a := D) (by omega) 28).trans h28]
        refine ⟨fun _ => w2.1, fun z => absurd z (by omega), fun _ => ?_⟩
        by_cases z0 : A e = 0
        · apply w_Model_multiplies_97
          rw [w2.x_power.1, w2.x_power.2.1, w2.x_power.2.2, m2.G (a := D + 18) (by omega), A2.1]
          refine ⟨fun _ => ⟨w2.1, rfl, by omega, by omega⟩, fun _ => nxt S2 m2 (fun x x0 x1 => ?_), fun z => absurd (Or.inr z0) z⟩
          rw [v2 x x0 x1]
          exact (acc_skip e0 z0 x 49 (by omega)).symm
        · refine loopU (P := fun g S' => At (d + 1) 179 c179_97 [(0, (2, D)), (2, (0, e)), (3, (0, g))] [] S' Q) (I := fun g S' => 0 ≤ g ∧ Md (fun x => x = D + 20) S S' ∧ ∀ x, 0 ≤ x → x < 49 → zG S' (D + 20) x = acc p A B (49 * e + g).toNat x) 49 ?_ ?_ 0 S2 (by omega) ⟨by omega, m2, fun x x0 x1 => by rw [Int.add_zero]; exact v2 x x0 x1⟩
          · rintro g S3 hg ⟨g0, m3, v3⟩ hk2
            have w3 : DW S3 D := w.md m3 (by omega)
            have B3 := hB g g0 hg
            have stp : ∀ S4, Md (fun x => x = D + 20) S S4 → (∀ x, 0 ≤ x → x < 49 → zG S4 (D + 20) x = acc p A B (49 * e + g + 1).toNat x) → At (d + 1) 179 c179_156 [(0, (2, D)), (2, (0, e)), (3, (0, g))] [] S4 Q := fun S4 m4 v4 => by
              apply w_Model_multiplies_156
              rintro _ rfl
              rw [w32_id (by omega) (by omega)]
              refine hk2 S4 ⟨by omega, m4, fun x x0 x1 => ?_⟩
              rw [show 49 * e + (g + 1) = 49 * e + g + 1 by omega]
              exact v4 x x0 x1
            apply w_Model_multiplies_97
            rw [w3.x_power.1, w3.x_power.2.1, w3.x_power.2.2, w3.x_other.1, w3.x_other.2.1, w3.x_other.2.2, w3.x_result.1, w3.x_result.2.1, w3.x_result.2.2, m3.G (a := D + 18) (by omega), m3.G (a := D + 19) (by omega), A2.1, B3.1, w32_id (x := e + g) (by omega) (by omega), (m3.G (a := D) (by omega) 0).trans hp]
            refine ⟨fun _ => ⟨w3.1, rfl, by omega, by omega⟩, fun z => absurd z (by omega), fun _ => ⟨w3.1, ⟨rfl, by omega, by omega⟩, fun y => stp S3 m3 (fun x x0 x1 => ?_), fun y => ?_⟩⟩
            · rw [acc_at e0 g0 hg, if_pos (Or.inr (Or.inl y))]
              exact v3 x x0 x1
            · have le := nh e g e0 he g0 hg z0 y
              unfold dgS at le
              have v3' := v3 (e + g) (by omega) (by omega)
              have ab := acc_bd (A := A) (B := B) h2.1 (49 * e + g).toNat (e + g)
              have pb : 0 ≤ A e * B g ∧ A e * B g ≤ 49 := ⟨Int.mul_nonneg A2.2.1 B3.2.1, by have := Int.mul_le_mul (show A e ≤ 7 by omega) (show B g ≤ 7 by omega) B3.2.1 (by omega); omega⟩
              rw [v3', w32_id (x := A e * B g) (by omega) (by omega), w32_id (x := acc p A B (49 * e + g).toNat (e + g) + A e * B g) (by omega) (by omega), tm_nn (by omega)]
              refine ⟨w3.1, w3.1, ⟨rfl, by omega, by omega⟩, w3.1, ⟨rfl, by omega, by omega⟩, w3.1, ⟨rfl, by omega, by omega⟩, w3.1, by omega, ⟨rfl, by omega, by omega⟩, ?_⟩
              rintro _ rfl
              refine stp _ (m3.tr (Md.zS _ _ _ _)) (fun x x0 x1 => ?_)
              rw [zG_zS, acc_at e0 g0 hg]
              by_cases q : x = e + g
              · rw [if_pos ⟨rfl, q⟩, if_neg (fun w => by rcases w with w | w | w; exact z0 w; exact y w; exact w q), q]
              · rw [if_neg (fun w => q w.2), if_pos (Or.inr (Or.inr q))]
                exact v3 x x0 x1
          · rintro S3 ⟨-, m3, v3⟩
            apply w_Model_multiplies_97
            exact ⟨fun z => absurd (Int.le_refl 49) z, fun _ => nxt S3 m3 v3, fun z => absurd (Or.inl (Int.le_refl 49)) z⟩
      · rintro S2 ⟨-, m2, v2⟩
        apply w_Model_multiplies_82
        refine ⟨fun z => absurd (Int.le_refl 49) z, fun _ => fin S2 m2 (fun x x0 x1 => ?_), fun z => absurd (Or.inl (Int.le_refl 49)) z⟩
        rw [v2 x x0 x1]
        exact ⟨acc_bd h2.1 _ x, fun _ => rfl⟩
theorem m_multiplies {d : Nat} {D p h g : Int} {S : Hp} {A B : Int → Int} {Q : Vl → Hp → Prop} (h2 : 2 ≤ p ∧ p ≤ 7) (w : DW S D) (hp : zG S D 0 = p) (h28 : zG S D 28 = h) (g0 : 0 ≤ g) (rA : RO S (D + 18) p h A) (rB : RO S (D + 19) p h B) (H : ∀ S', Md (fun x => x = D ∨ x = D + 18 ∨ x = D + 20) S S' → DW S' D → (∀ j, j ≠ 28 → zG S' D j = zG S D j) → zG S' D 28 = mlH h A B g → RO S' (D + 18) p (mlH h A B g) (mlP p h A B) → Q (3, 0) S') : Ev (d + 1) 179 [(2, D), (0, g)] S Q := by
  have HA : ∀ x, 0 ≤ x → x < 49 → zG S (D + 18) x = zG S (D + 18) x ∧ 0 ≤ zG S (D + 18) x ∧ zG S (D + 18) x < p := fun x x0 x1 => ⟨rfl, (rA x x0 x1).1⟩
  have HB : ∀ x, 0 ≤ x → x < 49 → zG S (D + 19) x = zG S (D + 19) x ∧ 0 ≤ zG S (D + 19) x ∧ zG S (D + 19) x < p := fun x x0 x1 => ⟨rfl, (rB x x0 x1).1⟩
  have nA : h < 0 → ∀ x, 0 ≤ x → x < 49 → zG S (D + 18) x = A x := fun q x x0 x1 => (rA x x0 x1).2 q
  have nB : h < 0 → ∀ x, 0 ≤ x → x < 49 → zG S (D + 19) x = B x := fun q x x0 x1 => (rB x x0 x1).2 q
  have low : (h < 0 → nHi (zG S (D + 18)) (zG S (D + 19))) → At (d + 1) 179 c179_59 [(0, (2, D))] [] S Q := fun nh => by
    have e : mlH h A B g = h := if_pos (by
      by_cases q : 0 ≤ h
      · exact Or.inl q
      · exact Or.inr (hpN_n.mpr (nHi_congr (nA (by omega)) (nB (by omega)) (nh (by omega)))))
    rw [e] at H
    refine m_mulLoops h2 w hp h28 HA HB nh (fun S' m v => H S' (m.wide (fun x hx => Or.inr hx)) (w.md m (by omega)) (fun j _ => m.G (by omega) j) ((m.G (by omega) 28).trans h28) (fun x x0 x1 => ⟨(v x x0 x1).1, fun q => ?_⟩))
    have e' : mlP p h A B = acc p A B 2401 := if_neg (fun z => by
      rcases z with z | z
      · omega
      · exact z (hpN_n.mpr (nHi_congr (nA q) (nB q) (nh q))))
    rw [(v x x0 x1).2 q, e', acc_congr (nA q) (nB q) x 2401 (by omega)]
  apply w_Model_multiplies_0
  rw [w.x_power.1]
  refine ⟨w.1, m_isNone w.x_power.2.1 w.x_power.2.2 (fun va a01 ea => ⟨_, rfl, fun z => low (fun _ e g e0 e1 _ _ hA _ => absurd ((ea.mp (by unfold in01 at a01; omega)) e e0 e1) hA), fun z => ⟨w.1, ?_⟩⟩)⟩
  rw [w.x_other.1]
  refine m_isNone w.x_other.2.1 w.x_other.2.2 (fun vb b01 eb => ⟨_, rfl, fun y => low (fun _ e g _ _ g0 g1 _ hB => absurd ((eb.mp (by unfold in01 at b01; omega)) g g0 g1) hB), fun y => ⟨w.1, ?_⟩⟩)
  rw [w.x_power.1]
  refine m_degreeOf w.x_power.2.1 w.x_power.2.2 ⟨_, rfl, w.1, ?_⟩
  rw [w.x_other.1]
  refine m_degreeOf w.x_other.2.1 w.x_other.2.2 ⟨_, rfl, ?_⟩
  have da : ∀ F : Int → Int, 0 ≤ dgr F ∧ dgr F ≤ 12 := fun F => mxN_bd (by omega) (fun e h0 h1 => by omega) 49 (by omega)
  have d1 := da (zG S (D + 18))
  have d2 := da (zG S (D + 19))
  have key := nHi_dgr (A := zG S (D + 18)) (B := zG S (D + 19)) (fun al => z (by have := ea.mpr al; omega)) (fun al => y (by have := eb.mpr al; omega))
  rw [w32_id (x := dgr (zG S (D + 18)) + dgr (zG S (D + 19))) (by omega) (by omega), h28]
  refine ⟨fun q => low (fun _ => key.mpr q), fun q => ⟨w.1, fun _ => w.1, ?_⟩⟩
  rintro _ rfl
  refine ⟨w.1, ?_⟩
  rintro _ rfl
  generalize hx : (if 0 ≤ h then h else g) = x
  have e : mlH h A B g = x := by
    rw [← hx]
    unfold mlH
    by_cases q' : 0 ≤ h
    · rw [if_pos (Or.inl q'), if_pos q']
    · rw [if_neg q', if_neg (fun z => by
        rcases z with z | z
        · exact q' z
        · exact q (key.mp (nHi_congr (fun x x0 x1 => (nA (by omega) x x0 x1).symm) (fun x x0 x1 => (nB (by omega) x x0 x1).symm) (hpN_n.mp z))))]
  have x0 : 0 ≤ x := by
    rw [← hx]
    split <;> omega
  rw [e] at H
  have w1 : DW (zS S D 28 x) D := w.sc (by decide)
  refine m_mulLoops (A := zG S (D + 18)) (B := zG S (D + 19)) h2 w1 ((zG_zS_ne _ (Or.inr (by omega))).trans hp) (zG_zS_at _ _ _ _) (fun x x0 x1 => by rw [zG_zS_ne _ (Or.inl (by omega))]; exact HA x x0 x1) (fun x x0 x1 => by rw [zG_zS_ne _ (Or.inl (by omega))]; exact HB x x0 x1) (fun z => by omega) (fun S' m v => H S' (((Md.zS _ _ _ _).wide (fun x hx => Or.inl hx)).tr (m.wide (fun x hx => Or.inr hx))) (w1.md m (by omega)) (fun j hj => (m.G (by omega) j).trans (zG_zS_ne _ (Or.inr hj))) ((m.G (by omega) 28).trans (zG_zS_at _ _ _ _)) (fun y y0 y1 => ⟨(v y y0 y1).1, fun z => by omega⟩))
