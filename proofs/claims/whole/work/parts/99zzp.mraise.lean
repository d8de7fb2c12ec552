/-! The model's reader: powers, atoms. -/
theorem m_raises {d : Nat} {D p h g m : Int} {S : Hp} {A : Int → Int} {Q : Vl → Hp → Prop} (h2 : 2 ≤ p ∧ p ≤ 7) (w : DW S D) (hp : zG S D 0 = p) (h28 : zG S D 28 = h) (g0 : 0 ≤ g) (hm : 0 ≤ m ∧ m ≤ 6) (rA : RO S (D + 18) p h A) (H : ∀ S', Md (fun x => x = D ∨ (D + 18 ≤ x ∧ x ≤ D + 21)) S S' → DW S' D → (∀ j, j ≠ 28 → zG S' D j = zG S D j) → zG S' D 28 = (rsR p h A g m.toNat).1 → RO S' (D + 18) p (rsR p h A g m.toNat).1 (rsR p h A g m.toNat).2 → Q (3, 0) S') : Ev (d + 2) 182 [(2, D), (0, m), (0, g)] S Q := by
  apply w_Model_raises_0
  refine loopU (P := fun e S' => At (d + 2) 182 c182_2 [(0, (2, D)), (1, (0, m)), (2, (0, g)), (3, (0, e))] [] S' Q) (I := fun e S' => 0 ≤ e ∧ Md (fun x => x = D + 18 ∨ x = D + 21) S S' ∧ (∀ x, 0 ≤ x → x < e → zG S' (D + 21) x = zG S (D + 18) x ∧ zG S' (D + 18) x = un1 x) ∧ ∀ x, e ≤ x → zG S' (D + 18) x = zG S (D + 18) x) 49 ?_ ?_ 0 S (by omega) ⟨by omega, Md.refl _ _, fun x a b => by omega, fun _ _ => rfl⟩
  · rintro e S1 he ⟨e0, m1, v1, u1⟩ hk
    have w1 : DW S1 D := w.md m1 (by omega)
    apply w_Model_raises_2
    rw [w1.x_power.1, w1.x_power.2.1, w1.x_power.2.2, w1.x_terms2.1, w1.x_terms2.2.1, w1.x_terms2.2.2, u1 e (Int.le_refl e)]
    refine ⟨fun z => by omega, fun _ => ⟨w1.1, w1.1, ⟨rfl, by omega, by omega⟩, ⟨rfl, by omega, by omega⟩, ?_⟩⟩
    rintro _ rfl
    have w2 : DW (zS S1 (D + 21) e (zG S (D + 18) e)) D := w1.zSr (by omega)
    rw [w2.x_power.1, w2.x_power.2.1, w2.x_power.2.2]
    refine ⟨w2.1, ?_⟩
    rintro _ rfl
    refine ⟨⟨rfl, by omega, by omega⟩, ?_⟩
    rintro _ rfl _ rfl
    rw [w32_id (by omega) (by omega)]
    refine hk _ ⟨by omega, (m1.tr ((Md.zS _ _ _ _).wide (fun x hx => Or.inr hx))).tr ((Md.zS _ _ _ _).wide (fun x hx => Or.inl hx)), fun x x0 x1 => ⟨?_, ?_⟩, fun x hx => ?_⟩
    · rw [zG_zS_ne _ (Or.inl (by omega)), zG_zS]
      by_cases q : x = e
      · rw [if_pos ⟨rfl, q⟩, q]
      · rw [if_neg (fun z => q z.2)]
        exact (v1 x x0 (by omega)).1
    · rw [zG_zS]
      by_cases q : x = e
      · rw [if_pos ⟨rfl, q⟩, q]
        unfold un1
        by_cases z : e = 0
        · rw [if_neg (fun y => y z), if_pos z]
        · rw [if_pos z, if_neg z]
      · rw [if_neg (fun z => q z.2), zG_zS_ne _ (Or.inl (by omega))]
        exact (v1 x x0 (by omega)).2
    · rw [zG_zS_ne _ (Or.inr (by omega)), zG_zS_ne _ (Or.inl (by omega))]
      exact u1 x (by omega)
  · rintro S1 ⟨-, m1, v1, -⟩
    have w1 : DW S1 D := w.md m1 (by omega)
    apply w_Model_raises_2
    refine ⟨fun _ => ?_, fun z => absurd (Int.le_refl 49) z⟩
    refine loopU (P := fun e S' => At (d + 2) 182 c182_43 [(0, (2, D)), (1, (0, m)), (2, (0, g)), (3, (0, e))] [] S' Q) (I := fun e S' => 0 ≤ e ∧ Md (fun x => x = D ∨ (D + 18 ≤ x ∧ x ≤ D + 21)) S S' ∧ DW S' D ∧ (∀ j, j ≠ 28 → zG S' D j = zG S D j) ∧ zG S' D 28 = (rsR p h A g e.toNat).1 ∧ RO S' (D + 21) p h A ∧ RO S' (D + 18) p (rsR p h A g e.toNat).1 (rsR p h A g e.toNat).2) m ?_ ?_ 0 S1 hm.1 ⟨by omega, m1.wide (fun x hx => by omega), w1, fun j _ => m1.G (by omega) j, (m1.G (by omega) 28).trans h28, fun x x0 x1 => ?_, fun x x0 x1 => ?_⟩
    · rintro e S2 he ⟨e0, m2, w2, o2, q2, t2, r2⟩ hk
      apply w_Model_raises_43
      refine ⟨fun z => by omega, fun _ => ?_⟩
      refine loopU (P := fun x S' => At (d + 2) 182 c182_51 [(0, (2, D)), (1, (0, m)), (2, (0, g)), (3, (0, e)), (4, (0, x))] [] S' Q) (I := fun x S' => 0 ≤ x ∧ Md (fun x => x = D + 19) S2 S' ∧ ∀ y, 0 ≤ y → y < x → zG S' (D + 19) y = zG S2 (D + 21) y) 49 ?_ ?_ 0 S2 (by omega) ⟨by omega, Md.refl _ _, fun x a b => by omega⟩
      · rintro x S3 hx ⟨x0, m3, v3⟩ hk3
        have w3 : DW S3 D := w2.md m3 (by omega)
        apply w_Model_raises_51
        rw [w3.x_terms2.1, w3.x_terms2.2.1, w3.x_terms2.2.2, w3.x_other.1, w3.x_other.2.1, w3.x_other.2.2, m3.G (a := D + 21) (by omega)]
        refine ⟨fun z => by omega, fun _ => ⟨w3.1, w3.1, ⟨rfl, by omega, by omega⟩, ⟨rfl, by omega, by omega⟩, ?_⟩⟩
        rintro _ rfl _ rfl
        rw [w32_id (by omega) (by omega)]
        refine hk3 _ ⟨by omega, m3.tr (Md.zS _ _ _ _), fun y y0 y1 => ?_⟩
        rw [zG_zS]
        by_cases q : y = x
        · rw [if_pos ⟨rfl, q⟩, q]
        · rw [if_neg (fun z => q z.2)]
          exact v3 y y0 (by omega)
      · rintro S3 ⟨-, m3, v3⟩
        have w3 : DW S3 D := w2.md m3 (by omega)
        have r19 : RO S3 (D + 19) p (rsR p h A g e.toNat).1 A := fun x x0 x1 => by
          rw [v3 x x0 x1]
          exact (t2.up (rsR_neg g0 e.toNat)) x x0 x1
        apply w_Model_raises_51
        refine ⟨fun _ => ⟨w3.1, ?_⟩, fun z => absurd (Int.le_refl 49) z⟩
        refine m_multiplies h2 w3 (((m3.G (by omega) 0).trans (o2 0 (by omega))).trans hp) ((m3.G (by omega) 28).trans q2) g0 (r2.keep m3 (by omega)) r19 (fun S4 m4 w4 o4 q4 r4 => ⟨rfl, ?_⟩)
        rintro _ rfl
        rw [w32_id (by omega) (by omega)]
        have e1 : (e + 1).toNat = e.toNat + 1 := by omega
        refine hk S4 ⟨by omega, (m2.tr (m3.wide (fun x hx => by omega))).tr (m4.wide (fun x hx => by omega)), w4, fun j hj => (o4 j hj).trans ((m3.G (by omega) j).trans (o2 j hj)), ?_, (t2.keep m3 (by omega)).keep m4 (by omega), ?_⟩
        · rw [e1]
          exact q4
        · rw [e1]
          exact r4
    · rintro S2 ⟨-, m2, w2, o2, q2, t2, r2⟩
      apply w_Model_raises_43
      exact ⟨fun _ => H S2 m2 w2 o2 q2 r2, fun z => absurd (Int.le_refl m) z⟩
    · rw [(v1 x x0 x1).1]
      exact rA x x0 x1
    · rw [(v1 x x0 x1).2]
      refine ⟨?_, fun _ => rfl⟩
      unfold un1
      split <;> omega
theorem m_setsAtom {d : Nat} {D p c v : Int} {S : Hp} {Q : Vl → Hp → Prop} (h2 : 2 ≤ p ∧ p ≤ 7) (w : DW S D) (hp : zG S D 0 = p) (h21 : zG S D 21 = c) (h22 : c = 1 → zG S D 22 = v ∧ 0 ≤ v) (H : ∀ S', Md (fun x => x = D + 18) S S' → (∀ x, 0 ≤ x → x < 49 → zG S' (D + 18) x = if x = 7 then (if c = 121 then 1 else 0) else if x = 1 then (if c = 120 then 1 else 0) else if x = 0 then (if c = 1 then v % p else 0) else 0) → Q (3, 0) S') : Ev d 183 [(2, D)] S Q := by
  apply w_Model_setsAtom_0
  refine loopU (P := fun e S' => At d 183 c183_2 [(0, (2, D)), (1, (0, e))] [] S' Q) (I := fun e S' => 0 ≤ e ∧ Md (fun x => x = D + 18) S S' ∧ ∀ x, 0 ≤ x → x < e → zG S' (D + 18) x = 0) 49 ?_ ?_ 0 S (by omega) ⟨by omega, Md.refl _ _, fun x a b => by omega⟩
  · rintro e S1 he ⟨e0, m1, v1⟩ hk
    have w1 : DW S1 D := w.md m1 (by omega)
    apply w_Model_setsAtom_2
    rw [w1.x_power.1, w1.x_power.2.1, w1.x_power.2.2]
    refine ⟨fun z => by omega, fun _ => ⟨w1.1, ⟨rfl, by omega, by omega⟩, ?_⟩⟩
    rintro _ rfl _ rfl
    rw [w32_id (by omega) (by omega)]
    refine hk _ ⟨by omega, m1.tr (Md.zS _ _ _ _), fun x x0 x1 => ?_⟩
    rw [zG_zS]
    split
    · rfl
    · exact v1 x x0 (by omega)
  · rintro S1 ⟨-, m1, v1⟩
    have w1 : DW S1 D := w.md m1 (by omega)
    have k1 : zG S1 D 21 = c := (m1.G (by omega) 21).trans h21
    apply w_Model_setsAtom_2
    rw [w1.x_power.1, w1.x_power.2.1, w1.x_power.2.2, k1, (m1.G (a := D) (by omega) 0).trans hp]
    refine ⟨fun _ => ⟨w1.1, w1.1, fun _ => ⟨w1.1, w1.1, by omega⟩, ?_⟩, fun z => absurd (Int.le_refl 49) z⟩
    rw [show (if ¬ c = 1 then 0 else (zG S1 D 22).tmod p) = if c = 1 then v % p else 0 by
      by_cases q : c = 1
      · rw [if_neg (fun z => z q), if_pos q, (m1.G (a := D) (by omega) 22).trans (h22 q).1, tm_nn (h22 q).2]
      · rw [if_pos q, if_neg q]]
    rintro _ rfl
    refine ⟨⟨rfl, by omega, by omega⟩, ?_⟩
    rintro _ rfl
    generalize (if c = 1 then v % p else 0) = x1 at H ⊢
    have w2 : DW (zS S1 (D + 18) 0 x1) D := w1.zSr (by omega)
    rw [zG_zS_ne _ (Or.inl (by omega)), zG_zS_ne _ (Or.inl (by omega)), w1.x_power.1, w2.x_power.2.1, w2.x_power.2.2, k1]
    refine ⟨w2.1, w2.1, ?_⟩
    rw [show (if ¬ c = 120 then (0 : Int) else 1) = if c = 120 then 1 else 0 by
      by_cases q : c = 120
      · rw [if_neg (fun z => z q), if_pos q]
      · rw [if_pos q, if_neg q]]
    rintro _ rfl
    refine ⟨⟨rfl, by omega, by omega⟩, ?_⟩
    rintro _ rfl
    generalize (if c = 120 then (1 : Int) else 0) = x2 at H ⊢
    have w3 : DW (zS (zS S1 (D + 18) 0 x1) (D + 18) 1 x2) D := w2.zSr (by omega)
    rw [zG_zS_ne _ (Or.inl (by omega)), zG_zS_ne _ (Or.inl (by omega)), zG_zS_ne _ (Or.inl (by omega)), zG_zS_ne _ (Or.inl (by omega)), w1.x_power.1, w3.x_power.2.1, w3.x_power.2.2, k1]
    refine ⟨w3.1, w3.1, ?_⟩
    rw [show (if ¬ c = 121 then (0 : Int) else 1) = if c = 121 then 1 else 0 by
      by_cases q : c = 121
      · rw [if_neg (fun z => z q), if_pos q]
      · rw [if_pos q, if_neg q]]
    rintro _ rfl
    refine ⟨⟨rfl, by omega, by omega⟩, ?_⟩
    rintro _ rfl
    refine H _ (((m1.tr (Md.zS _ _ _ _)).tr (Md.zS _ _ _ _)).tr (Md.zS _ _ _ _)) (fun x x0 xx => ?_)
    rw [zG_zS, zG_zS, zG_zS, v1 x x0 xx]
    by_cases q7 : x = 7
    · rw [if_pos ⟨rfl, q7⟩, if_pos q7]
    · rw [if_neg (fun z => q7 z.2), if_neg q7]
      by_cases q1 : x = 1
      · rw [if_pos ⟨rfl, q1⟩, if_pos q1]
      · rw [if_neg (fun z => q1 z.2), if_neg q1]
        by_cases q0 : x = 0
        · rw [if_pos ⟨rfl, q0⟩, if_pos q0]
        · rw [if_neg (fun z => q0 z.2), if_neg q0]
