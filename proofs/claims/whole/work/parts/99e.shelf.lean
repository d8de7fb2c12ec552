/-! Shelf. -/
def SW (S : Hp) (h : Int) : Prop := zK S h = 10 ∧ zG S h 1 = h + 1 ∧ QW S (h + 1) 31 ∧ zG S h 4 = h + 11 ∧ zK S (h + 11) = 102 ∧ zL S (h + 11) = 40
theorem s_shelfNew {d : Nat} {h : Int} {S : Hp} {Q : Vl → Hp → Prop} (hh : 1 ≤ h) (hK : zK S h = 10) (hN : zN S = h + 1) (hT : zT S = 1) (H : ∀ S', Mg (fun x => x = h) S S' → zN S' = h + 12 → SW S' h → zG S' h 0 = 0 → zG S' h 2 = 0 → zG S' h 3 = 0 → (∀ i, zG S' (h + 11) i = 0) → zG S' (h + 1) 1 = 0 → zG S' (h + 1) 2 = 0 → NLs S' (h + 2) 4 31 → Q (3, 0) S') : Ev (d + 4) 94 [(2, h)] S Q := by
  apply w_Shelf_init_0
  refine ⟨by omega, hK, ?_⟩
  rintro _ rfl
  have M1 : Mg (fun x => x = h) S (zS S h 0 0) := Mg.zS _ _ _ _
  have g1 : zG (zS S h 0 0) h 0 = 0 := zG_zS_at _ _ _ _
  have n1 : zN (zS S h 0 0) = h + 1 := hN
  have t1 : zT (zS S h 0 0) = 1 := hT
  have k1 : zK (zS S h 0 0) h = 10 := hK
  generalize zS S h 0 0 = S1 at *
  refine ⟨⟨⟨by omega, by omega⟩, t1⟩, ?_⟩
  rintro _ rfl
  have m2 : Mg (fun _ => False) S1 (zA S1 8 0) := Mg.zA S1 8 0
  have k2 : zK (zA S1 8 0) (zN S1) = 8 := zK_zA S1 8 0
  have n2 : zN (zA S1 8 0) = h + 1 + 1 := by rw [zN_zA, n1]
  generalize zA S1 8 0 = S2 at *
  rw [n1] at k2 ⊢
  refine ⟨⟨⟨by omega, by omega⟩, k2⟩, s_quotNew (by omega) k2 n2 (m2.1.trans t1) (by omega) (fun S3 m3 n3 k3 a3 b3 c3 l3 => ⟨rfl, ?_⟩)⟩
  have m13 : Mg (fun _ => False) S1 S3 := m2.tr m3 (fun y hy hq => by omega)
  have kh : zK S3 h = 10 := by rw [m13.K (by omega)]; exact k1
  refine ⟨kh, ?_⟩
  rintro _ rfl
  refine ⟨kh, ?_⟩
  rintro _ rfl
  refine ⟨kh, ?_⟩
  rintro _ rfl
  have m4 : Mg (fun x => x = h) S3 (zS (zS (zS S3 h 1 (h + 1)) h 2 0) h 3 0) := ((Mg.zS _ _ _ _).tr (Mg.zS _ _ _ _) (fun b _ hb => hb)).tr (Mg.zS _ _ _ _) (fun b _ hb => hb)
  have p0 : zG (zS (zS (zS S3 h 1 (h + 1)) h 2 0) h 3 0) h 0 = 0 := by
    rw [zG_zS_ne _ (Or.inr (by omega)), zG_zS_ne _ (Or.inr (by omega)), zG_zS_ne _ (Or.inr (by omega)), m13.G (by omega) (fun z => z)]
    exact g1
  have p1 : zG (zS (zS (zS S3 h 1 (h + 1)) h 2 0) h 3 0) h 1 = h + 1 := by
    rw [zG_zS_ne _ (Or.inr (by omega)), zG_zS_ne _ (Or.inr (by omega)), zG_zS_at]
  have p2 : zG (zS (zS (zS S3 h 1 (h + 1)) h 2 0) h 3 0) h 2 = 0 := by
    rw [zG_zS_ne _ (Or.inr (by omega)), zG_zS_at]
  have p3 : zG (zS (zS (zS S3 h 1 (h + 1)) h 2 0) h 3 0) h 3 = 0 := zG_zS_at _ _ _ _
  have k4 : zK (zS (zS (zS S3 h 1 (h + 1)) h 2 0) h 3 0) h = 10 := kh
  have n4 : zN (zS (zS (zS S3 h 1 (h + 1)) h 2 0) h 3 0) = h + 11 := by
    show zN S3 = h + 11
    omega
  have t4 : zT (zS (zS (zS S3 h 1 (h + 1)) h 2 0) h 3 0) = 1 := m13.1.trans t1
  generalize zS (zS (zS S3 h 1 (h + 1)) h 2 0) h 3 0 = S4 at *
  obtain ⟨q1, q2, q3, q4, q5, q6, q7⟩ := put_row (S := S4) (a := h) (f := 4) (k := 102) (n := 40) (m := h + 11) (by omega) n4 k4
  refine ⟨⟨⟨by omega, by omega⟩, t4, by omega, by omega⟩, ?_⟩
  rintro _ rfl
  refine ⟨q4, ?_⟩
  rintro _ rfl
  rw [n4]
  generalize zS (zA S4 102 40) h 4 (h + 11) = S5 at *
  have m35 : Mg (fun x => x = h) S3 S5 := m4.tr q1 (fun b _ hb => hb)
  have l5 : NLs S5 (h + 2) 4 31 := by
    have := l3.keepg m35 (by omega) (by omega) (fun x x0 x1 => by omega)
    rw [show h + 1 + 1 = h + 2 by omega] at this
    exact this
  have z5 : ∀ i, zG S5 (h + 1) i = zG S3 (h + 1) i := fun i => m35.G (by omega) (by omega) i
  have m1 : Mg (fun x => x = h) S S3 := M1.tr m13 (fun b _ hb => hb.elim)
  refine H S5 (m1.tr m35 (fun b _ hb => hb)) (by omega) ⟨q4, by rw [q6 1 (by omega)]; exact p1, ⟨by rw [m35.K (by omega)]; exact k3, by rw [z5]; exact a3, ?_⟩, q5, q7.1, q7.2.1⟩ (by rw [q6 0 (by omega)]; exact p0) (by rw [q6 2 (by omega)]; exact p2) (by rw [q6 3 (by omega)]; exact p3) q7.2.2 (by rw [z5]; exact b3) (by rw [z5]; exact c3) l5
  rw [show h + 1 + 1 = h + 2 by omega]
  exact l5.w
theorem s_layRow {d : Nat} {h s n : Int} {S : Hp} {Q : Vl → Hp → Prop} (w : SW S h) (H : ∀ S', Md (fun x => x = h ∨ x = h + 11) S S' → SW S' h → zG S' h 0 = 2 → zG S' h 2 = s → zG S' h 3 = n → (∀ i, 0 ≤ i → i < 40 → zG S' (h + 11) i = 0) → Q (3, 0) S') : Ev d 95 [(2, h), (0, s), (0, n)] S Q := by
  obtain ⟨w1, w2, w3, w4, w5, w6⟩ := w
  apply w_Shelf_layRow_0
  refine ⟨w1, ?_⟩
  rintro _ rfl
  refine ⟨w1, ?_⟩
  rintro _ rfl
  refine ⟨w1, ?_⟩
  rintro _ rfl
  have m1 : Md (fun x => x = h) S (zS (zS (zS S h 0 2) h 2 s) h 3 n) := ((Md.zS _ _ _ _).tr (Md.zS _ _ _ _)).tr (Md.zS _ _ _ _)
  have p0 : zG (zS (zS (zS S h 0 2) h 2 s) h 3 n) h 0 = 2 := by
    rw [zG_zS_ne _ (Or.inr (by omega)), zG_zS_ne _ (Or.inr (by omega)), zG_zS_at]
  have p2 : zG (zS (zS (zS S h 0 2) h 2 s) h 3 n) h 2 = s := by
    rw [zG_zS_ne _ (Or.inr (by omega)), zG_zS_at]
  have p3 : zG (zS (zS (zS S h 0 2) h 2 s) h 3 n) h 3 = n := zG_zS_at _ _ _ _
  have p1 : zG (zS (zS (zS S h 0 2) h 2 s) h 3 n) h 1 = h + 1 := by
    rw [zG_zS_ne _ (Or.inr (by omega)), zG_zS_ne _ (Or.inr (by omega)), zG_zS_ne _ (Or.inr (by omega))]
    exact w2
  have p4 : zG (zS (zS (zS S h 0 2) h 2 s) h 3 n) h 4 = h + 11 := by
    rw [zG_zS_ne _ (Or.inr (by omega)), zG_zS_ne _ (Or.inr (by omega)), zG_zS_ne _ (Or.inr (by omega))]
    exact w4
  generalize zS (zS (zS S h 0 2) h 2 s) h 3 n = S1 at *
  refine loopU (P := fun i S' => At d 95 c95_17 [(0, (2, h)), (3, (0, i))] [] S' Q) (I := fun i S' => 0 ≤ i ∧ Md (fun x => x = h + 11) S1 S' ∧ ∀ e, 0 ≤ e → e < i → zG S' (h + 11) e = 0) 40 ?_ ?_ 0 S1 (by omega) ⟨by omega, Md.refl _ _, fun e e0 e1 => by omega⟩
  · rintro i S2 hi ⟨i0, m2, v2⟩ hk
    apply w_Shelf_layRow_17
    rw [m2.G (a := h) (by omega), p4]
    refine ⟨fun hc => by omega, fun _ => ⟨by rw [m2.K, m1.K]; exact w1, ⟨by rw [m2.K, m1.K]; exact w5, i0, by rw [m2.L, m1.L, w6]; omega⟩, ?_⟩⟩
    rintro _ rfl _ rfl
    rw [w32_id (by omega) (by omega)]
    refine hk _ ⟨by omega, m2.tr (Md.zS _ _ _ _), fun e e0 e1 => ?_⟩
    by_cases q : e = i
    · rw [q, zG_zS_at]
    · rw [zG_zS_ne _ (Or.inr q)]
      exact v2 e e0 (by omega)
  · rintro S2 ⟨-, m2, v2⟩
    have mm : Md (fun x => x = h ∨ x = h + 11) S S2 := (m1.wide (fun x hx => Or.inl hx)).tr (m2.wide (fun x hx => Or.inr hx))
    have e : ∀ i, zG S2 h i = zG S1 h i := fun i => m2.G (by omega) i
    apply w_Shelf_layRow_17
    refine ⟨fun _ => H S2 mm ⟨by rw [mm.K]; exact w1, by rw [e]; exact p1, ⟨by rw [mm.K]; exact w3.1, by rw [mm.G (by omega)]; exact w3.2.1, w3.2.2.keep mm (fun x x0 x1 => by omega) (by omega)⟩, by rw [e]; exact p4, by rw [mm.K]; exact w5, by rw [mm.L]; exact w6⟩ (by rw [e]; exact p0) (by rw [e]; exact p2) (by rw [e]; exact p3) v2, fun hc => absurd (Int.le_refl 40) hc⟩
