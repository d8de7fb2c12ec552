/-! Constructors: a mill. -/
theorem Mg.K {M : Int → Prop} {S S' : Hp} (h : Mg M S S') {b : Int} (hb : b < zN S) : zK S' b = zK S b := (h.2.2.1 b hb).1
theorem Mg.L {M : Int → Prop} {S S' : Hp} (h : Mg M S S') {b : Int} (hb : b < zN S) : zL S' b = zL S b := (h.2.2.1 b hb).2
theorem Mg.G {M : Int → Prop} {S S' : Hp} (h : Mg M S S') {b : Int} (hb : b < zN S) (hM : ¬ M b) (i : Int) : zG S' b i = zG S b i := h.2.2.2 b i hb hM
set_option maxHeartbeats 2000000 in
theorem s_millNew {d : Nat} {A : Int} {S : Hp} {Q : Vl → Hp → Prop} (hA : 1 ≤ A) (hK : zK S A = 5) (hN : zN S = A + 1) (hT : zT S = 1) (H : ∀ S', Mg (fun x => x = A) S S' → zN S' = A + 51 → MW S' A → Q (3, 0) S') : Ev (d + 3) 50 [(2, A)] S Q := by
  apply w_Mill_init_0
  refine ⟨by omega, ⟨by omega, by omega⟩, s_newLines (by omega) hT (by omega) (by omega) (fun S1 m1 n1 l1 => ⟨_, rfl, ?_⟩)⟩
  rw [hN] at n1 l1 ⊢
  have k1 : zK S1 A = 5 := by rw [m1.K (by omega)]; exact hK
  refine ⟨k1, ?_⟩
  rintro _ rfl
  have m2 : Mg (fun x => x = A) S1 (zS S1 A 0 (A + 1)) := Mg.zS _ _ _ _
  have g2 : zG (zS S1 A 0 (A + 1)) A 0 = A + 1 := zG_zS_at _ _ _ _
  have n2 : zN (zS S1 A 0 (A + 1)) = A + 34 := by rw [zN_zS]; omega
  have t2 : zT (zS S1 A 0 (A + 1)) = 1 := m1.1.trans hT
  have k2 : zK (zS S1 A 0 (A + 1)) A = 5 := k1
  have l2 : NLs (zS S1 A 0 (A + 1)) (A + 1) 16 64 := l1.keepg m2 (by omega) (by omega) (fun x x0 x1 => by omega)
  have M2 : Mg (fun x => x = A) S (zS S1 A 0 (A + 1)) := Mg.tr (M := fun x => x = A) ⟨m1.1, m1.2.1, m1.2.2.1, fun b i hb _ => m1.2.2.2 b i hb (fun z => z)⟩ m2 (fun b _ hb => hb)
  generalize zS S1 A 0 (A + 1) = S2 at *
  refine ⟨⟨⟨by omega, by omega⟩, t2⟩, ?_⟩
  rintro _ rfl
  have m3 : Mg (fun _ => False) S2 (zA S2 4 0) := Mg.zA S2 4 0
  have k3 : zK (zA S2 4 0) (zN S2) = 4 := zK_zA S2 4 0
  have n3 : zN (zA S2 4 0) = A + 34 + 1 := by rw [zN_zA, n2]
  generalize zA S2 4 0 = S3 at *
  rw [n2] at k3 ⊢
  refine ⟨⟨⟨by omega, by omega⟩, k3⟩, s_lineNew (by omega) k3 n3 (m3.1.trans t2) (by omega) (fun S4 m4 n4 l4 => ⟨rfl, ?_⟩)⟩
  have m24 : Mg (fun _ => False) S2 S4 := m3.tr m4 (fun y hy hq => by omega)
  have k4 : zK S4 A = 5 := by rw [m24.K (by omega)]; exact k2
  refine ⟨k4, ?_⟩
  rintro _ rfl
  have m5 : Mg (fun x => x = A) S4 (zS S4 A 1 (A + 34)) := Mg.zS _ _ _ _
  have g50 : zG (zS S4 A 1 (A + 34)) A 0 = A + 1 := by rw [zG_zS_ne _ (Or.inr (by omega)), m24.G (by omega) (fun z => z)]; exact g2
  have g51 : zG (zS S4 A 1 (A + 34)) A 1 = A + 34 := zG_zS_at _ _ _ _
  have n5 : zN (zS S4 A 1 (A + 34)) = A + 36 := by rw [zN_zS]; omega
  have t5 : zT (zS S4 A 1 (A + 34)) = 1 := m24.1.trans t2
  have k5 : zK (zS S4 A 1 (A + 34)) A = 5 := k4
  have l5 : NLs (zS S4 A 1 (A + 34)) (A + 1) 16 64 := (l2.keepg m24 (by omega) (by omega) (fun x _ _ z => z)).keepg m5 (by omega) (by omega) (fun x x0 x1 => by omega)
  have s5 : LI (zS S4 A 1 (A + 34)) (A + 34) 64 (-1) (fun _ => 0) := l4.keepg m5 (by omega) (by omega) (by omega)
  have M5 : Mg (fun x => x = A) S (zS S4 A 1 (A + 34)) := (M2.tr m24 (fun b _ hb => hb.elim)).tr m5 (fun b _ hb => hb)
  generalize zS S4 A 1 (A + 34) = S5 at *
  refine ⟨⟨by omega, by omega⟩, s_newLines (by omega) t5 (by omega) (by omega) (fun S6 m6 n6 l6 => ⟨_, rfl, ?_⟩)⟩
  rw [n5] at n6 l6 ⊢
  have k6 : zK S6 A = 5 := by rw [m6.K (by omega)]; exact k5
  refine ⟨k6, ?_⟩
  rintro _ rfl
  refine ⟨k6, k6, ?_⟩
  rintro _ rfl
  refine ⟨k6, ?_⟩
  rintro _ rfl
  refine ⟨k6, ?_⟩
  rintro _ rfl
  generalize hx : zG (zS S6 A 2 (A + 36)) A 0 = x3
  have m7 : Mg (fun x => x = A) S6 (zS (zS (zS (zS S6 A 2 (A + 36)) A 3 x3) A 4 2) A 5 3) := (((Mg.zS _ _ _ _).tr (Mg.zS _ _ _ _) (fun b _ hb => hb)).tr (Mg.zS _ _ _ _) (fun b _ hb => hb)).tr (Mg.zS _ _ _ _) (fun b _ hb => hb)
  have o7 : ∀ i, i < 2 → zG (zS (zS (zS (zS S6 A 2 (A + 36)) A 3 x3) A 4 2) A 5 3) A i = zG S6 A i := fun i hi => by
    rw [zG_zS_ne _ (Or.inr (by omega)), zG_zS_ne _ (Or.inr (by omega)), zG_zS_ne _ (Or.inr (by omega)), zG_zS_ne _ (Or.inr (by omega))]
  have p7 : zG (zS (zS (zS (zS S6 A 2 (A + 36)) A 3 x3) A 4 2) A 5 3) A 2 = A + 36 := by
    rw [zG_zS_ne _ (Or.inr (by omega)), zG_zS_ne _ (Or.inr (by omega)), zG_zS_ne _ (Or.inr (by omega)), zG_zS_at]
  have k7 : zK (zS (zS (zS (zS S6 A 2 (A + 36)) A 3 x3) A 4 2) A 5 3) A = 5 := k6
  have n7 : zN (zS (zS (zS (zS S6 A 2 (A + 36)) A 3 x3) A 4 2) A 5 3) = A + 51 := by
    show zN S6 = A + 51
    omega
  generalize zS (zS (zS (zS S6 A 2 (A + 36)) A 3 x3) A 4 2) A 5 3 = S7 at *
  refine H S7 ((M5.tr m6 (fun b _ hb => hb.elim)).tr m7 (fun b _ hb => hb)) n7 ⟨k7, ?_, ?_, p7, ?_, ?_, ?_⟩
  · rw [o7 0 (by omega), m6.G (by omega) (fun z => z)]
    exact g50
  · rw [o7 1 (by omega), m6.G (by omega) (fun z => z)]
    exact g51
  · exact ((l5.keepg m6 (by omega) (by omega) (fun x _ _ z => z)).keepg m7 (by omega) (by omega) (fun x x0 x1 => by omega)).w
  · exact ⟨_, _, (s5.keepg m6 (by omega) (fun z => z) (fun z => z)).keepg m7 (by omega) (by omega) (by omega)⟩
  · exact (l6.keepg m7 (by omega) (by omega) (fun x x0 x1 => by omega)).w
