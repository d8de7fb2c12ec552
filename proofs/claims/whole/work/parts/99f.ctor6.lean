/-! Constructors: a curve. -/
set_option maxHeartbeats 2000000 in
theorem s_curveNew {d : Nat} {V : Int} {S : Hp} {Q : Vl → Hp → Prop} (hV : 1 ≤ V) (hK : zK S V = 2) (hN : zN S = V + 1) (hT : zT S = 1) (H : ∀ S', Mg (fun x => x = V) S S' → zN S' = V + 15 → VW S' V → zG S' V 0 = 3 → zG S' V 1 = 0 → zG S' V 2 = 0 → NR S' (V + 1) 101 49 → NLs S' (V + 2) 4 7 → LI S' (V + 11) 64 (-1) (fun _ => 0) → NR S' (V + 13) 101 7 → NR S' (V + 14) 101 49 → Q (3, 0) S') : Ev (d + 3) 19 [(2, V)] S Q := by
  apply w_Curve_init_0
  refine ⟨by omega, hK, ?_⟩
  rintro _ rfl
  refine ⟨hK, ?_⟩
  rintro _ rfl
  refine ⟨hK, ?_⟩
  rintro _ rfl
  have M1 : Mg (fun x => x = V) S (zS (zS (zS S V 0 3) V 1 0) V 2 0) := ((Mg.zS _ _ _ _).tr (Mg.zS _ _ _ _) (fun b _ hb => hb)).tr (Mg.zS _ _ _ _) (fun b _ hb => hb)
  have a0 : zG (zS (zS (zS S V 0 3) V 1 0) V 2 0) V 0 = 3 := by rw [zG_zS_ne _ (Or.inr (by omega)), zG_zS_ne _ (Or.inr (by omega)), zG_zS_at]
  have a1 : zG (zS (zS (zS S V 0 3) V 1 0) V 2 0) V 1 = 0 := by rw [zG_zS_ne _ (Or.inr (by omega)), zG_zS_at]
  have a2 : zG (zS (zS (zS S V 0 3) V 1 0) V 2 0) V 2 = 0 := zG_zS_at _ _ _ _
  have n1 : zN (zS (zS (zS S V 0 3) V 1 0) V 2 0) = V + 1 := hN
  have t1 : zT (zS (zS (zS S V 0 3) V 1 0) V 2 0) = 1 := hT
  have k1 : zK (zS (zS (zS S V 0 3) V 1 0) V 2 0) V = 2 := hK
  generalize zS (zS (zS S V 0 3) V 1 0) V 2 0 = S1 at *
  -- f
  obtain ⟨m2, n2, t2, k2, f3, o2, r2⟩ := put_row (S := S1) (a := V) (f := 3) (k := 101) (n := 49) (m := V + 1) (by omega) n1 k1
  refine ⟨⟨⟨by omega, by omega⟩, t1, by omega, by omega⟩, ?_⟩
  rintro _ rfl
  refine ⟨k2, ?_⟩
  rintro _ rfl
  rw [n1]
  generalize zS (zA S1 101 49) V 3 (V + 1) = S2 at *
  have t2 : zT S2 = 1 := t2.trans t1
  -- coef
  refine ⟨⟨by omega, by omega⟩, s_newLines (by omega) t2 (by omega) (by omega) (fun S3 m3 n3 l3 => ⟨_, rfl, ?_⟩)⟩
  rw [n2, show V + 1 + 1 = V + 2 by omega] at l3 ⊢
  rw [n2] at n3
  have k3 : zK S3 V = 2 := by rw [m3.K (by omega)]; exact k2
  refine ⟨k3, ?_⟩
  rintro _ rfl
  have m4 : Mg (fun x => x = V) S3 (zS S3 V 4 (V + 2)) := Mg.zS _ _ _ _
  have f4 : zG (zS S3 V 4 (V + 2)) V 4 = V + 2 := zG_zS_at _ _ _ _
  have o4 : ∀ i, i ≠ 4 → zG (zS S3 V 4 (V + 2)) V i = zG S2 V i := fun i hi => by
    rw [zG_zS_ne _ (Or.inr hi), m3.G (by omega) (fun z => z)]
  have n4 : zN (zS S3 V 4 (V + 2)) = V + 11 := by rw [zN_zS]; omega
  have t4 : zT (zS S3 V 4 (V + 2)) = 1 := m3.1.trans t2
  have k4 : zK (zS S3 V 4 (V + 2)) V = 2 := k3
  generalize zS S3 V 4 (V + 2) = S4 at *
  -- disc
  refine ⟨⟨⟨by omega, by omega⟩, t4⟩, ?_⟩
  rintro _ rfl
  have m5 : Mg (fun _ => False) S4 (zA S4 4 0) := Mg.zA S4 4 0
  have k5 : zK (zA S4 4 0) (zN S4) = 4 := zK_zA S4 4 0
  have n5 : zN (zA S4 4 0) = V + 11 + 1 := by rw [zN_zA, n4]
  generalize zA S4 4 0 = S5 at *
  rw [n4] at k5 ⊢
  refine ⟨⟨⟨by omega, by omega⟩, k5⟩, s_lineNew (by omega) k5 n5 (m5.1.trans t4) (by omega) (fun S6 m6 n6 l6 => ⟨rfl, ?_⟩)⟩
  have m46 : Mg (fun _ => False) S4 S6 := m5.tr m6 (fun y hy hq => by omega)
  have k6 : zK S6 V = 2 := by rw [m46.K (by omega)]; exact k4
  refine ⟨k6, ?_⟩
  rintro _ rfl
  have m7 : Mg (fun x => x = V) S6 (zS S6 V 5 (V + 11)) := Mg.zS _ _ _ _
  have f7 : zG (zS S6 V 5 (V + 11)) V 5 = V + 11 := zG_zS_at _ _ _ _
  have o7 : ∀ i, i ≠ 5 → zG (zS S6 V 5 (V + 11)) V i = zG S4 V i := fun i hi => by
    rw [zG_zS_ne _ (Or.inr hi), m46.G (by omega) (fun z => z)]
  have n7 : zN (zS S6 V 5 (V + 11)) = V + 13 := by rw [zN_zS]; omega
  have t7 : zT (zS S6 V 5 (V + 11)) = 1 := m46.1.trans t4
  have k7 : zK (zS S6 V 5 (V + 11)) V = 2 := k6
  generalize zS S6 V 5 (V + 11) = S7 at *
  -- order, moved
  obtain ⟨m8, n8, t8, k8, f8, o8, r8⟩ := put_row (S := S7) (a := V) (f := 6) (k := 101) (n := 7) (m := V + 13) (by omega) n7 k7
  refine ⟨⟨⟨by omega, by omega⟩, t7, by omega, by omega⟩, ?_⟩
  rintro _ rfl
  refine ⟨k8, ?_⟩
  rintro _ rfl
  rw [n7]
  generalize zS (zA S7 101 7) V 6 (V + 13) = S8 at *
  have n8 : zN S8 = V + 14 := by omega
  obtain ⟨m9, n9, t9, k9, f9, o9, r9⟩ := put_row (S := S8) (a := V) (f := 7) (k := 101) (n := 49) (m := V + 14) (by omega) n8 k8
  refine ⟨⟨⟨by omega, by omega⟩, t8.trans t7, by omega, by omega⟩, ?_⟩
  rintro _ rfl
  refine ⟨k9, ?_⟩
  rintro _ rfl
  rw [n8]
  generalize zS (zA S8 101 49) V 7 (V + 14) = S9 at *
  have m89 : Mg (fun x => x = V) S7 S9 := m8.tr m9 (fun b _ hb => hb)
  have m69 : Mg (fun x => x = V) S6 S9 := m7.tr m89 (fun b _ hb => hb)
  have m49 : Mg (fun x => x = V) S4 S9 := Mg.tr (M := fun x => x = V) ⟨m46.1, m46.2.1, m46.2.2.1, fun b i hb _ => m46.2.2.2 b i hb (fun z => z)⟩ m69 (fun b _ hb => hb)
  have m39 : Mg (fun x => x = V) S3 S9 := m4.tr m49 (fun b _ hb => hb)
  have m29 : Mg (fun x => x = V) S2 S9 := Mg.tr (M := fun x => x = V) ⟨m3.1, m3.2.1, m3.2.2.1, fun b i hb _ => m3.2.2.2 b i hb (fun z => z)⟩ m39 (fun b _ hb => hb)
  have q1 : NR S9 (V + 1) 101 49 := r2.keepg m29 (by omega) (by omega)
  have q2 : NLs S9 (V + 2) 4 7 := l3.keepg m39 (by omega) (by omega) (fun x x0 x1 => by omega)
  have q3 : LI S9 (V + 11) 64 (-1) (fun _ => 0) := l6.keepg m69 (by omega) (by omega) (by omega)
  have q4 : NR S9 (V + 13) 101 7 := r8.keepg m9 (by omega) (by omega)
  have oo : ∀ i, i ≠ 4 → i ≠ 5 → i ≠ 6 → i ≠ 7 → zG S9 V i = zG S2 V i := fun i i4 i5 i6 i7 => by rw [o9 i i7, o8 i i6, o7 i i5, o4 i i4]
  refine H S9 ((M1.tr m2 (fun b _ hb => hb)).tr m29 (fun b _ hb => hb)) (by omega) ⟨k9, by rw [oo 3 (by omega) (by omega) (by omega) (by omega)]; exact f3, by rw [o9 4 (by omega), o8 4 (by omega), o7 4 (by omega)]; exact f4, by rw [o9 5 (by omega), o8 5 (by omega)]; exact f7, by rw [o9 6 (by omega)]; exact f8, f9, ⟨q1.1, q1.2.1⟩, q2.w, ⟨_, _, q3⟩, ⟨q4.1, q4.2.1⟩, ⟨r9.1, r9.2.1⟩⟩ (by rw [oo 0 (by omega) (by omega) (by omega) (by omega), o2 0 (by omega)]; exact a0) (by rw [oo 1 (by omega) (by omega) (by omega) (by omega), o2 1 (by omega)]; exact a1) (by rw [oo 2 (by omega) (by omega) (by omega) (by omega), o2 2 (by omega)]; exact a2) q1 q2 q3 q4 r9
