/-! Constructors: the class's object. -/
set_option maxHeartbeats 4000000 in
theorem s_crcA {d : Nat} {S : Hp} {Q : Vl → Hp → Prop} (hK : zK S 1 = 11) (hN : zN S = 2) (hT : zT S = 1) (H : ∀ S', Mg (fun x => x = 1) S S' → zN S' = 301 → zT S' = 1 → zK S' 1 = 11 → C13 S' → At (d + 5) 96 c96_162 [(0, (2, 1)), (1, (0, 0)), (1000, (0, 0 + 1 + 20 + 1 + 50 + 1 + 50 + 1 + 50 + 1 + 1 + 1 + 1 + 40 + 1 + 40 + 1 + 90 + 1 + 100 + 1 + 230)), (1001, (0, 0 + 11 + 1000 + 8 + 4500 + 8 + 4500 + 8 + 4500 + 7 + 6 + 7 + 3 + 4000 + 3 + 4000 + 6 + 8500 + 3 + 10000 + 10 + 21000)), (1002, (0, 1400)), (1003, (0, 120000))] [] S' Q) : Ev (d + 5) 96 [(2, 1)] S Q := by
  apply w_Crc_init_0
  refine ⟨by decide, ?_⟩
  have M0 : Mg (fun x => x = 1) S S := Mg.refl _ _
  obtain ⟨a1, b1, c1⟩ := zA_new S 9 2 hN hT
  refine ⟨⟨⟨by decide, by decide⟩, hT⟩, ?_⟩
  rintro _ rfl
  rw [hN]
  refine ⟨⟨⟨by decide, by decide⟩, a1⟩, s_readerNew (by omega) a1 b1 c1 (fun T1 m1 n1 w1a w1b => ⟨rfl, ?_⟩)⟩
  obtain ⟨p1, q1, r1, s1, u1, v1, w1⟩ := obj_put (f := 0) (by omega) hN hK m1
  refine ⟨p1, ?_⟩
  rintro _ rfl
  have M1 := M0.tr r1 (fun b _ hb => hb)
  have s1 := s1.trans hT
  have n1 : zN (zS T1 1 0 2) = 22 := n1
  have d1 : RDW (zS T1 1 0 2) 2 ∧ zG (zS T1 1 0 2) 2 1 = 0 := ⟨w1a.keepg q1 (by omega) (by omega) (by omega), by rw [q1.G (by omega) (by omega)]; exact w1b⟩
  have f1 : zG (zS T1 1 0 2) 1 0 = 2 := v1
  generalize zS T1 1 0 2 = S1 at *
  clear a1 b1 c1 m1 p1 q1 r1 v1 w1  
  obtain ⟨a2, b2, c2⟩ := zA_new S1 2 22 n1 s1
  refine ⟨⟨⟨by decide, by decide⟩, s1⟩, ?_⟩
  rintro _ rfl
  rw [n1]
  refine ⟨⟨⟨by decide, by decide⟩, a2⟩, s_curveNew (by omega) a2 b2 c2 (fun T2 m2 n2 w2a w2b w2c w2d _ _ _ _ _ => ⟨rfl, ?_⟩)⟩
  obtain ⟨p2, q2, r2, s2, u2, v2, w2⟩ := obj_put (f := 1) (by omega) n1 u1 m2
  refine ⟨p2, ?_⟩
  rintro _ rfl
  have M2 := M1.tr r2 (fun b _ hb => hb)
  have s2 := s2.trans s1
  have n2 : zN (zS T2 1 1 22) = 37 := n2
  have vn2 : VN (zS T2 1 1 22) 22 := ⟨w2a.keepg q2 (by omega) (fun x x0 x1 => by omega), by rw [q2.G (by omega) (by omega)]; exact w2b, by rw [q2.G (by omega) (by omega)]; exact w2c, by rw [q2.G (by omega) (by omega)]; exact w2d⟩
  have d1 := And.intro (d1.1.keepg r2 (by omega) (by omega) (by omega)) ((r2.G (by omega) (by omega) 1).trans d1.2)
  have f1 := (w2 0 (by omega)).trans f1
  have g1 := v2
  have x1 := vn2
  clear vn2
  generalize zS T2 1 1 22 = S2 at *
  clear a2 b2 c2 m2 p2 q2 r2 v2 w2 u1 n1 s1 M1 
  obtain ⟨a3, b3, c3⟩ := zA_new S2 2 37 n2 s2
  refine ⟨⟨⟨by decide, by decide⟩, s2⟩, ?_⟩
  rintro _ rfl
  rw [n2]
  refine ⟨⟨⟨by decide, by decide⟩, a3⟩, s_curveNew (by omega) a3 b3 c3 (fun T3 m3 n3 w3a w3b w3c w3d _ _ _ _ _ => ⟨rfl, ?_⟩)⟩
  obtain ⟨p3, q3, r3, s3, u3, v3, w3⟩ := obj_put (f := 2) (by omega) n2 u2 m3
  refine ⟨p3, ?_⟩
  rintro _ rfl
  have M3 := M2.tr r3 (fun b _ hb => hb)
  have s3 := s3.trans s2
  have n3 : zN (zS T3 1 2 37) = 52 := n3
  have vn3 : VN (zS T3 1 2 37) 37 := ⟨w3a.keepg q3 (by omega) (fun x x0 x1 => by omega), by rw [q3.G (by omega) (by omega)]; exact w3b, by rw [q3.G (by omega) (by omega)]; exact w3c, by rw [q3.G (by omega) (by omega)]; exact w3d⟩
  have d1 := And.intro (d1.1.keepg r3 (by omega) (by omega) (by omega)) ((r3.G (by omega) (by omega) 1).trans d1.2)
  have f1 := (w3 0 (by omega)).trans f1
  have g1 := (w3 1 (by omega)).trans g1
  have x1 := x1.keepg r3 (by omega) (by omega)
  have g2 := v3
  have x2 := vn3
  clear vn3
  generalize zS T3 1 2 37 = S3 at *
  clear a3 b3 c3 m3 p3 q3 r3 v3 w3 u2 n2 s2 M2 
  obtain ⟨a4, b4, c4⟩ := zA_new S3 2 52 n3 s3
  refine ⟨⟨⟨by decide, by decide⟩, s3⟩, ?_⟩
  rintro _ rfl
  rw [n3]
  refine ⟨⟨⟨by decide, by decide⟩, a4⟩, s_curveNew (by omega) a4 b4 c4 (fun T4 m4 n4 w4a w4b w4c w4d _ _ _ _ _ => ⟨rfl, ?_⟩)⟩
  obtain ⟨p4, q4, r4, s4, u4, v4, w4⟩ := obj_put (f := 3) (by omega) n3 u3 m4
  refine ⟨p4, ?_⟩
  rintro _ rfl
  have M4 := M3.tr r4 (fun b _ hb => hb)
  have s4 := s4.trans s3
  have n4 : zN (zS T4 1 3 52) = 67 := n4
  have vn4 : VN (zS T4 1 3 52) 52 := ⟨w4a.keepg q4 (by omega) (fun x x0 x1 => by omega), by rw [q4.G (by omega) (by omega)]; exact w4b, by rw [q4.G (by omega) (by omega)]; exact w4c, by rw [q4.G (by omega) (by omega)]; exact w4d⟩
  have d1 := And.intro (d1.1.keepg r4 (by omega) (by omega) (by omega)) ((r4.G (by omega) (by omega) 1).trans d1.2)
  have f1 := (w4 0 (by omega)).trans f1
  have g1 := (w4 1 (by omega)).trans g1
  have x1 := x1.keepg r4 (by omega) (by omega)
  have g2 := (w4 2 (by omega)).trans g2
  have x2 := x2.keepg r4 (by omega) (by omega)
  have g3 := v4
  have x3 := vn4
  clear vn4
  generalize zS T4 1 3 52 = S4 at *
  clear a4 b4 c4 m4 p4 q4 r4 v4 w4 u3 n3 s3 M3 
  have c3 : C3 S4 := ⟨d1, x1, x2, x3, f1, g1, g2, g3⟩
  clear d1 x1 x2 x3 f1 g1 g2 g3
  refine ⟨⟨u4, by unfold in01; omega⟩, ?_⟩
  rintro _ rfl
  have m5 : Mg (fun x => x = 1) S4 (zS S4 1 4 0) := Mg.zS _ _ _ _
  have c5 : C3 (zS S4 1 4 0) := c3.keepg m5 (by omega) (fun i hi => zG_zS_ne _ (Or.inr (by omega)))
  have g4 : zG (zS S4 1 4 0) 1 4 = 0 := zG_zS_at _ _ _ _
  have M5 := M4.tr m5 (fun b _ hb => hb)
  have n5 : zN (zS S4 1 4 0) = 67 := n4
  have t5 : zT (zS S4 1 4 0) = 1 := s4
  have k5 : zK (zS S4 1 4 0) 1 = 11 := u4
  generalize zS S4 1 4 0 = S5 at *
  clear c3 m5 M4 n4 s4 u4
  obtain ⟨m6, n6, t6, k6, h6, o6, r6⟩ := put_row (S := S5) (a := 1) (f := 5) (k := 105) (n := 7) (m := 67) (by omega) n5 k5
  refine ⟨⟨⟨by decide, by decide⟩, t5, by decide, by decide⟩, ?_⟩
  rintro _ rfl
  refine ⟨k6, ?_⟩
  rintro _ rfl
  rw [n5]
  have t6 := t6.trans t5
  have M6 := M5.tr m6 (fun b _ hb => hb)
  have c6 := c5.keepg m6 (by omega) (fun i hi => o6 i (by omega))
  have g4 := (o6 4 (by omega)).trans g4
  generalize zS (zA S5 105 7) 1 5 67 = S6 at *
  have n6 : zN S6 = 68 := n6
  clear o6 m6 c5 M5 n5 t5 k5
  obtain ⟨m7, n7, t7, k7, h7, o7, r7⟩ := put_row (S := S6) (a := 1) (f := 6) (k := 106) (n := 6) (m := 68) (by omega) n6 k6
  refine ⟨⟨⟨by decide, by decide⟩, t6, by decide, by decide⟩, ?_⟩
  rintro _ rfl
  refine ⟨k7, ?_⟩
  rintro _ rfl
  rw [n6]
  have t7 := t7.trans t6
  have M7 := M6.tr m7 (fun b _ hb => hb)
  have c7 := c6.keepg m7 (by omega) (fun i hi => o7 i (by omega))
  have g4 := (o7 4 (by omega)).trans g4
  have h6 := (o7 5 (by omega)).trans h6
  have r6 := r6.keepg m7 (by omega) (by omega)
  generalize zS (zA S6 106 6) 1 6 68 = S7 at *
  have n7 : zN S7 = 69 := n7
  clear o7 m7 c6 M6 n6 t6 k6
  obtain ⟨m8, n8, t8, k8, h8, o8, r8⟩ := put_row (S := S7) (a := 1) (f := 7) (k := 107) (n := 7) (m := 69) (by omega) n7 k7
  refine ⟨⟨⟨by decide, by decide⟩, t7, by decide, by decide⟩, ?_⟩
  rintro _ rfl
  refine ⟨k8, ?_⟩
  rintro _ rfl
  rw [n7]
  have t8 := t8.trans t7
  have M8 := M7.tr m8 (fun b _ hb => hb)
  have c8 := c7.keepg m8 (by omega) (fun i hi => o8 i (by omega))
  have g4 := (o8 4 (by omega)).trans g4
  have h6 := (o8 5 (by omega)).trans h6
  have r6 := r6.keepg m8 (by omega) (by omega)
  have h7 := (o8 6 (by omega)).trans h7
  have r7 := r7.keepg m8 (by omega) (by omega)
  generalize zS (zA S7 107 7) 1 7 69 = S8 at *
  have n8 : zN S8 = 70 := n8
  clear o8 m8 c7 M7 n7 t7 k7
  refine ⟨k8, ?_⟩
  rintro _ rfl
  have m9 : Mg (fun x => x = 1) S8 (zS S8 1 8 0) := Mg.zS _ _ _ _
  have o9 : ∀ i, i ≠ 8 → zG (zS S8 1 8 0) 1 i = zG S8 1 i := fun i hi => zG_zS_ne _ (Or.inr hi)
  have e7 : C7 (zS S8 1 8 0) := ⟨c8.keepg m9 (by omega) (fun i hi => o9 i (by omega)), ⟨r6.1, r6.2.1⟩, ⟨r7.1, r7.2.1⟩, ⟨r8.1, r8.2.1⟩, (o9 4 (by omega)).trans g4, (o9 5 (by omega)).trans h6, (o9 6 (by omega)).trans h7, (o9 7 (by omega)).trans h8, zG_zS_at _ _ _ _⟩
  have M9 := M8.tr m9 (fun b _ hb => hb)
  have n9 : zN (zS S8 1 8 0) = 70 := n8
  have t9 : zT (zS S8 1 8 0) = 1 := t8
  have k9 : zK (zS S8 1 8 0) 1 = 11 := k8
  generalize zS S8 1 8 0 = S9 at *
  clear m9 o9 c8 r6 r7 r8 g4 h6 h7 h8 M8 n8 t8 k8
  obtain ⟨a10, b10, c10⟩ := zA_new S9 8 70 n9 t9
  refine ⟨⟨⟨by decide, by decide⟩, t9⟩, ?_⟩
  rintro _ rfl
  rw [n9]
  refine ⟨⟨⟨by decide, by decide⟩, a10⟩, s_quotNew (by omega) a10 b10 c10 (by omega) (fun T10 m10 n10 w10a w10b w10c w10d w10e => ⟨rfl, ?_⟩)⟩
  obtain ⟨p10, q10, r10, s10, u10, v10, w10⟩ := obj_put (f := 9) (by omega) n9 k9 m10
  refine ⟨p10, ?_⟩
  rintro _ rfl
  have M10 := M9.tr r10 (fun b _ hb => hb)
  have s10 := s10.trans t9
  have n10 : zN (zS T10 1 9 70) = 80 := n10
  have e7 := e7.keepg r10 (by omega) (fun i hi => w10 i (by omega))
  have g9 := v10
  have y9 := QW.keepg (M := fun x => x = 1) (a := 70) (r := 128) ⟨w10a, w10b, w10e.w⟩ q10 (by omega) (fun x x0 x1 => by omega)
  generalize zS T10 1 9 70 = S10 at *
  clear a10 b10 c10 m10 p10 q10 r10 v10 w10 k9 n9 t9 M9 
  obtain ⟨a11, b11, c11⟩ := zA_new S10 8 80 n10 s10
  refine ⟨⟨⟨by decide, by decide⟩, s10⟩, ?_⟩
  rintro _ rfl
  rw [n10]
  refine ⟨⟨⟨by decide, by decide⟩, a11⟩, s_quotNew (by omega) a11 b11 c11 (by omega) (fun T11 m11 n11 w11a w11b w11c w11d w11e => ⟨rfl, ?_⟩)⟩
  obtain ⟨p11, q11, r11, s11, u11, v11, w11⟩ := obj_put (f := 10) (by omega) n10 u10 m11
  refine ⟨p11, ?_⟩
  rintro _ rfl
  have M11 := M10.tr r11 (fun b _ hb => hb)
  have s11 := s11.trans s10
  have n11 : zN (zS T11 1 10 80) = 90 := n11
  have e7 := e7.keepg r11 (by omega) (fun i hi => w11 i (by omega))
  have g9 := (w11 9 (by omega)).trans g9
  have y9 := y9.keepg r11 (by omega) (fun x x0 x1 => by omega)
  have g10 := v11
  have y10 := QW.keepg (M := fun x => x = 1) (a := 80) (r := 128) ⟨w11a, w11b, w11e.w⟩ q11 (by omega) (fun x x0 x1 => by omega)
  generalize zS T11 1 10 80 = S11 at *
  clear a11 b11 c11 m11 p11 q11 r11 v11 w11 u10 n10 s10 M10 
  obtain ⟨a12, b12, c12⟩ := zA_new S11 5 90 n11 s11
  refine ⟨⟨⟨by decide, by decide⟩, s11⟩, ?_⟩
  rintro _ rfl
  rw [n11]
  refine ⟨⟨⟨by decide, by decide⟩, a12⟩, s_millNew (by omega) a12 b12 c12 (fun T12 m12 n12 w12a => ⟨rfl, ?_⟩)⟩
  obtain ⟨p12, q12, r12, s12, u12, v12, w12⟩ := obj_put (f := 11) (by omega) n11 u11 m12
  refine ⟨p12, ?_⟩
  rintro _ rfl
  have M12 := M11.tr r12 (fun b _ hb => hb)
  have s12 := s12.trans s11
  have n12 : zN (zS T12 1 11 90) = 141 := n12
  have e7 := e7.keepg r12 (by omega) (fun i hi => w12 i (by omega))
  have g9 := (w12 9 (by omega)).trans g9
  have y9 := y9.keepg r12 (by omega) (fun x x0 x1 => by omega)
  have g10 := (w12 10 (by omega)).trans g10
  have y10 := y10.keepg r12 (by omega) (fun x x0 x1 => by omega)
  have g11 := v12
  have y11 := w12a.keepg q12 (by omega) (fun x x0 x1 => by omega)
  generalize zS T12 1 11 90 = S12 at *
  clear a12 b12 c12 m12 p12 q12 r12 v12 w12 u11 n11 s11 M11 
  obtain ⟨a13, b13, c13⟩ := zA_new S12 6 141 n12 s12
  refine ⟨⟨⟨by decide, by decide⟩, s12⟩, ?_⟩
  rintro _ rfl
  rw [n12]
  refine ⟨⟨⟨by decide, by decide⟩, a13⟩, s_minorsNew (by omega) a13 b13 c13 (fun T13 m13 n13 w13a => ⟨rfl, ?_⟩)⟩
  obtain ⟨p13, q13, r13, s13, u13, v13, w13⟩ := obj_put (f := 12) (by omega) n12 u12 m13
  refine ⟨p13, ?_⟩
  rintro _ rfl
  have M13 := M12.tr r13 (fun b _ hb => hb)
  have s13 := s13.trans s12
  have n13 : zN (zS T13 1 12 141) = 239 := n13
  have e7 := e7.keepg r13 (by omega) (fun i hi => w13 i (by omega))
  have g9 := (w13 9 (by omega)).trans g9
  have y9 := y9.keepg r13 (by omega) (fun x x0 x1 => by omega)
  have g10 := (w13 10 (by omega)).trans g10
  have y10 := y10.keepg r13 (by omega) (fun x x0 x1 => by omega)
  have g11 := (w13 11 (by omega)).trans g11
  have y11 := y11.keepg r13 (by omega) (fun x x0 x1 => by omega)
  have g12 := v13
  have y12 := w13a.keepg q13 (by omega) (fun x x0 x1 => by omega)
  generalize zS T13 1 12 141 = S13 at *
  clear a13 b13 c13 m13 p13 q13 r13 v13 w13 u12 n12 s12 M12 
  obtain ⟨a14, b14, c14⟩ := zA_new S13 3 239 n13 s13
  refine ⟨⟨⟨by decide, by decide⟩, s13⟩, ?_⟩
  rintro _ rfl
  rw [n13]
  rw [show zG (zA S13 3 0) 1 11 = 90 by rw [(Mg.zA S13 3 0).G (by omega) (fun z => z)]; exact g11]
  have kx14 : zK (zA S13 3 0) 1 = 11 := by rw [(Mg.zA S13 3 0).K (by omega)]; exact u13
  refine ⟨kx14, ⟨⟨by decide, by decide⟩, a14⟩, s_growerNew (by omega) a14 b14 c14 (fun T14 m14 n14 w14a w14b w14c => ⟨rfl, ?_⟩)⟩
  obtain ⟨p14, q14, r14, s14, u14, v14, w14⟩ := obj_put (f := 13) (by omega) n13 u13 m14
  refine ⟨p14, ?_⟩
  rintro _ rfl
  have M14 := M13.tr r14 (fun b _ hb => hb)
  have s14 := s14.trans s13
  have n14 : zN (zS T14 1 13 239) = 301 := n14
  have e7 := e7.keepg r14 (by omega) (fun i hi => w14 i (by omega))
  have g9 := (w14 9 (by omega)).trans g9
  have y9 := y9.keepg r14 (by omega) (fun x x0 x1 => by omega)
  have g10 := (w14 10 (by omega)).trans g10
  have y10 := y10.keepg r14 (by omega) (fun x x0 x1 => by omega)
  have g11 := (w14 11 (by omega)).trans g11
  have y11 := y11.keepg r14 (by omega) (fun x x0 x1 => by omega)
  have g12 := (w14 12 (by omega)).trans g12
  have y12 := y12.keepg r14 (by omega) (fun x x0 x1 => by omega)
  have g13 := v14
  have y13 := w14a.keepg q14 (by omega) (fun x x0 x1 => by omega)
  have y14 := w14b.keepg q14 (by omega) (by omega)
  have y15 : ∀ x j, 241 ≤ x → x ≤ 254 → zG (zS T14 1 13 239) x j = 0 := fun x j x0 x1 => by rw [q14.G (by omega) (by omega)]; exact w14c x j (by omega) (by omega)
  generalize zS T14 1 13 239 = S14 at *
  clear a14 b14 c14 m14 p14 q14 r14 v14 w14 u13 n13 s13 M13 
  refine ⟨u14, ?_⟩
  rintro _ rfl
  refine ⟨⟨u14, by unfold in01; omega⟩, ?_⟩
  rintro _ rfl
  have mz : Mg (fun x => x = 1) S14 (zS (zS S14 1 14 (-1)) 1 15 0) := (Mg.zS _ _ _ _).tr (Mg.zS _ _ _ _) (fun b _ hb => hb)
  have oz : ∀ i, i < 14 → zG (zS (zS S14 1 14 (-1)) 1 15 0) 1 i = zG S14 1 i := fun i hi => by rw [zG_zS_ne _ (Or.inr (by omega)), zG_zS_ne _ (Or.inr (by omega))]
  refine H _ (M14.tr mz (fun b _ hb => hb)) n14 s14 u14 ⟨e7.keepg mz (by omega) (fun i hi => oz i (by omega)), y9.keepg mz (by omega) (fun x x0 x1 => by omega), y10.keepg mz (by omega) (fun x x0 x1 => by omega), y11.keepg mz (by omega) (fun x x0 x1 => by omega), y12.keepg mz (by omega) (fun x x0 x1 => by omega), y13.keepg mz (by omega) (fun x x0 x1 => by omega), y14.keepg mz (by omega) (by omega), fun x j x0 x1 => by rw [mz.G (by omega) (by omega)]; exact y15 x j x0 x1, (oz 9 (by omega)).trans g9, (oz 10 (by omega)).trans g10, (oz 11 (by omega)).trans g11, (oz 12 (by omega)).trans g12, (oz 13 (by omega)).trans g13, ?_, zG_zS_at _ _ _ _⟩
  rw [zG_zS_ne _ (Or.inr (by omega)), zG_zS_at]
