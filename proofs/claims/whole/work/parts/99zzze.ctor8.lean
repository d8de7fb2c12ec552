/-! Constructors: a reader, a grower. -/
theorem zM_Mg (S : Hp) (n k : Int) (hn : 0 ≤ n) : Mg (fun _ => False) S (zM S n k) ∧ zN (zM S n k) = zN S + 1 + n ∧ zT (zM S n k) = zT S ∧ (zK (zM S n k) (zN S) = 108 ∧ zL (zM S n k) (zN S) = n) ∧ (∀ j, 0 ≤ j → j < n → zG (zM S n k) (zN S) j = zN S + 1 + j) ∧ ∀ j, 0 ≤ j → j < n → NR (zM S n k) (zN S + 1 + j) 101 k := by
  have e1 : ∀ b, (zM S n k).1 b = if b = zN S then (108, n) else if zN S < b ∧ b ≤ zN S + n then (101, k) else S.1 b := fun _ => rfl
  have e2 : ∀ b j, zG (zM S n k) b j = if b = zN S then (if 0 ≤ j ∧ j < n then zN S + 1 + j else 0) else if zN S < b ∧ b ≤ zN S + n then 0 else zG S b j := fun _ _ => rfl
  refine ⟨⟨rfl, by show zN S ≤ zN S + 1 + n; omega, fun b hb => ?_, fun b i hb _ => ?_⟩, rfl, rfl, ⟨?_, ?_⟩, fun j j0 j1 => ?_, fun j j0 j1 => ⟨?_, ?_, fun i => ?_⟩⟩
  · unfold zK zL
    rw [e1, if_neg (by omega), if_neg (by omega)]
    exact ⟨rfl, rfl⟩
  · rw [e2, if_neg (by omega), if_neg (by omega)]
  · unfold zK
    rw [e1, if_pos rfl]
  · unfold zL
    rw [e1, if_pos rfl]
  · rw [e2, if_pos rfl, if_pos ⟨j0, j1⟩]
  · unfold zK
    rw [e1, if_neg (by omega), if_pos (by omega)]
  · unfold zL
    rw [e1, if_neg (by omega), if_pos (by omega)]
  · rw [e2, if_neg (by omega), if_pos (by omega)]
theorem Mg.none {M : Int → Prop} {S S' : Hp} (h : Mg (fun _ => False) S S') : Mg M S S' := ⟨h.1, h.2.1, h.2.2.1, fun b i hb _ => h.2.2.2 b i hb (fun z => z)⟩
set_option maxHeartbeats 1000000 in
theorem s_readerNew {d : Nat} {R : Int} {S : Hp} {Q : Vl → Hp → Prop} (hR : 1 ≤ R) (hK : zK S R = 9) (hN : zN S = R + 1) (hT : zT S = 1) (H : ∀ S', Mg (fun x => x = R) S S' → zN S' = R + 20 → RDW S' R → zG S' R 1 = 0 → Q (3, 0) S') : Ev d 81 [(2, R)] S Q := by
  apply w_Reader_init_0
  obtain ⟨m1, n1, t1, k1, f1, o1, r1⟩ := put_row (S := S) (a := R) (f := 0) (k := 101) (n := 100) (m := R + 1) (by omega) hN hK
  refine ⟨by omega, ⟨⟨by omega, by omega⟩, hT, by omega, by omega⟩, ?_⟩
  rintro _ rfl
  refine ⟨k1, ?_⟩
  rintro _ rfl
  rw [hN]
  have t1 := t1.trans hT
  generalize zS (zA S 101 100) R 0 (R + 1) = S1 at *
  refine ⟨k1, ?_⟩
  rintro _ rfl
  have m2 : Mg (fun x => x = R) S1 (zS S1 R 1 0) := Mg.zS _ _ _ _
  have n2 : zN (zS S1 R 1 0) = R + 2 := by rw [zN_zS]; omega
  have t2 : zT (zS S1 R 1 0) = 1 := t1
  have k2 : zK (zS S1 R 1 0) R = 9 := k1
  have o2 : ∀ i, i ≠ 1 → zG (zS S1 R 1 0) R i = zG S1 R i := fun i hi => zG_zS_ne _ (Or.inr hi)
  have g2 : zG (zS S1 R 1 0) R 1 = 0 := zG_zS_at _ _ _ _
  generalize zS S1 R 1 0 = S2 at *
  obtain ⟨m3, n3, t3, k3, f3, r3⟩ := zM_Mg S2 15 49 (by omega)
  refine ⟨⟨⟨by omega, by omega⟩, t2, rfl, rfl⟩, ?_⟩
  rintro _ rfl
  rw [n2] at n3 k3 f3 r3 ⊢
  have t3 := t3.trans t2
  have kk3 : zK (zM S2 15 49) R = 9 := by rw [m3.K (by omega)]; exact k2
  have o3 : ∀ i, zG (zM S2 15 49) R i = zG S2 R i := fun i => m3.G (by omega) (fun z => z) i
  generalize zM S2 15 49 = S3 at *
  refine ⟨kk3, ?_⟩
  rintro _ rfl
  have m4 : Mg (fun x => x = R) S3 (zS S3 R 2 (R + 2)) := Mg.zS _ _ _ _
  have n4 : zN (zS S3 R 2 (R + 2)) = R + 18 := by rw [zN_zS]; omega
  have t4 : zT (zS S3 R 2 (R + 2)) = 1 := t3
  have k4 : zK (zS S3 R 2 (R + 2)) R = 9 := kk3
  have o4 : ∀ i, i ≠ 2 → zG (zS S3 R 2 (R + 2)) R i = zG S3 R i := fun i hi => zG_zS_ne _ (Or.inr hi)
  have g4 : zG (zS S3 R 2 (R + 2)) R 2 = R + 2 := zG_zS_at _ _ _ _
  generalize zS S3 R 2 (R + 2) = S4 at *
  obtain ⟨m5, n5, t5, k5, f5, o5, r5⟩ := put_row (S := S4) (a := R) (f := 3) (k := 101) (n := 49) (m := R + 18) (by omega) n4 k4
  refine ⟨⟨⟨by omega, by omega⟩, t4, by omega, by omega⟩, ?_⟩
  rintro _ rfl
  refine ⟨k5, ?_⟩
  rintro _ rfl
  rw [n4]
  have t5 := t5.trans t4
  generalize zS (zA S4 101 49) R 3 (R + 18) = S5 at *
  obtain ⟨m6, n6, t6, k6, f6, o6, r6⟩ := put_row (S := S5) (a := R) (f := 4) (k := 101) (n := 49) (m := R + 19) (by omega) (by omega) k5
  refine ⟨⟨⟨by omega, by omega⟩, t5, by omega, by omega⟩, ?_⟩
  rintro _ rfl
  rw [show zN S5 = R + 19 by omega]
  refine ⟨k6, ?_⟩
  rintro _ rfl
  generalize zS (zA S5 101 49) R 4 (R + 19) = S6 at *
  refine ⟨k6, ?_⟩
  rintro _ rfl
  refine ⟨k6, ?_⟩
  rintro _ rfl
  refine ⟨k6, ?_⟩
  rintro _ rfl
  refine ⟨k6, ?_⟩
  rintro _ rfl
  refine ⟨k6, ?_⟩
  rintro _ rfl
  refine ⟨k6, ?_⟩
  rintro _ rfl
  have m7 : Mg (fun x => x = R) S6 (zS (zS (zS (zS (zS (zS S6 R 5 3) R 6 0) R 7 0) R 8 0) R 9 0) R 10 (-1)) := (((((Mg.zS _ _ _ _).tr (Mg.zS _ _ _ _) (fun b _ hb => hb)).tr (Mg.zS _ _ _ _) (fun b _ hb => hb)).tr (Mg.zS _ _ _ _) (fun b _ hb => hb)).tr (Mg.zS _ _ _ _) (fun b _ hb => hb)).tr (Mg.zS _ _ _ _) (fun b _ hb => hb)
  have o7 : ∀ i, i < 5 → zG (zS (zS (zS (zS (zS (zS S6 R 5 3) R 6 0) R 7 0) R 8 0) R 9 0) R 10 (-1)) R i = zG S6 R i := fun i hi => by
    rw [zG_zS_ne _ (Or.inr (by omega)), zG_zS_ne _ (Or.inr (by omega)), zG_zS_ne _ (Or.inr (by omega)), zG_zS_ne _ (Or.inr (by omega)), zG_zS_ne _ (Or.inr (by omega)), zG_zS_ne _ (Or.inr (by omega))]
  have n7 : zN (zS (zS (zS (zS (zS (zS S6 R 5 3) R 6 0) R 7 0) R 8 0) R 9 0) R 10 (-1)) = R + 20 := by
    show zN S6 = R + 20
    omega
  have k7 : zK (zS (zS (zS (zS (zS (zS S6 R 5 3) R 6 0) R 7 0) R 8 0) R 9 0) R 10 (-1)) R = 9 := k6
  generalize zS (zS (zS (zS (zS (zS S6 R 5 3) R 6 0) R 7 0) R 8 0) R 9 0) R 10 (-1) = S7 at *
  have m57 : Mg (fun x => x = R) S5 S7 := m6.tr m7 (fun b _ hb => hb)
  have m47 : Mg (fun x => x = R) S4 S7 := m5.tr m57 (fun b _ hb => hb)
  have m37 : Mg (fun x => x = R) S3 S7 := m4.tr m47 (fun b _ hb => hb)
  have m27 : Mg (fun x => x = R) S2 S7 := m3.none.tr m37 (fun b _ hb => hb)
  have m17 : Mg (fun x => x = R) S1 S7 := m2.tr m27 (fun b _ hb => hb)
  have q1 := r1.keepg m17 (by omega) (by omega)
  have q5 := r5.keepg m57 (by omega) (by omega)
  have q6 := r6.keepg m7 (by omega) (by omega)
  refine H S7 (m1.tr m17 (fun b _ hb => hb)) n7 ⟨k7, ?_, ?_, ?_, ?_, ⟨q1.1, q1.2.1⟩, ⟨?_, ?_⟩, fun j j0 j1 => ?_, fun j j0 j1 => ?_⟩ ?_
  · rw [o7 0 (by omega), o6 0 (by omega), o5 0 (by omega), o4 0 (by omega), o3, o2 0 (by omega)]
    exact f1
  · rw [o7 2 (by omega), o6 2 (by omega), o5 2 (by omega)]
    exact g4
  · rw [o7 3 (by omega), o6 3 (by omega)]
    exact f5
  · rw [o7 4 (by omega)]
    exact f6
  · rw [m37.K (by omega)]
    exact k3.1
  · rw [m37.L (by omega)]
    exact k3.2
  · rw [m37.G (by omega) (by omega), f3 j j0 j1]
    omega
  · by_cases a : j < 15
    · have := (r3 j j0 a).keepg m37 (by omega) (by omega)
      rw [show R + 2 + 1 + j = R + 3 + j by omega] at this
      exact ⟨this.1, this.2.1⟩
    · by_cases b : j = 15
      · rw [b, show R + 3 + 15 = R + 18 by omega]
        exact ⟨q5.1, q5.2.1⟩
      · rw [show R + 3 + j = R + 19 by omega]
        exact ⟨q6.1, q6.2.1⟩
  · rw [o7 1 (by omega), o6 1 (by omega), o5 1 (by omega), o4 1 (by omega), o3]
    exact g2
def rmG (j : Int) : Int := if j = 0 ∨ j = 1 then 128 else if j = 2 then 7 else if j = 3 then 21 else 80
/-- the first f rows of lines of a grower stand -/
def GrI (B f : Int) (S0 S : Hp) : Prop := Mg (fun x => x = B) S0 S ∧ zN S = B + 16 + 9 * f ∧ zT S = 1 ∧ zK S B = 3 ∧ zG S B 0 = B + 1 ∧ ∀ j, 0 ≤ j → j < f → zG S B (1 + j) = B + 16 + 9 * j ∧ NLs S (B + 16 + 9 * j) 4 (rmG j)
theorem GrI.step {d : Nat} {B f v g : Int} {S0 S : Hp} {Q : Vl → Hp → Prop} (hB : 1 ≤ B) (h : GrI B f S0 S) (hf : 0 ≤ f ∧ f < 5) (hv : v = rmG f) (hg : g = 1 + f) (H : ∀ S1, zK S1 B = 3 → GrI B (f + 1) S0 (zS S1 B g (B + 16 + 9 * f)) → Q (2, B + 16 + 9 * f) S1) : Ev (d + 2) 161 [(0, 4), (0, v)] S Q := by
  obtain ⟨h1, h2, h3, h4, h5, h6⟩ := h
  have rb : 1 ≤ v ∧ v ≤ 200 := by
    rw [hv]
    unfold rmG
    split
    · omega
    · split
      · omega
      · split <;> omega
  refine s_newLines (by omega) h3 (by omega) rb (fun S1 m1 n1 l1 => ?_)
  rw [h2] at n1 l1 ⊢
  have k1 : zK S1 B = 3 := by rw [m1.K (by omega)]; exact h4
  have m2 : Mg (fun x => x = B) S1 (zS S1 B g (B + 16 + 9 * f)) := Mg.zS _ _ _ _
  refine H S1 k1 ⟨(h1.tr m1.none (fun b _ hb => hb)).tr m2 (fun b _ hb => hb), by rw [zN_zS]; omega, m1.1.trans h3, k1, ?_, fun j j0 j1 => ?_⟩
  · rw [zG_zS_ne _ (Or.inr (by omega)), m1.G (by omega) (fun z => z)]
    exact h5
  · by_cases q : j = f
    · rw [q, ← hg, zG_zS_at, ← hv]
      exact ⟨rfl, l1.keepg m2 (by omega) (by omega) (fun x x0 x1 => by omega)⟩
    · obtain ⟨a, b⟩ := h6 j j0 (by omega)
      rw [zG_zS_ne _ (Or.inr (by omega)), m1.G (by omega) (fun z => z)]
      exact ⟨a, (b.keepg m1 (by omega) (by omega) (fun x _ _ z => z)).keepg m2 (by omega) (by omega) (fun x x0 x1 => by omega)⟩
theorem HW.keepg {M : Int → Prop} {S S' : Hp} {G : Int} (h : HW S G) (m : Mg M S S') (hG : G + 14 < zN S) (hM : ¬ M G) : HW S' G := by
  have K : ∀ x, G ≤ x → x ≤ G + 14 → zK S' x = zK S x ∧ zL S' x = zL S x := fun x x0 x1 => ⟨m.K (by omega), m.L (by omega)⟩
  have g : ∀ i, zG S' G i = zG S G i := fun i => m.G (by omega) hM i
  have r : ∀ x n, 0 ≤ x → x ≤ 14 → rowI S (G + x) n → rowI S' (G + x) n := fun x n x0 x1 q => ⟨by rw [(K _ (by omega) (by omega)).1]; exact q.1, by rw [(K _ (by omega) (by omega)).2]; exact q.2⟩
  have rb : ∀ x n, 0 ≤ x → x ≤ 14 → rowB S (G + x) n → rowB S' (G + x) n := fun x n x0 x1 q => ⟨by rw [(K _ (by omega) (by omega)).1]; exact q.1, by rw [(K _ (by omega) (by omega)).2]; exact q.2⟩
  exact ⟨by rw [(K G (by omega) (by omega)).1]; exact h.k, (g 0).trans h.f0, (g 1).trans h.f1, (g 2).trans h.f2, (g 3).trans h.f3, (g 4).trans h.f4, (g 5).trans h.f5, (g 6).trans h.f6, (g 7).trans h.f7, (g 8).trans h.f8, (g 9).trans h.f9, (g 10).trans h.f10, (g 11).trans h.f11, (g 12).trans h.f12, (g 13).trans h.f13, r 1 _ (by omega) (by omega) h.r0, r 2 _ (by omega) (by omega) h.r1, r 3 _ (by omega) (by omega) h.r2, r 4 _ (by omega) (by omega) h.r3, r 5 _ (by omega) (by omega) h.r4, rb 6 _ (by omega) (by omega) h.r5, r 7 _ (by omega) (by omega) h.r6, rb 8 _ (by omega) (by omega) h.r7, r 9 _ (by omega) (by omega) h.r8, r 10 _ (by omega) (by omega) h.r9, r 11 _ (by omega) (by omega) h.r10, r 12 _ (by omega) (by omega) h.r11, r 13 _ (by omega) (by omega) h.r12, r 14 _ (by omega) (by omega) h.r13⟩
/-- the grower's last rows -/
theorem GrI.fin {B A : Int} {S0 S : Hp} (hB : 1 ≤ B) (h : GrI B 5 S0 S) (hN0 : zN S0 = B + 16) : GW (zS (zS (zS (zS (zA S 101 84) B 6 (zN S)) B 8 2) B 9 3) B 7 A) B A ∧ Mg (fun x => x = B) S0 (zS (zS (zS (zS (zA S 101 84) B 6 (zN S)) B 8 2) B 9 3) B 7 A) ∧ zN (zS (zS (zS (zS (zA S 101 84) B 6 (zN S)) B 8 2) B 9 3) B 7 A) = B + 62 ∧ zT S = 1 ∧ zK (zA S 101 84) B = 3 := by
  obtain ⟨h1, h2, h3, h4, h5, h6⟩ := h
  have h2 : zN S = B + 61 := by omega
  obtain ⟨m9, n9, t9, k9, f9, o9, r9⟩ := put_row (S := S) (a := B) (f := 6) (k := 101) (n := 84) (m := B + 61) (by omega) h2 h4
  have kA : zK (zA S 101 84) B = 3 := k9
  rw [h2]
  generalize zS (zA S 101 84) B 6 (B + 61) = S9 at *
  have mm : Mg (fun x => x = B) S9 (zS (zS (zS S9 B 8 2) B 9 3) B 7 A) := ((Mg.zS _ _ _ _).tr (Mg.zS _ _ _ _) (fun b _ hb => hb)).tr (Mg.zS _ _ _ _) (fun b _ hb => hb)
  have oo : ∀ i, i < 7 → zG (zS (zS (zS S9 B 8 2) B 9 3) B 7 A) B i = zG S9 B i := fun i hi => by
    rw [zG_zS_ne _ (Or.inr (by omega)), zG_zS_ne _ (Or.inr (by omega)), zG_zS_ne _ (Or.inr (by omega))]
  have f7' : zG (zS (zS (zS S9 B 8 2) B 9 3) B 7 A) B 7 = A := zG_zS_at _ _ _ _
  have nn : zN (zS (zS (zS S9 B 8 2) B 9 3) B 7 A) = B + 62 := by
    show zN S9 = B + 62
    omega
  have kk : zK (zS (zS (zS S9 B 8 2) B 9 3) B 7 A) B = 3 := k9
  generalize zS (zS (zS S9 B 8 2) B 9 3) B 7 A = Z at *
  have M8 : Mg (fun x => x = B) S Z := m9.tr mm (fun b _ hb => hb)
  have q9 := r9.keepg mm (by omega) (by omega)
  have ln : ∀ j, 0 ≤ j → j < 5 → zG Z B (1 + j) = B + 16 + 9 * j ∧ LAW Z (B + 16 + 9 * j) 4 (fun _ => rmG j) := fun j j0 j1 => by
    obtain ⟨a, b⟩ := h6 j j0 j1
    exact ⟨by rw [oo _ (by omega), o9 _ (by omega)]; exact a, (b.keepg M8 (by omega) (by omega) (fun x x0 x1 => by omega)).w⟩
  have l0 := ln 0 (by omega) (by omega)
  have l1 := ln 1 (by omega) (by omega)
  have l2 := ln 2 (by omega) (by omega)
  have l3 := ln 3 (by omega) (by omega)
  have l4 := ln 4 (by omega) (by omega)
  rw [show B + 16 + 9 * 0 = B + 16 by omega] at l0
  rw [show B + 16 + 9 * 1 = B + 25 by omega] at l1
  rw [show B + 16 + 9 * 2 = B + 34 by omega] at l2
  rw [show B + 16 + 9 * 3 = B + 43 by omega] at l3
  rw [show B + 16 + 9 * 4 = B + 52 by omega] at l4
  exact ⟨⟨kk, by rw [oo 0 (by omega), o9 0 (by omega)]; exact h5, l0.1, l1.1, l2.1, l3.1, l4.1, by rw [oo 6 (by omega)]; exact f9, f7', l0.2, l1.2, l2.2, l3.2, l4.2, q9.1, q9.2.1⟩, h1.tr M8 (fun b _ hb => hb), nn, h3, kA⟩
set_option maxHeartbeats 1000000 in
theorem s_growerNew {d : Nat} {B A : Int} {S : Hp} {Q : Vl → Hp → Prop} (hB : 1 ≤ B) (hK : zK S B = 3) (hN : zN S = B + 1) (hT : zT S = 1) (H : ∀ S', Mg (fun x => x = B) S S' → zN S' = B + 62 → GW S' B A → HW S' (B + 1) → (∀ x j, B + 2 ≤ x → x ≤ B + 15 → zG S' x j = 0) → Q (3, 0) S') : Ev (d + 3) 27 [(2, B), (2, A)] S Q := by
  apply w_Grower_init_0
  have m1 : Mg (fun _ => False) S (zA S 1 0) := Mg.zA S 1 0
  have k1 : zK (zA S 1 0) (zN S) = 1 := zK_zA S 1 0
  have n1 : zN (zA S 1 0) = B + 1 + 1 := by rw [zN_zA, hN]
  have t1 : zT (zA S 1 0) = 1 := hT
  refine ⟨by omega, ⟨⟨by omega, by omega⟩, hT⟩, ?_⟩
  rintro _ rfl
  generalize zA S 1 0 = S1 at *
  rw [hN] at k1 ⊢
  refine ⟨⟨⟨by omega, by omega⟩, k1⟩, s_algNew (by omega) k1 n1 t1 (fun S2 m2 a2 _ _ => ⟨rfl, ?_⟩)⟩
  have n2 : zN S2 = B + 16 := by rw [a2.1]; omega
  have k2 : zK S2 B = 3 := by rw [m2.K (by omega), m1.K (by omega)]; exact hK
  have m02 : Mg (fun x => x = B) S S2 := (m1.tr m2 (fun b hb z => by omega)).none
  refine ⟨k2, ?_⟩
  rintro _ rfl
  have m3 : Mg (fun x => x = B) S2 (zS S2 B 0 (B + 1)) := Mg.zS _ _ _ _
  have hw3 : HW (zS S2 B 0 (B + 1)) (B + 1) := a2.hw.keepg m3 (by omega) (by omega)
  have z3 : ∀ x j, B + 2 ≤ x → x ≤ B + 15 → zG (zS S2 B 0 (B + 1)) x j = 0 := fun x j x0 x1 => by
    have := (a2.2.2.2 (x - B - 2) (by omega) (by omega)).2.2.2 j
    rw [show B + 1 + 1 + (x - B - 2) = x by omega] at this
    rw [m3.G (by omega) (by omega)]
    exact this
  have n3 : zN (zS S2 B 0 (B + 1)) = B + 16 := n2
  have G0 : GrI B 0 (zS S2 B 0 (B + 1)) (zS S2 B 0 (B + 1)) := ⟨Mg.refl _ _, by omega, a2.2.2.1, k2, zG_zS_at _ _ _ _, fun j j0 j1 => by omega⟩
  have M3 := m02.tr m3 (fun b _ hb => hb)
  clear m1 k1 n1 t1 m2 a2 n2 k2 m02 m3
  generalize zS S2 B 0 (B + 1) = S3 at *
  refine ⟨⟨by omega, by omega⟩, G0.step (g := 1) hB (by omega) rfl (by omega) (fun T1 k1 G1 => ⟨_, rfl, k1, ?_⟩)⟩
  rintro _ rfl
  refine ⟨⟨by omega, by omega⟩, G1.step (g := 2) hB (by omega) rfl (by omega) (fun T2 k2 G2 => ⟨_, rfl, k2, ?_⟩)⟩
  rintro _ rfl
  refine ⟨⟨by omega, by omega⟩, G2.step (g := 3) hB (by omega) rfl (by omega) (fun T3 k3 G3 => ⟨_, rfl, k3, ?_⟩)⟩
  rintro _ rfl
  refine ⟨⟨by omega, by omega⟩, G3.step (g := 4) hB (by omega) rfl (by omega) (fun T4 k4 G4 => ⟨_, rfl, k4, ?_⟩)⟩
  rintro _ rfl
  refine ⟨⟨by omega, by omega⟩, G4.step (g := 5) hB (by omega) rfl (by omega) (fun T5 k5 G5 => ⟨_, rfl, k5, ?_⟩)⟩
  rintro _ rfl
  have G5 : GrI B 5 S3 (zS T5 B 5 (B + 16 + 9 * (0 + 1 + 1 + 1 + 1))) := G5
  clear G0 G1 G2 G3 G4 k1 k2 k3 k4 k5
  generalize zS T5 B 5 (B + 16 + 9 * (0 + 1 + 1 + 1 + 1)) = S5 at *
  obtain ⟨gw, mZ, nZ, t5, kA⟩ := G5.fin (A := A) hB n3
  refine ⟨⟨⟨by omega, by omega⟩, t5, by omega, by omega⟩, ?_⟩
  rintro _ rfl
  refine ⟨kA, ?_⟩
  rintro _ rfl
  refine ⟨kA, ?_⟩
  rintro _ rfl
  refine ⟨kA, ?_⟩
  rintro _ rfl
  refine ⟨kA, ?_⟩
  rintro _ rfl
  exact H _ (M3.tr mZ (fun b _ hb => hb)) nZ gw (hw3.keepg mZ (by omega) (by omega)) (fun x j x0 x1 => by rw [mZ.G (by omega) (by omega)]; exact z3 x j x0 x1)
