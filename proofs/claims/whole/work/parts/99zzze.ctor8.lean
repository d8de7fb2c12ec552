/-! Constructors: a reader, a grower. -/
theorem zM_Mg (S : Hp) (n k : Int) (hn : 0 ≤ n) : Mg (fun _ => False) S (zM S n k) ∧ zN (zM S n k) = zN S + 1 + n ∧ zT (zM S n k) = zT S ∧ (zK (zM S n k) (zN S) = 108 ∧ zL (zM S n k) (zN S) = n) ∧ (∀ j, 0 ≤ j → j < n → zG (zM S n k) (zN S) j = zN S + 1 + j) ∧ ∀ j, 0 ≤ j → j < n → NR (zM S n k) (zN S + 1 + j) 101 k := by
  have e1 : ∀ b, (zM S n k).1 b = if b = zN S then (108, n) else if zN S < b ∧ b ≤ zN S + n then (101, k) else S.1 b := fun _ => rfl
  have e2 : ∀ b j, zG (zM S n k) b j = if b = zN S then (if 0 ≤ j ∧ j < n then zN S + 1 + j else 0) else if zN S < b ∧ b ≤ zN S + n then 0 else zG S b j := fun _ _ => rfl
  refine ⟨⟨rfl, by show zN S ≤ zN S + 1 + n; omega, fun b hb => ?_, fun b i hb _ => ?_⟩, rfl, rfl, ⟨?_, ?_⟩, fun j j0 j1 => ?_, fun j j0 j1 => ⟨?_, ?_, fun i => ?_⟩⟩
  · unfold zK zL
    rw [e1, if_neg (by omega), if_neg (by omega)]
    exact ⟨rfl, rfl⟩
  · rw [e2, if_neg (by omega), if_neg (by omega)]
  · unfold zK
    rw [e1, if_pos rfl]
  · unfold zL
    rw [e1, if_pos rfl]
  · rw [e2, if_pos rfl, if_pos ⟨j0, j1⟩]
  · unfold zK
    rw [e1, if_neg (by omega), if_pos (by omega)]
  · unfold zL
    rw [e1, if_neg (by omega), if_pos (by omega)]
  · rw [e2, if_neg (by omega), if_pos (by omega)]
theorem Mg.none {M : Int → Prop} {S S' : Hp} (h : Mg (fun _ => False) S S') : Mg M S S' := ⟨h.1, h.2.1, h.2.2.1, fun b i hb _ => h.2.2.2 b i hb (fun z => z)⟩
set_option maxHeartbeats 1000000 in
theorem s_readerNew {d : Nat} {R : Int} {S : Hp} {Q : Vl → Hp → Prop} (hR : 1 ≤ R) (hK : zK S R = 9) (hN : zN S = R + 1) (hT : zT S = 1) (H : ∀ S', Mg (fun x => x = R) S S' → zN S' = R + 20 → RDW S' R → zG S' R 1 = 0 → Q (3, 0) S') : Ev d 81 [(2, R)] S Q := by
  apply w_Reader_init_0
  obtain ⟨m1, n1, t1, k1, f1, o1, r1⟩ := put_row (S := S) (a := R) (f := 0) (k := 101) (n := 100) (m := R + 1) (by omega) hN hK
  refine ⟨by omega, ⟨⟨by omega, by omega⟩, hT, by omega, by omega⟩, ?_⟩
  rintro _ rfl
  refine ⟨k1, ?_⟩
  rintro _ rfl
  rw [hN]
  have t1 := t1.trans hT
  generalize zS (zA S 101 100) R 0 (R + 1) = S1 at *
  refine ⟨k1, ?_⟩
  rintro _ rfl
  have m2 : Mg (fun x => x = R) S1 (zS S1 R 1 0) := Mg.zS _ _ _ _
  have n2 : zN (zS S1 R 1 0) = R + 2 := by rw [zN_zS]; omega
  have t2 : zT (zS S1 R 1 0) = 1 := t1
  have k2 : zK (zS S1 R 1 0) R = 9 := k1
  have o2 : ∀ i, i ≠ 1 → zG (zS S1 R 1 0) R i = zG S1 R i := fun i hi => zG_zS_ne _ (Or.inr hi)
  have g2 : zG (zS S1 R 1 0) R 1 = 0 := zG_zS_at _ _ _ _
  generalize zS S1 R 1 0 = S2 at *
  obtain ⟨m3, n3, t3, k3, f3, r3⟩ := zM_Mg S2 15 49 (by omega)
  refine ⟨⟨⟨by omega, by omega⟩, t2, rfl, rfl⟩, ?_⟩
  rintro _ rfl
  rw [n2] at n3 k3 f3 r3 ⊢
  have t3 := t3.trans t2
  have kk3 : zK (zM S2 15 49) R = 9 := by rw [m3.K (by omega)]; exact k2
  have o3 : ∀ i, zG (zM S2 15 49) R i = zG S2 R i := fun i => m3.G (by omega) (fun z => z) i
  generalize zM S2 15 49 = S3 at *
  refine ⟨kk3, ?_⟩
  rintro _ rfl
  have m4 : Mg (fun x => x = R) S3 (zS S3 R 2 (R + 2)) := Mg.zS _ _ _ _
  have n4 : zN (zS S3 R 2 (R + 2)) = R + 18 := by rw [zN_zS]; omega
  have t4 : zT (zS S3 R 2 (R + 2)) = 1 := t3
  have k4 : zK (zS S3 R 2 (R + 2)) R = 9 := kk3
  have o4 : ∀ i, i ≠ 2 → zG (zS S3 R 2 (R + 2)) R i = zG S3 R i := fun i hi => zG_zS_ne _ (Or.inr hi)
  have g4 : zG (zS S3 R 2 (R + 2)) R 2 = R + 2 := zG_zS_at _ _ _ _
  generalize zS S3 R 2 (R + 2) = S4 at *
  obtain ⟨m5, n5, t5, k5, f5, o5, r5⟩ := put_row (S := S4) (a := R) (f := 3) (k := 101) (n := 49) (m := R + 18) (by omega) n4 k4
  refine ⟨⟨⟨by omega, by omega⟩, t4, by omega, by omega⟩, ?_⟩
  rintro _ rfl
  refine ⟨k5, ?_⟩
  rintro _ rfl
  rw [n4]
  have t5 := t5.trans t4
  generalize zS (zA S4 101 49) R 3 (R + 18) = S5 at *
  obtain ⟨m6, n6, t6, k6, f6, o6, r6⟩ := put_row (S := S5) (a := R) (f := 4) (k := 101) (n := 49) (m := R + 19) (by omega) (by omega) k5
  refine ⟨⟨⟨by omega, by omega⟩, t5, by omega, by omega⟩, ?_⟩
  rintro _ rfl
  rw [show zN S5 = R + 19 by omega]
  refine ⟨k6, ?_⟩
  rintro _ rfl
  generalize zS (zA S5 101 49) R 4 (R + 19) = S6 at *
  refine ⟨k6, ?_⟩
  rintro _ rfl
  refine ⟨k6, ?_⟩
  rintro _ rfl
  refine ⟨k6, ?_⟩
  rintro _ rfl
  refine ⟨k6, ?_⟩
  rintro _ rfl
  refine ⟨k6, ?_⟩
  rintro _ rfl
  refine ⟨k6, ?_⟩
  rintro _ rfl
  have m7 : Mg (fun x => x = R) S6 (zS (zS (zS (zS (zS (zS S6 R 5 3) R 6 0) R 7 0) R 8 0) R 9 0) R 10 (-1)) := (((((Mg.zS _ _ _ _).tr (Mg.zS _ _ _ _) (fun b _ hb => hb)).tr (Mg.zS _ _ _ _) (fun b _ hb => hb)).tr (Mg.zS _ _ _ _) (fun b _ hb => hb)).tr (Mg.zS _ _ _ _) (fun b _ hb => hb)).tr (Mg.zS _ _ _ _) (fun b _ hb => hb)
  have o7 : ∀ i, i < 5 → zG (zS (zS (zS (zS (zS (zS S6 R 5 3) R 6 0) R 7 0) R 8 0) R 9 0) R 10 (-1)) R i = zG S6 R i := fun i hi => by
    rw [zG_zS_ne _ (Or.inr (by omega)), zG_zS_ne _ (Or.inr (by omega)), zG_zS_ne _ (Or.inr (by omega)), zG_zS_ne _ (Or.inr (by omega)), zG_zS_ne _ (Or.inr (by omega)), zG_zS_ne _ (Or.inr (by omega))]
  have n7 : zN (zS (zS (zS (zS (zS (zS S6 R 5 3) R 6 0) R 7 0) R 8 0) R 9 0) R 10 (-1)) = R + 20 := by
    show zN S6 = R + 20
    omega
  have k7 : zK (zS (zS (zS (zS (zS (zS S6 R 5 3) R 6 0) R 7 0) R 8 0) R 9 0) R 10 (-1)) R = 9 := k6
  generalize zS (zS (zS (zS (zS (zS S6 R 5 3) R 6 0) R 7 0) R 8 0) R 9 0) R 10 (-1) = S7 at *
  have m57 : Mg (fun x => x = R) S5 S7 := m6.tr m7 (fun b _ hb => hb)
  have m47 : Mg (fun x => x = R) S4 S7 := m5.tr m57 (fun b _ hb => hb)
  have m37 : Mg (fun x => x = R) S3 S7 := m4.tr m47 (fun b _ hb => hb)
  have m27 : Mg (fun x => x = R) S2 S7 := m3.none.tr m37 (fun b _ hb => hb)
  have m17 : Mg (fun x => x = R) S1 S7 := m2.tr m27 (fun b _ hb => hb)
  have q1 := r1.keepg m17 (by omega) (by omega)
  have q5 := r5.keepg m57 (by omega) (by omega)
  have q6 := r6.keepg m7 (by omega) (by omega)
  refine H S7 (m1.tr m17 (fun b _ hb => hb)) n7 ⟨k7, ?_, ?_, ?_, ?_, ⟨q1.1, q1.2.1⟩, ⟨?_, ?_⟩, fun j j0 j1 => ?_, fun j j0 j1 => ?_⟩ ?_
  · rw [o7 0 (by omega), o6 0 (by omega), o5 0 (by omega), o4 0 (by omega), o3, o2 0 (by omega)]
    exact f1
  · rw [o7 2 (by omega), o6 2 (by omega), o5 2 (by omega)]
    exact g4
  · rw [o7 3 (by omega), o6 3 (by omega)]
    exact f5
  · rw [o7 4 (by omega)]
    exact f6
  · rw [m37.K (by omega)]
    exact k3.1
  · rw [m37.L (by omega)]
    exact k3.2
  · rw [m37.G (by omega) (by omega), f3 j j0 j1]
    omega
  · by_cases a : j < 15
    · have := (r3 j j0 a).keepg m37 (by omega) (by omega)
      rw [show R + 2 + 1 + j = R + 3 + j by omega] at this
      exact ⟨this.1, this.2.1⟩
    · by_cases b : j = 15
      · rw [b, show R + 3 + 15 = R + 18 by omega]
        exact ⟨q5.1, q5.2.1⟩
      · rw [show R + 3 + j = R + 19 by omega]
        exact ⟨q6.1, q6.2.1⟩
  · rw [o7 1 (by omega), o6 1 (by omega), o5 1 (by omega), o4 1 (by omega), o3]
    exact g2
/-- a field gets new lines -/
theorem s_putLines {d : Nat} {B f c v m kd : Int} {S : Hp} {Q : Vl → Hp → Prop} (hB : 1 ≤ B) (hBm : B < m) (hK : zK S B = kd) (hN : zN S = m) (hT : zT S = 1) (hc : 0 ≤ c ∧ c ≤ 18) (hv : 1 ≤ v ∧ v ≤ 200) (H : ∀ S1, zK S1 B = kd → ∀ S', S' = zS S1 B f m → Mg (fun x => x = B) S S' → zN S' = m + 1 + 2 * c → zT S' = 1 → zK S' B = kd → zG S' B f = m → (∀ i, i ≠ f → zG S' B i = zG S B i) → NLs S' m c v → Q (2, m) S1) : Ev (d + 2) 161 [(0, c), (0, v)] S Q := by
  refine s_newLines (by omega) hT hc hv (fun S1 m1 n1 l1 => ?_)
  rw [hN] at n1 l1 ⊢
  have k1 : zK S1 B = kd := by rw [m1.K (by omega)]; exact hK
  have m2 : Mg (fun x => x = B) S1 (zS S1 B f m) := Mg.zS _ _ _ _
  exact H S1 k1 _ rfl (m1.none.tr m2 (fun b _ hb => hb)) (by rw [zN_zS]; omega) (m1.1.trans hT) k1 (zG_zS_at _ _ _ _) (fun i hi => by rw [zG_zS_ne _ (Or.inr hi), m1.G (by omega) (fun z => z)]) (l1.keepg m2 (by omega) (by omega) (fun x x0 x1 => by omega))
set_option maxHeartbeats 1000000 in
theorem s_growerNew {d : Nat} {B A : Int} {S : Hp} {Q : Vl → Hp → Prop} (hB : 1 ≤ B) (hK : zK S B = 3) (hN : zN S = B + 1) (hT : zT S = 1) (H : ∀ S', Mg (fun x => x = B) S S' → zN S' = B + 62 → GW S' B A → HW S' (B + 1) → (∀ x j, B + 2 ≤ x → x ≤ B + 15 → zG S' x j = 0) → Q (3, 0) S') : Ev (d + 3) 27 [(2, B), (2, A)] S Q := by
  apply w_Grower_init_0
  have m1 : Mg (fun _ => False) S (zA S 1 0) := Mg.zA S 1 0
  have k1 : zK (zA S 1 0) (zN S) = 1 := zK_zA S 1 0
  have n1 : zN (zA S 1 0) = B + 1 + 1 := by rw [zN_zA, hN]
  have t1 : zT (zA S 1 0) = 1 := hT
  refine ⟨by omega, ⟨⟨by omega, by omega⟩, hT⟩, ?_⟩
  rintro _ rfl
  generalize zA S 1 0 = S1 at *
  rw [hN] at k1 ⊢
  refine ⟨⟨⟨by omega, by omega⟩, k1⟩, s_algNew (by omega) k1 n1 t1 (fun S2 m2 a2 _ _ => ⟨rfl, ?_⟩)⟩
  have n2 : zN S2 = B + 16 := by rw [a2.1]; omega
  have t2 : zT S2 = 1 := a2.2.2.1
  have k2 : zK S2 B = 3 := by rw [m2.K (by omega), m1.K (by omega)]; exact hK
  have m02 : Mg (fun _ => False) S S2 := m1.tr m2 (fun b hb z => by omega)
  refine ⟨k2, ?_⟩
  rintro _ rfl
  have m3 : Mg (fun x => x = B) S2 (zS S2 B 0 (B + 1)) := Mg.zS _ _ _ _
  have f3 : zG (zS S2 B 0 (B + 1)) B 0 = B + 1 := zG_zS_at _ _ _ _
  have n3 : zN (zS S2 B 0 (B + 1)) = B + 16 := n2
  have t3 : zT (zS S2 B 0 (B + 1)) = 1 := t2
  have k3 : zK (zS S2 B 0 (B + 1)) B = 3 := k2
  generalize zS S2 B 0 (B + 1) = S3 at *
  refine ⟨⟨by omega, by omega⟩, s_putLines hB (by omega) k3 n3 t3 (by omega) (by omega) (fun T4 kT4 S4 e4 m4 n4 t4 k4 f4 o4 l4 => ⟨_, rfl, kT4, ?_⟩)⟩
  intro S4' e4'
  rw [e4', ← e4]
  clear e4 e4' kT4 S4'
  rw [show B + 16 + 1 + 2 * 4 = B + 25 by omega] at n4
  refine ⟨⟨by omega, by omega⟩, s_putLines hB (by omega) k4 n4 t4 (by omega) (by omega) (fun T5 kT5 S5 e5 m5 n5 t5 k5 f5 o5 l5 => ⟨_, rfl, kT5, ?_⟩)⟩
  intro S5' e5'
  rw [e5', ← e5]
  clear e5 e5' kT5 S5'
  rw [show B + 25 + 1 + 2 * 4 = B + 34 by omega] at n5
  refine ⟨⟨by omega, by omega⟩, s_putLines hB (by omega) k5 n5 t5 (by omega) (by omega) (fun T6 kT6 S6 e6 m6 n6 t6 k6 f6 o6 l6 => ⟨_, rfl, kT6, ?_⟩)⟩
  intro S6' e6'
  rw [e6', ← e6]
  clear e6 e6' kT6 S6'
  rw [show B + 34 + 1 + 2 * 4 = B + 43 by omega] at n6
  refine ⟨⟨by omega, by omega⟩, s_putLines hB (by omega) k6 n6 t6 (by omega) (by omega) (fun T7 kT7 S7 e7 m7 n7 t7 k7 f7 o7 l7 => ⟨_, rfl, kT7, ?_⟩)⟩
  intro S7' e7'
  rw [e7', ← e7]
  clear e7 e7' kT7 S7'
  rw [show B + 43 + 1 + 2 * 4 = B + 52 by omega] at n7
  refine ⟨⟨by omega, by omega⟩, s_putLines hB (by omega) k7 n7 t7 (by omega) (by omega) (fun T8 kT8 S8 e8 m8 n8 t8 k8 f8 o8 l8 => ⟨_, rfl, kT8, ?_⟩)⟩
  intro S8' e8'
  rw [e8', ← e8]
  clear e8 e8' kT8 S8'
  rw [show B + 52 + 1 + 2 * 4 = B + 61 by omega] at n8
  obtain ⟨m9, n9, t9, k9, f9, o9, r9⟩ := put_row (S := S8) (a := B) (f := 6) (k := 101) (n := 84) (m := B + 61) (by omega) n8 k8
  refine ⟨⟨⟨by omega, by omega⟩, t8, by omega, by omega⟩, ?_⟩
  rintro _ rfl
  refine ⟨k9, ?_⟩
  rintro _ rfl
  rw [n8]
  generalize zS (zA S8 101 84) B 6 (B + 61) = S9 at *
  refine ⟨k9, ?_⟩
  rintro _ rfl
  refine ⟨k9, ?_⟩
  rintro _ rfl
  refine ⟨k9, ?_⟩
  rintro _ rfl
  have mm : Mg (fun x => x = B) S9 (zS (zS (zS S9 B 8 2) B 9 3) B 7 A) := ((Mg.zS _ _ _ _).tr (Mg.zS _ _ _ _) (fun b _ hb => hb)).tr (Mg.zS _ _ _ _) (fun b _ hb => hb)
  have oo : ∀ i, i < 7 → zG (zS (zS (zS S9 B 8 2) B 9 3) B 7 A) B i = zG S9 B i := fun i hi => by
    rw [zG_zS_ne _ (Or.inr (by omega)), zG_zS_ne _ (Or.inr (by omega)), zG_zS_ne _ (Or.inr (by omega))]
  have f7' : zG (zS (zS (zS S9 B 8 2) B 9 3) B 7 A) B 7 = A := zG_zS_at _ _ _ _
  have nn : zN (zS (zS (zS S9 B 8 2) B 9 3) B 7 A) = B + 62 := by
    show zN S9 = B + 62
    omega
  have kk : zK (zS (zS (zS S9 B 8 2) B 9 3) B 7 A) B = 3 := k9
  generalize zS (zS (zS S9 B 8 2) B 9 3) B 7 A = Z at *
  have M8 : Mg (fun x => x = B) S8 Z := m9.tr mm (fun b _ hb => hb)
  have M7 : Mg (fun x => x = B) S7 Z := m8.tr M8 (fun b _ hb => hb)
  have M6 : Mg (fun x => x = B) S6 Z := m7.tr M7 (fun b _ hb => hb)
  have M5 : Mg (fun x => x = B) S5 Z := m6.tr M6 (fun b _ hb => hb)
  have M4 : Mg (fun x => x = B) S4 Z := m5.tr M5 (fun b _ hb => hb)
  have M2 : Mg (fun x => x = B) S2 Z := m3.tr (m4.tr M4 (fun b _ hb => hb)) (fun b _ hb => hb)
  have A2 : ∀ j, 0 ≤ j → j < 14 → zG Z (B + 1) (0 + j) = B + 1 + 1 + j ∧ NR Z (B + 1 + 1 + j) (agK j) (agL j) := fun j j0 j1 => by
    obtain ⟨a, b⟩ := a2.2.2.2 j j0 j1
    exact ⟨by rw [M2.G (by omega) (by omega)]; exact a, b.keepg M2 (by omega) (by omega)⟩
  have hw2 : HW S2 (B + 1) := a2.hw
  have hw : HW Z (B + 1) := by
    have K : ∀ x, B + 1 ≤ x → x ≤ B + 15 → zK Z x = zK S2 x ∧ zL Z x = zL S2 x ∧ ∀ i, zG Z x i = zG S2 x i := fun x x0 x1 => ⟨M2.K (by omega), M2.L (by omega), fun i => M2.G (by omega) (by omega) i⟩
    unfold HW rowI rowB at hw2 ⊢
    have g := (K (B + 1) (by omega) (by omega)).2.2
    rw [(K (B + 1) (by omega) (by omega)).1, (K (B + 1 + 1) (by omega) (by omega)).1, (K (B + 1 + 2) (by omega) (by omega)).1, (K (B + 1 + 3) (by omega) (by omega)).1, (K (B + 1 + 4) (by omega) (by omega)).1, (K (B + 1 + 5) (by omega) (by omega)).1, (K (B + 1 + 6) (by omega) (by omega)).1, (K (B + 1 + 7) (by omega) (by omega)).1, (K (B + 1 + 8) (by omega) (by omega)).1, (K (B + 1 + 9) (by omega) (by omega)).1, (K (B + 1 + 10) (by omega) (by omega)).1, (K (B + 1 + 11) (by omega) (by omega)).1, (K (B + 1 + 12) (by omega) (by omega)).1, (K (B + 1 + 13) (by omega) (by omega)).1, (K (B + 1 + 14) (by omega) (by omega)).1, (K (B + 1 + 1) (by omega) (by omega)).2.1, (K (B + 1 + 2) (by omega) (by omega)).2.1, (K (B + 1 + 3) (by omega) (by omega)).2.1, (K (B + 1 + 4) (by omega) (by omega)).2.1, (K (B + 1 + 5) (by omega) (by omega)).2.1, (K (B + 1 + 6) (by omega) (by omega)).2.1, (K (B + 1 + 7) (by omega) (by omega)).2.1, (K (B + 1 + 8) (by omega) (by omega)).2.1, (K (B + 1 + 9) (by omega) (by omega)).2.1, (K (B + 1 + 10) (by omega) (by omega)).2.1, (K (B + 1 + 11) (by omega) (by omega)).2.1, (K (B + 1 + 12) (by omega) (by omega)).2.1, (K (B + 1 + 13) (by omega) (by omega)).2.1, (K (B + 1 + 14) (by omega) (by omega)).2.1, g, g, g, g, g, g, g, g, g, g, g, g, g, g]
    exact hw2
  refine H Z (m02.none.tr M2 (fun b _ hb => hb)) nn ⟨kk, ?_, ?_, ?_, ?_, ?_, ?_, ?_, f7', ?_, ?_, ?_, ?_, ?_, ?_⟩ hw (fun x j x0 x1 => ?_)
  · rw [oo 0 (by omega), o9 0 (by omega), o8 0 (by omega), o7 0 (by omega), o6 0 (by omega), o5 0 (by omega), o4 0 (by omega)]
    exact f3
  · rw [oo 1 (by omega), o9 1 (by omega), o8 1 (by omega), o7 1 (by omega), o6 1 (by omega), o5 1 (by omega)]
    exact f4
  · rw [oo 2 (by omega), o9 2 (by omega), o8 2 (by omega), o7 2 (by omega), o6 2 (by omega)]
    exact f5
  · rw [oo 3 (by omega), o9 3 (by omega), o8 3 (by omega), o7 3 (by omega)]
    exact f6
  · rw [oo 4 (by omega), o9 4 (by omega), o8 4 (by omega)]
    exact f7
  · rw [oo 5 (by omega), o9 5 (by omega)]
    exact f8
  · rw [oo 6 (by omega)]
    exact f9
  · exact (l4.keepg M4 (by omega) (by omega) (fun x x0 x1 => by omega)).w
  · exact (l5.keepg M5 (by omega) (by omega) (fun x x0 x1 => by omega)).w
  · exact (l6.keepg M6 (by omega) (by omega) (fun x x0 x1 => by omega)).w
  · exact (l7.keepg M7 (by omega) (by omega) (fun x x0 x1 => by omega)).w
  · exact (l8.keepg M8 (by omega) (by omega) (fun x x0 x1 => by omega)).w
  · have := r9.keepg mm (by omega) (by omega)
    exact ⟨this.1, this.2.1⟩
  · have := (A2 (x - B - 2) (by omega) (by omega)).2.2.2 j
    rw [show B + 1 + 1 + (x - B - 2) = x by omega] at this
    exact this
