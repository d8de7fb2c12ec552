/-! The class's object: its shape; its places, shelves and book made. -/
/-- pointers and rows of pointers -/
def CP (S : Hp) (v u : Int) : Prop := zK S 1 = 11 ∧ zG S 1 0 = 2 ∧ zG S 1 1 = v ∧ zG S 1 2 = u ∧ ((v = 22 ∧ u = 37) ∨ (v = 37 ∧ u = 22)) ∧ zG S 1 3 = 52 ∧ zG S 1 5 = 67 ∧ zG S 1 6 = 68 ∧ zG S 1 7 = 69 ∧ zG S 1 9 = 70 ∧ zG S 1 10 = 80 ∧ zG S 1 11 = 90 ∧ zG S 1 12 = 141 ∧ zG S 1 13 = 239 ∧ (zK S 67 = 105 ∧ zL S 67 = 7) ∧ (zK S 68 = 106 ∧ zL S 68 = 6) ∧ (zK S 69 = 107 ∧ zL S 69 = 7) ∧ (∀ c, 0 ≤ c → c < 7 → zG S 67 c = 301 + 6 * c) ∧ (∀ s, 0 ≤ s → s < 6 → zG S 68 s = 343 + 12 * s) ∧ ∀ k, 0 ≤ k → k < 7 → zG S 69 k = 415 + 10 * k
/-- the shapes of all that the class has -/
def CO (S : Hp) : Prop := RDW S 2 ∧ VW S 22 ∧ VW S 37 ∧ VW S 52 ∧ QW S 70 128 ∧ QW S 80 128 ∧ MW S 90 ∧ XW S 141 ∧ GW S 239 90 ∧ HW S 240 ∧ (∀ c, 0 ≤ c → c < 7 → PW S (301 + 6 * c)) ∧ (∀ s, 0 ≤ s → s < 6 → SW S (343 + 12 * s)) ∧ ∀ k, 0 ≤ k → k < 7 → QW S (415 + 10 * k) 31
def plI (S : Hp) (c : Int) : Prop := PW S (301 + 6 * c) ∧ PR S (301 + 6 * c) ∧ zG S (301 + 6 * c) 0 = c ∧ zG S (301 + 6 * c) 1 = 0 ∧ zG S 67 c = 301 + 6 * c
def shI (S : Hp) (s : Int) : Prop := SW S (343 + 12 * s) ∧ zG S (343 + 12 * s) 0 = 0 ∧ zG S (343 + 12 * s) 2 = 0 ∧ zG S (343 + 12 * s) 3 = 0 ∧ zG S 68 s = 343 + 12 * s
def bkI (S : Hp) (k : Int) : Prop := QW S (415 + 10 * k) 31 ∧ zG S 69 k = 415 + 10 * k
theorem plI.md {S S' : Hp} {M : Int → Prop} {c : Int} (h : plI S c) (m : Mg M S S') (hc : 0 ≤ c ∧ c < 7) (hN : 301 + 6 * c + 5 < zN S) (hM : ∀ x, (301 + 6 * c ≤ x ∧ x ≤ 301 + 6 * c + 5) → ¬ M x) (h67 : zG S' 67 c = zG S 67 c) : plI S' c := by
  have g : ∀ i, zG S' (301 + 6 * c) i = zG S (301 + 6 * c) i := fun i => m.G (by omega) (hM _ (by omega)) i
  exact ⟨h.1.keepg m hN (hM _ (by omega)), fun e e0 e1 => by rw [m.G (by omega) (hM _ (by omega))]; exact h.2.1 e e0 e1, (g 0).trans h.2.2.1, (g 1).trans h.2.2.2.1, h67.trans h.2.2.2.2⟩
theorem shI.md {S S' : Hp} {M : Int → Prop} {c : Int} (h : shI S c) (m : Mg M S S') (hc : 0 ≤ c ∧ c < 6) (hN : 343 + 12 * c + 11 < zN S) (hM : ∀ x, (343 + 12 * c ≤ x ∧ x ≤ 343 + 12 * c + 11) → ¬ M x) (h68 : zG S' 68 c = zG S 68 c) : shI S' c := by
  have g : ∀ i, zG S' (343 + 12 * c) i = zG S (343 + 12 * c) i := fun i => m.G (by omega) (hM _ (by omega)) i
  exact ⟨h.1.keepg m hN (fun x x0 x1 => hM _ (by omega)), (g 0).trans h.2.1, (g 2).trans h.2.2.1, (g 3).trans h.2.2.2.1, h68.trans h.2.2.2.2⟩
theorem bkI.md {S S' : Hp} {M : Int → Prop} {c : Int} (h : bkI S c) (m : Mg M S S') (hc : 0 ≤ c ∧ c < 7) (hN : 415 + 10 * c + 9 < zN S) (hM : ∀ x, (415 + 10 * c ≤ x ∧ x ≤ 415 + 10 * c + 9) → ¬ M x) (h69 : zG S' 69 c = zG S 69 c) : bkI S' c := ⟨h.1.keepg m hN (fun x x0 x1 => hM _ (by omega)), h69.trans h.2⟩
/-- a row of pointers gets a new object -/
theorem arr_put {S S2 : Hp} {kd a i m : Int} (ha : a < m) (hN : zN S = m) (m2 : Mg (fun x => x = m) (zA S kd 0) S2) : Mg (fun x => x = a) S2 (zS S2 a i m) ∧ Mg (fun x => x = a) S (zS S2 a i m) ∧ zT (zS S2 a i m) = zT S ∧ zG (zS S2 a i m) a i = m ∧ (∀ j, j ≠ i → zG (zS S2 a i m) a j = zG S a j) ∧ zK S2 a = zK S a ∧ zL S2 a = zL S a := by
  have m1 : Mg (fun _ => False) S (zA S kd 0) := Mg.zA S kd 0
  have m02 : Mg (fun _ => False) S S2 := m1.tr m2 (fun b hb z => by omega)
  have m3 : Mg (fun x => x = a) S2 (zS S2 a i m) := Mg.zS _ _ _ _
  exact ⟨m3, m02.none.tr m3 (fun b _ hb => hb), m02.1, zG_zS_at _ _ _ _, fun j hj => by rw [zG_zS_ne _ (Or.inr hj), m02.G (by omega) (fun z => z)], m02.K (by omega), m02.L (by omega)⟩
theorem s_crcPlaces {d : Nat} {S : Hp} {u w : Int} {Q : Vl → Hp → Prop} (hu : 0 ≤ u ∧ u ≤ 700) (hw : 0 ≤ w ∧ w ≤ 63000) (hN : zN S = 301) (hT : zT S = 1) (hK : zK S 1 = 11) (h : C13 S) (H : ∀ S', Mg (fun x => x = 67) S S' → zN S' = 343 → zT S' = 1 → zK S' 1 = 11 → C13 S' → (∀ c, 0 ≤ c → c < 7 → plI S' c) → At (d + 5) 96 c96_190 [(0, (2, 1)), (1, (0, 0)), (1000, (0, u + 11 * 7)), (1001, (0, w + 508 * 7)), (1002, (0, 1400)), (1003, (0, 120000))] [] S' Q) : At (d + 5) 96 c96_162 [(0, (2, 1)), (1, (0, 0)), (1000, (0, u)), (1001, (0, w)), (1002, (0, 1400)), (1003, (0, 120000))] [] S Q := by
  rw [show u = u + 11 * 0 by omega, show w = w + 508 * 0 by omega]
  refine loopU (P := fun c S' => At (d + 5) 96 c96_162 [(0, (2, 1)), (1, (0, c)), (1000, (0, u + 11 * c)), (1001, (0, w + 508 * c)), (1002, (0, 1400)), (1003, (0, 120000))] [] S' Q) (I := fun c S' => 0 ≤ c ∧ Mg (fun x => x = 67) S S' ∧ zN S' = 301 + 6 * c ∧ zT S' = 1 ∧ zK S' 1 = 11 ∧ C13 S' ∧ ∀ e, 0 ≤ e → e < c → plI S' e) 7 ?_ ?_ 0 S (by omega) ⟨by omega, Mg.refl _ _, by omega, hT, hK, h, fun e e0 e1 => by omega⟩
  · rintro c S1 hc ⟨c0, m1, n1, t1, k1, h1, p1⟩ hk
    apply w_Crc_init_162
    obtain ⟨a2, b2, c2⟩ := zA_new S1 7 (301 + 6 * c) n1 t1
    refine ⟨fun z => by omega, fun _ => ⟨k1, ⟨⟨by omega, by omega⟩, t1⟩, ?_⟩⟩
    rintro _ rfl
    rw [n1, h1.1.2.2.2.2.2.1]
    refine ⟨⟨⟨by omega, by omega⟩, a2⟩, s_placeNew (by omega) a2 b2 c2 (fun S2 m2 r2 x2 y2 z2 => ⟨rfl, ?_⟩)⟩
    obtain ⟨q1, q2, q3, q4, q5, q6, q7⟩ := arr_put (a := 67) (i := c) (by omega) n1 m2
    have n2 : zN S2 = 301 + 6 * c + 6 := by rw [r2.1]; omega
    have h67 := h1.1.2.1
    refine ⟨⟨by rw [q6]; exact h67.1, c0, by rw [q7, h67.2]; omega, r2.2.1⟩, ?_⟩
    rintro _ rfl _ rfl
    rw [w32_id (by omega) (by omega)]
    have k3 : zK (zS S2 67 c (301 + 6 * c)) 1 = 11 := by rw [q2.K (by omega)]; exact k1
    have h3 := h1.md q2 (by omega) (fun x hx => by omega)
    have := hk (zS S2 67 c (301 + 6 * c)) ⟨by omega, m1.tr q2 (fun b _ hb => hb), by rw [zN_zS]; omega, q3.trans t1, k3, h3, fun e e0 e1 => ?_⟩
    · rw [show u + 11 * c + 1 + 10 = u + 11 * (c + 1) by omega, show w + 508 * c + 8 + 500 = w + 508 * (c + 1) by omega]
      exact this
    · by_cases q : e = c
      · rw [q]
        have g : ∀ i, zG (zS S2 67 c (301 + 6 * c)) (301 + 6 * c) i = zG S2 (301 + 6 * c) i := fun i => q1.G (by omega) (by omega) i
        exact ⟨r2.pw.keepg q1 (by omega) (by omega), fun e e0 e1 => by rw [q1.G (by omega) (by omega)]; exact r2.pr e e0 e1, (g 0).trans x2, (g 1).trans y2, q4⟩
      · exact (p1 e e0 (by omega)).md q2 (by omega) (by omega) (fun x hx => by omega) (q5 e q)
  · rintro S1 ⟨-, m1, n1, t1, k1, h1, p1⟩
    apply w_Crc_init_162
    exact ⟨fun _ => H S1 m1 n1 t1 k1 h1 p1, fun z => absurd (Int.le_refl 7) z⟩
theorem s_crcShelves {d : Nat} {S : Hp} {u w : Int} {Q : Vl → Hp → Prop} (hu : 0 ≤ u ∧ u ≤ 800) (hw : 0 ≤ w ∧ w ≤ 70000) (hN : zN S = 343) (hT : zT S = 1) (hK : zK S 1 = 11) (h : C13 S) (hP : ∀ c, 0 ≤ c → c < 7 → plI S c) (H : ∀ S', Mg (fun x => x = 68) S S' → zN S' = 415 → zT S' = 1 → zK S' 1 = 11 → C13 S' → (∀ c, 0 ≤ c → c < 7 → plI S' c) → (∀ s, 0 ≤ s → s < 6 → shI S' s) → At (d + 5) 96 c96_217 [(0, (2, 1)), (1, (0, 0)), (1000, (0, u + 51 * 6)), (1001, (0, w + 4105 * 6)), (1002, (0, 1400)), (1003, (0, 120000))] [] S' Q) : At (d + 5) 96 c96_190 [(0, (2, 1)), (1, (0, 0)), (1000, (0, u)), (1001, (0, w)), (1002, (0, 1400)), (1003, (0, 120000))] [] S Q := by
  rw [show u = u + 51 * 0 by omega, show w = w + 4105 * 0 by omega]
  refine loopU (P := fun c S' => At (d + 5) 96 c96_190 [(0, (2, 1)), (1, (0, c)), (1000, (0, u + 51 * c)), (1001, (0, w + 4105 * c)), (1002, (0, 1400)), (1003, (0, 120000))] [] S' Q) (I := fun c S' => 0 ≤ c ∧ Mg (fun x => x = 68) S S' ∧ zN S' = 343 + 12 * c ∧ zT S' = 1 ∧ zK S' 1 = 11 ∧ C13 S' ∧ (∀ e, 0 ≤ e → e < 7 → plI S' e) ∧ ∀ e, 0 ≤ e → e < c → shI S' e) 6 ?_ ?_ 0 S (by omega) ⟨by omega, Mg.refl _ _, by omega, hT, hK, h, hP, fun e e0 e1 => by omega⟩
  · rintro c S1 hc ⟨c0, m1, n1, t1, k1, h1, p1, s1⟩ hk
    apply w_Crc_init_190
    obtain ⟨a2, b2, c2⟩ := zA_new S1 10 (343 + 12 * c) n1 t1
    refine ⟨fun z => by omega, fun _ => ⟨k1, ⟨⟨by omega, by omega⟩, t1⟩, ?_⟩⟩
    rintro _ rfl
    rw [n1, h1.1.2.2.2.2.2.2.1]
    refine ⟨⟨⟨by omega, by omega⟩, a2⟩, s_shelfNew (by omega) a2 b2 c2 (fun S2 m2 n2 w2 x2 y2 z2 _ _ _ _ => ⟨rfl, ?_⟩)⟩
    obtain ⟨q1, q2, q3, q4, q5, q6, q7⟩ := arr_put (a := 68) (i := c) (by omega) n1 m2
    have h68 := h1.1.2.2.1
    refine ⟨⟨by rw [q6]; exact h68.1, c0, by rw [q7, h68.2]; omega, w2.1⟩, ?_⟩
    rintro _ rfl _ rfl
    rw [w32_id (by omega) (by omega)]
    have k3 : zK (zS S2 68 c (343 + 12 * c)) 1 = 11 := by rw [q2.K (by omega)]; exact k1
    have h3 := h1.md q2 (by omega) (fun x hx => by omega)
    have := hk (zS S2 68 c (343 + 12 * c)) ⟨by omega, m1.tr q2 (fun b _ hb => hb), by rw [zN_zS]; omega, q3.trans t1, k3, h3, fun e e0 e1 => (p1 e e0 e1).md q2 (by omega) (by omega) (fun x hx => by omega) (q2.G (by omega) (by omega) e), fun e e0 e1 => ?_⟩
    · rw [show u + 51 * c + 1 + 50 = u + 51 * (c + 1) by omega, show w + 4105 * c + 5 + 4100 = w + 4105 * (c + 1) by omega]
      exact this
    · by_cases q : e = c
      · rw [q]
        have g : ∀ i, zG (zS S2 68 c (343 + 12 * c)) (343 + 12 * c) i = zG S2 (343 + 12 * c) i := fun i => q1.G (by omega) (by omega) i
        exact ⟨w2.keepg q1 (by omega) (fun x x0 x1 => by omega), (g 0).trans x2, (g 2).trans y2, (g 3).trans z2, q4⟩
      · exact (s1 e e0 (by omega)).md q2 (by omega) (by omega) (fun x hx => by omega) (q5 e q)
  · rintro S1 ⟨-, m1, n1, t1, k1, h1, p1, s1⟩
    apply w_Crc_init_190
    exact ⟨fun _ => H S1 m1 n1 t1 k1 h1 p1 s1, fun z => absurd (Int.le_refl 6) z⟩
theorem s_crcBook {d : Nat} {S : Hp} {u w : Int} {Q : Vl → Hp → Prop} (hu : 0 ≤ u ∧ u ≤ 1100) (hw : 0 ≤ w ∧ w ≤ 91000) (hN : zN S = 415) (hT : zT S = 1) (hK : zK S 1 = 11) (h : C13 S) (hP : ∀ c, 0 ≤ c → c < 7 → plI S c) (hS : ∀ s, 0 ≤ s → s < 6 → shI S s) (H : ∀ S', Mg (fun x => x = 69) S S' → zN S' = 485 → zT S' = 1 → zK S' 1 = 11 → C13 S' → (∀ c, 0 ≤ c → c < 7 → plI S' c) → (∀ s, 0 ≤ s → s < 6 → shI S' s) → (∀ k, 0 ≤ k → k < 7 → bkI S' k) → Q (3, 0) S') : At (d + 5) 96 c96_217 [(0, (2, 1)), (1, (0, 0)), (1000, (0, u)), (1001, (0, w)), (1002, (0, 1400)), (1003, (0, 120000))] [] S Q := by
  rw [show u = u + 41 * 0 by omega, show w = w + 4003 * 0 by omega]
  refine loopU (P := fun c S' => At (d + 5) 96 c96_217 [(0, (2, 1)), (1, (0, c)), (1000, (0, u + 41 * c)), (1001, (0, w + 4003 * c)), (1002, (0, 1400)), (1003, (0, 120000))] [] S' Q) (I := fun c S' => 0 ≤ c ∧ Mg (fun x => x = 69) S S' ∧ zN S' = 415 + 10 * c ∧ zT S' = 1 ∧ zK S' 1 = 11 ∧ C13 S' ∧ (∀ e, 0 ≤ e → e < 7 → plI S' e) ∧ (∀ e, 0 ≤ e → e < 6 → shI S' e) ∧ ∀ e, 0 ≤ e → e < c → bkI S' e) 7 ?_ ?_ 0 S (by omega) ⟨by omega, Mg.refl _ _, by omega, hT, hK, h, hP, hS, fun e e0 e1 => by omega⟩
  · rintro c S1 hc ⟨c0, m1, n1, t1, k1, h1, p1, s1, b1⟩ hk
    apply w_Crc_init_217
    obtain ⟨a2, b2, c2⟩ := zA_new S1 8 (415 + 10 * c) n1 t1
    refine ⟨fun z => by omega, fun _ => ⟨k1, ⟨⟨by omega, by omega⟩, t1⟩, ?_⟩⟩
    rintro _ rfl
    rw [n1, h1.1.2.2.2.2.2.2.2.1]
    refine ⟨⟨⟨by omega, by omega⟩, a2⟩, s_quotNew (by omega) a2 b2 c2 (by omega) (fun S2 m2 n2 w2 x2 y2 z2 l2 => ⟨rfl, ?_⟩)⟩
    obtain ⟨q1, q2, q3, q4, q5, q6, q7⟩ := arr_put (a := 69) (i := c) (by omega) n1 m2
    have h69 := h1.1.2.2.2.1
    refine ⟨⟨by rw [q6]; exact h69.1, c0, by rw [q7, h69.2]; omega, w2⟩, ?_⟩
    rintro _ rfl _ rfl
    rw [w32_id (by omega) (by omega)]
    have k3 : zK (zS S2 69 c (415 + 10 * c)) 1 = 11 := by rw [q2.K (by omega)]; exact k1
    have h3 := h1.md q2 (by omega) (fun x hx => by omega)
    have qw : QW S2 (415 + 10 * c) 31 := ⟨w2, x2, l2.w⟩
    have := hk (zS S2 69 c (415 + 10 * c)) ⟨by omega, m1.tr q2 (fun b _ hb => hb), by rw [zN_zS]; omega, q3.trans t1, k3, h3, fun e e0 e1 => (p1 e e0 e1).md q2 (by omega) (by omega) (fun x hx => by omega) (q2.G (by omega) (by omega) e), fun e e0 e1 => (s1 e e0 e1).md q2 (by omega) (by omega) (fun x hx => by omega) (q2.G (by omega) (by omega) e), fun e e0 e1 => ?_⟩
    · rw [show u + 41 * c + 1 + 40 = u + 41 * (c + 1) by omega, show w + 4003 * c + 3 + 4000 = w + 4003 * (c + 1) by omega]
      exact this
    · by_cases q : e = c
      · rw [q]
        exact ⟨qw.keepg q1 (by omega) (fun x x0 x1 => by omega), q4⟩
      · exact (b1 e e0 (by omega)).md q2 (by omega) (by omega) (fun x hx => by omega) (q5 e q)
  · rintro S1 ⟨-, m1, n1, t1, k1, h1, p1, s1, b1⟩
    apply w_Crc_init_217
    exact ⟨fun _ => H S1 m1 n1 t1 k1 h1 p1 s1 b1, fun z => absurd (Int.le_refl 7) z⟩
/-- a new object of the class -/
def CN (S : Hp) : Prop := CP S 22 37 ∧ CO S ∧ (zG S 22 0 = 3 ∧ zG S 22 1 = 0 ∧ zG S 22 2 = 0) ∧ zG S 2 1 = 0 ∧ zG S 1 4 = 0 ∧ zG S 1 8 = 0 ∧ zG S 1 14 = -1 ∧ (∀ x j, 241 ≤ x → x ≤ 254 → zG S x j = 0) ∧ (∀ c, 0 ≤ c → c < 7 → PR S (301 + 6 * c) ∧ zG S (301 + 6 * c) 0 = c ∧ zG S (301 + 6 * c) 1 = 0) ∧ ∀ s, 0 ≤ s → s < 6 → zG S (343 + 12 * s) 0 = 0 ∧ zG S (343 + 12 * s) 2 = 0 ∧ zG S (343 + 12 * s) 3 = 0
theorem s_crcNew {d : Nat} {S : Hp} {Q : Vl → Hp → Prop} (hK : zK S 1 = 11) (hN : zN S = 2) (hT : zT S = 1) (H : ∀ S', Mg (fun x => x = 1) S S' → zN S' = 485 → zT S' = 1 → CN S' → Q (3, 0) S') : Ev (d + 5) 96 [(2, 1)] S Q := by
  refine s_crcA hK hN hT (fun S1 m1 n1 t1 k1 h1 => s_crcPlaces (by omega) (by omega) n1 t1 k1 h1 (fun S2 m2 n2 t2 k2 h2 p2 => s_crcShelves (by omega) (by omega) n2 t2 k2 h2 p2 (fun S3 m3 n3 t3 k3 h3 p3 s3 => s_crcBook (by omega) (by omega) n3 t3 k3 h3 p3 s3 (fun S4 m4 n4 t4 k4 h4 p4 s4 b4 => ?_))))
  have M : Mg (fun x => x = 1) S S4 := ((m1.tr m2 (fun b hb z => by omega)).tr m3 (fun b hb z => by omega)).tr m4 (fun b hb z => by omega)
  obtain ⟨⟨⟨a1, a2, a3, a4, a5, a6, a7, a8⟩, b1, b2, b3, b5, b6, b7, b8, b9⟩, c1, c2, c3, c4, c5, c6, c7, d9, d10, d11, d12, d13, d14, d15⟩ := h4
  exact H S4 M n4 t4 ⟨⟨k4, a5, a6, a7, Or.inl ⟨rfl, rfl⟩, a8, b6, b7, b8, d9, d10, d11, d12, d13, b1, b2, b3, fun c e0 e1 => (p4 c e0 e1).2.2.2.2, fun c e0 e1 => (s4 c e0 e1).2.2.2.2, fun c e0 e1 => (b4 c e0 e1).2⟩, ⟨a1.1, a2.1, a3.1, a4.1, c1, c2, c3, c4, c5, c6, fun c e0 e1 => (p4 c e0 e1).1, fun c e0 e1 => (s4 c e0 e1).1, fun c e0 e1 => (b4 c e0 e1).1⟩, a2.2, a1.2, b5, b9, d14, c7, fun c e0 e1 => ⟨(p4 c e0 e1).2.1, (p4 c e0 e1).2.2.1, (p4 c e0 e1).2.2.2.1⟩, fun c e0 e1 => ⟨(s4 c e0 e1).2.1, (s4 c e0 e1).2.2.1, (s4 c e0 e1).2.2.2.1⟩⟩
