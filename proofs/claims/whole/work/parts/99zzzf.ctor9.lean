/-! Shapes kept while a heap grows. -/
theorem LW.keepg {M : Int → Prop} {S S' : Hp} {a n : Int} (h : LW S a n) (m : Mg M S S') (ha : a + 1 < zN S) (h1 : ¬ M a) (h2 : ¬ M (a + 1)) : LW S' a n := by
  obtain ⟨t, P, h⟩ := h
  exact ⟨t, P, h.keepg m ha h1 h2⟩
theorem LN.keepg {M : Int → Prop} {S S' : Hp} {a n p : Int} {P : Int → Int} (h : LN S a n p P) (m : Mg M S S') (ha : a + 1 < zN S) (h1 : ¬ M a) (h2 : ¬ M (a + 1)) : LN S' a n p P := by
  obtain ⟨t, h, q⟩ := h
  exact ⟨t, h.keepg m ha h1 h2, q⟩
theorem LAW.keepg {M : Int → Prop} {S S' : Hp} {b c : Int} {N : Int → Int} (h : LAW S b c N) (m : Mg M S S') (hc : 0 ≤ c) (hb : b + 2 * c < zN S) (hM : ∀ x, b ≤ x → x ≤ b + 2 * c → ¬ M x) : LAW S' b c N := by
  obtain ⟨h1, h2, h3⟩ := h
  refine ⟨by rw [m.K (by omega)]; exact h1, by rw [m.L (by omega)]; exact h2, fun i i0 i1 => ?_⟩
  obtain ⟨g1, g2⟩ := h3 i i0 i1
  exact ⟨by rw [m.G (by omega) (hM b (by omega) (by omega))]; exact g1, g2.keepg m (by omega) (hM _ (by omega) (by omega)) (hM _ (by omega) (by omega))⟩
theorem rowI.keepg {M : Int → Prop} {S S' : Hp} {a n : Int} (h : rowI S a n) (m : Mg M S S') (ha : a < zN S) : rowI S' a n := ⟨by rw [m.K ha]; exact h.1, by rw [m.L ha]; exact h.2⟩
theorem QW.keepg {M : Int → Prop} {S S' : Hp} {a r : Int} (h : QW S a r) (m : Mg M S S') (ha : a + 9 < zN S) (hM : ∀ x, a ≤ x → x ≤ a + 9 → ¬ M x) : QW S' a r := ⟨by rw [m.K (by omega)]; exact h.1, by rw [m.G (by omega) (hM a (by omega) (by omega))]; exact h.2.1, h.2.2.keepg m (by omega) (by omega) (fun x x0 x1 => hM x (by omega) (by omega))⟩
theorem MW.keepg {M : Int → Prop} {S S' : Hp} {A : Int} (h : MW S A) (m : Mg M S S') (hA : A + 50 < zN S) (hM : ∀ x, A ≤ x → x ≤ A + 50 → ¬ M x) : MW S' A := by
  obtain ⟨h1, h2, h3, h4, h5, h6, h7⟩ := h
  have g : ∀ i, zG S' A i = zG S A i := fun i => m.G (by omega) (hM A (by omega) (by omega)) i
  exact ⟨by rw [m.K (by omega)]; exact h1, (g 0).trans h2, (g 1).trans h3, (g 2).trans h4, h5.keepg m (by omega) (by omega) (fun x x0 x1 => hM x (by omega) (by omega)), h6.keepg m (by omega) (hM _ (by omega) (by omega)) (hM _ (by omega) (by omega)), h7.keepg m (by omega) (by omega) (fun x x0 x1 => hM x (by omega) (by omega))⟩
theorem XW.keepg {M : Int → Prop} {S S' : Hp} {X : Int} (h : XW S X) (m : Mg M S S') (hX : X + 97 < zN S) (hM : ∀ x, X ≤ x → x ≤ X + 97 → ¬ M x) : XW S' X := by
  obtain ⟨h1, h2, h3, h4⟩ := h
  exact ⟨by rw [m.K (by omega)]; exact h1, by rw [m.G (by omega) (hM X (by omega) (by omega))]; exact h2, h3.keepg m (by omega) (by omega) (fun x x0 x1 => hM x (by omega) (by omega)), h4.keepg m (by omega) (hM _ (by omega) (by omega)) (hM _ (by omega) (by omega))⟩
theorem VW.keepg {M : Int → Prop} {S S' : Hp} {V : Int} (h : VW S V) (m : Mg M S S') (hV : V + 14 < zN S) (hM : ∀ x, V ≤ x → x ≤ V + 14 → ¬ M x) : VW S' V := by
  obtain ⟨h1, h2, h3, h4, h5, h6, h7, h8, h9, h10, h11⟩ := h
  have g : ∀ i, zG S' V i = zG S V i := fun i => m.G (by omega) (hM V (by omega) (by omega)) i
  exact ⟨by rw [m.K (by omega)]; exact h1, (g 3).trans h2, (g 4).trans h3, (g 5).trans h4, (g 6).trans h5, (g 7).trans h6, h7.keepg m (by omega), h8.keepg m (by omega) (by omega) (fun x x0 x1 => hM x (by omega) (by omega)), h9.keepg m (by omega) (hM _ (by omega) (by omega)) (hM _ (by omega) (by omega)), h10.keepg m (by omega), h11.keepg m (by omega)⟩
theorem GW.keepg {M : Int → Prop} {S S' : Hp} {B A : Int} (h : GW S B A) (m : Mg M S S') (hB : B + 61 < zN S) (hM : ∀ x, B ≤ x → x ≤ B + 61 → ¬ M x) : GW S' B A := by
  obtain ⟨h1, f0, f1, f2, f3, f4, f5, f6, f7, l1, l2, l3, l4, l5, r⟩ := h
  have g : ∀ i, zG S' B i = zG S B i := fun i => m.G (by omega) (hM B (by omega) (by omega)) i
  have k : ∀ b n, B + 16 ≤ b → b ≤ B + 52 → LAW S b 4 (fun _ => n) → LAW S' b 4 (fun _ => n) := fun b n b0 b1 l => l.keepg m (by omega) (by omega) (fun x x0 x1 => hM x (by omega) (by omega))
  exact ⟨by rw [m.K (by omega)]; exact h1, (g 0).trans f0, (g 1).trans f1, (g 2).trans f2, (g 3).trans f3, (g 4).trans f4, (g 5).trans f5, (g 6).trans f6, (g 7).trans f7, k _ _ (by omega) (by omega) l1, k _ _ (by omega) (by omega) l2, k _ _ (by omega) (by omega) l3, k _ _ (by omega) (by omega) l4, k _ _ (by omega) (by omega) l5, r.keepg m (by omega)⟩
theorem RDW.keepg {M : Int → Prop} {S S' : Hp} {R : Int} (h : RDW S R) (m : Mg M S S') (hR : R + 19 < zN S) (h0 : ¬ M R) (h2 : ¬ M (R + 2)) : RDW S' R := by
  obtain ⟨a1, a2, a3, a4, a5, a6, a7, a8, a9⟩ := h
  have g : ∀ i, zG S' R i = zG S R i := fun i => m.G (by omega) h0 i
  refine ⟨by rw [m.K (by omega)]; exact a1, (g 0).trans a2, (g 2).trans a3, (g 3).trans a4, (g 4).trans a5, ⟨by rw [m.K (by omega)]; exact a6.1, by rw [m.L (by omega)]; exact a6.2⟩, ⟨by rw [m.K (by omega)]; exact a7.1, by rw [m.L (by omega)]; exact a7.2⟩, fun j j0 j1 => by rw [m.G (by omega) h2]; exact a8 j j0 j1, fun j j0 j1 => ?_⟩
  have := a9 j j0 j1
  exact ⟨by rw [m.K (by omega)]; exact this.1, by rw [m.L (by omega)]; exact this.2⟩
theorem PW.keepg {M : Int → Prop} {S S' : Hp} {L : Int} (h : PW S L) (m : Mg M S S') (hL : L + 5 < zN S) (h0 : ¬ M L) : PW S' L := by
  obtain ⟨a1, a2, a3, a4, a5, a6, a7, a8, a9, a10, a11⟩ := h
  have g : ∀ i, zG S' L i = zG S L i := fun i => m.G (by omega) h0 i
  exact ⟨by rw [m.K (by omega)]; exact a1, (g 3).trans a2, (g 4).trans a3, (g 5).trans a4, (g 6).trans a5, (g 7).trans a6, ⟨by rw [m.K (by omega)]; exact a7.1, by rw [m.L (by omega)]; exact a7.2⟩, a8.keepg m (by omega), a9.keepg m (by omega), a10.keepg m (by omega), a11.keepg m (by omega)⟩
theorem SW.keepg {M : Int → Prop} {S S' : Hp} {h : Int} (w : SW S h) (m : Mg M S S') (hh : h + 11 < zN S) (hM : ∀ x, h ≤ x → x ≤ h + 11 → ¬ M x) : SW S' h := by
  obtain ⟨a1, a2, a3, a4, a5, a6⟩ := w
  exact ⟨by rw [m.K (by omega)]; exact a1, by rw [m.G (by omega) (hM h (by omega) (by omega))]; exact a2, a3.keepg m (by omega) (fun x x0 x1 => hM x (by omega) (by omega)), by rw [m.G (by omega) (hM h (by omega) (by omega))]; exact a4, by rw [m.K (by omega)]; exact a5, by rw [m.L (by omega)]; exact a6⟩
/-- a new object is put into a field of the class's object, which lies at 1 -/
theorem obj_put {S S2 : Hp} {kd f m : Int} (hm : 1 < m) (hN : zN S = m) (hK : zK S 1 = 11) (m2 : Mg (fun x => x = m) (zA S kd 0) S2) : zK S2 1 = 11 ∧ Mg (fun x => x = 1) S2 (zS S2 1 f m) ∧ Mg (fun x => x = 1) S (zS S2 1 f m) ∧ zT (zS S2 1 f m) = zT S ∧ zK (zS S2 1 f m) 1 = 11 ∧ zG (zS S2 1 f m) 1 f = m ∧ ∀ i, i ≠ f → zG (zS S2 1 f m) 1 i = zG S 1 i := by
  have m1 : Mg (fun _ => False) S (zA S kd 0) := Mg.zA S kd 0
  have m02 : Mg (fun _ => False) S S2 := m1.tr m2 (fun b hb z => by omega)
  have k2 : zK S2 1 = 11 := by rw [m02.K (by omega)]; exact hK
  have m3 : Mg (fun x => x = 1) S2 (zS S2 1 f m) := Mg.zS _ _ _ _
  exact ⟨k2, m3, m02.none.tr m3 (fun b _ hb => hb), m02.1, k2, zG_zS_at _ _ _ _, fun i hi => by rw [zG_zS_ne _ (Or.inr hi), m02.G (by omega) (fun z => z)]⟩
theorem zA_new (S : Hp) (kd m : Int) (hN : zN S = m) (hT : zT S = 1) : zK (zA S kd 0) m = kd ∧ zN (zA S kd 0) = m + 1 ∧ zT (zA S kd 0) = 1 := ⟨by rw [← hN]; exact zK_zA S kd 0, by rw [zN_zA, hN], hT⟩
/-- a new curve -/
def VN (S : Hp) (V : Int) : Prop := VW S V ∧ zG S V 0 = 3 ∧ zG S V 1 = 0 ∧ zG S V 2 = 0
theorem VN.keepg {S S' : Hp} {V : Int} (h : VN S V) (m : Mg (fun x => x = 1) S S') (hV : V + 14 < zN S) (h1 : 1 < V) : VN S' V := by
  have g : ∀ i, zG S' V i = zG S V i := fun i => m.G (by omega) (by omega) i
  exact ⟨h.1.keepg m hV (fun x x0 x1 => by omega), (g 0).trans h.2.1, (g 1).trans h.2.2.1, (g 2).trans h.2.2.2⟩
def C3 (S : Hp) : Prop := (RDW S 2 ∧ zG S 2 1 = 0) ∧ VN S 22 ∧ VN S 37 ∧ VN S 52 ∧ zG S 1 0 = 2 ∧ zG S 1 1 = 22 ∧ zG S 1 2 = 37 ∧ zG S 1 3 = 52
theorem C3.keepg {S S' : Hp} (h : C3 S) (m : Mg (fun x => x = 1) S S') (hN : 67 ≤ zN S) (g : ∀ i, i < 4 → zG S' 1 i = zG S 1 i) : C3 S' := ⟨⟨h.1.1.keepg m (by omega) (by omega) (by omega), by rw [m.G (by omega) (by omega)]; exact h.1.2⟩, h.2.1.keepg m (by omega) (by omega), h.2.2.1.keepg m (by omega) (by omega), h.2.2.2.1.keepg m (by omega) (by omega), (g 0 (by omega)).trans h.2.2.2.2.1, (g 1 (by omega)).trans h.2.2.2.2.2.1, (g 2 (by omega)).trans h.2.2.2.2.2.2.1, (g 3 (by omega)).trans h.2.2.2.2.2.2.2⟩
/-- the three rows of pointers -/
def C7 (S : Hp) : Prop := C3 S ∧ (zK S 67 = 105 ∧ zL S 67 = 7) ∧ (zK S 68 = 106 ∧ zL S 68 = 6) ∧ (zK S 69 = 107 ∧ zL S 69 = 7) ∧ zG S 1 4 = 0 ∧ zG S 1 5 = 67 ∧ zG S 1 6 = 68 ∧ zG S 1 7 = 69 ∧ zG S 1 8 = 0
theorem C7.keepg {S S' : Hp} (h : C7 S) (m : Mg (fun x => x = 1) S S') (hN : 70 ≤ zN S) (g : ∀ i, i < 9 → zG S' 1 i = zG S 1 i) : C7 S' := ⟨h.1.keepg m (by omega) (fun i hi => g i (by omega)), ⟨by rw [m.K (by omega)]; exact h.2.1.1, by rw [m.L (by omega)]; exact h.2.1.2⟩, ⟨by rw [m.K (by omega)]; exact h.2.2.1.1, by rw [m.L (by omega)]; exact h.2.2.1.2⟩, ⟨by rw [m.K (by omega)]; exact h.2.2.2.1.1, by rw [m.L (by omega)]; exact h.2.2.2.1.2⟩, (g 4 (by omega)).trans h.2.2.2.2.1, (g 5 (by omega)).trans h.2.2.2.2.2.1, (g 6 (by omega)).trans h.2.2.2.2.2.2.1, (g 7 (by omega)).trans h.2.2.2.2.2.2.2.1, (g 8 (by omega)).trans h.2.2.2.2.2.2.2.2⟩
/-- all but places, shelves and book -/
def C13 (S : Hp) : Prop := C7 S ∧ QW S 70 128 ∧ QW S 80 128 ∧ MW S 90 ∧ XW S 141 ∧ GW S 239 90 ∧ HW S 240 ∧ (∀ x j, 241 ≤ x → x ≤ 254 → zG S x j = 0) ∧ zG S 1 9 = 70 ∧ zG S 1 10 = 80 ∧ zG S 1 11 = 90 ∧ zG S 1 12 = 141 ∧ zG S 1 13 = 239 ∧ zG S 1 14 = -1 ∧ zG S 1 15 = 0
theorem C3.md {S S' : Hp} {M : Int → Prop} (h : C3 S) (m : Mg M S S') (hN : 67 ≤ zN S) (hM : ∀ x, x < 67 → ¬ M x) : C3 S' := by
  have g : ∀ x i, x < 67 → zG S' x i = zG S x i := fun x i hx => m.G (by omega) (hM x hx) i
  obtain ⟨a1, a2, a3, a4, a5⟩ := h
  have v : ∀ V, V + 14 < 67 → 1 < V → VN S V → VN S' V := fun V hV h1 q => ⟨q.1.keepg m (by omega) (fun x x0 x1 => hM x (by omega)), (g V 0 (by omega)).trans q.2.1, (g V 1 (by omega)).trans q.2.2.1, (g V 2 (by omega)).trans q.2.2.2⟩
  exact ⟨⟨a1.1.keepg m (by omega) (hM _ (by omega)) (hM _ (by omega)), (g 2 1 (by omega)).trans a1.2⟩, v _ (by omega) (by omega) a2, v _ (by omega) (by omega) a3, v _ (by omega) (by omega) a4, (g 1 0 (by omega)).trans a5.1, (g 1 1 (by omega)).trans a5.2.1, (g 1 2 (by omega)).trans a5.2.2.1, (g 1 3 (by omega)).trans a5.2.2.2⟩
theorem C7.md {S S' : Hp} {M : Int → Prop} (h : C7 S) (m : Mg M S S') (hN : 70 ≤ zN S) (hM : ∀ x, x < 67 → ¬ M x) : C7 S' := by
  have g : ∀ i, zG S' 1 i = zG S 1 i := fun i => m.G (by omega) (hM 1 (by omega)) i
  obtain ⟨a1, a2, a3, a4, a5⟩ := h
  exact ⟨a1.md m (by omega) hM, ⟨by rw [m.K (by omega)]; exact a2.1, by rw [m.L (by omega)]; exact a2.2⟩, ⟨by rw [m.K (by omega)]; exact a3.1, by rw [m.L (by omega)]; exact a3.2⟩, ⟨by rw [m.K (by omega)]; exact a4.1, by rw [m.L (by omega)]; exact a4.2⟩, (g 4).trans a5.1, (g 5).trans a5.2.1, (g 6).trans a5.2.2.1, (g 7).trans a5.2.2.2.1, (g 8).trans a5.2.2.2.2⟩
theorem C13.md {S S' : Hp} {M : Int → Prop} (h : C13 S) (m : Mg M S S') (hN : 301 ≤ zN S) (hM : ∀ x, (x < 67 ∨ (69 < x ∧ x < 301)) → ¬ M x) : C13 S' := by
  have g : ∀ i, zG S' 1 i = zG S 1 i := fun i => m.G (by omega) (hM 1 (by omega)) i
  obtain ⟨a1, a2, a3, a4, a5, a6, a7, a8, a9⟩ := h
  exact ⟨a1.md m (by omega) (fun x hx => hM x (by omega)), a2.keepg m (by omega) (fun x x0 x1 => hM x (by omega)), a3.keepg m (by omega) (fun x x0 x1 => hM x (by omega)), a4.keepg m (by omega) (fun x x0 x1 => hM x (by omega)), a5.keepg m (by omega) (fun x x0 x1 => hM x (by omega)), a6.keepg m (by omega) (fun x x0 x1 => hM x (by omega)), a7.keepg m (by omega) (hM _ (by omega)), fun x j x0 x1 => by rw [m.G (by omega) (hM x (by omega))]; exact a8 x j x0 x1, (g 9).trans a9.1, (g 10).trans a9.2.1, (g 11).trans a9.2.2.1, (g 12).trans a9.2.2.2.1, (g 13).trans a9.2.2.2.2.1, (g 14).trans a9.2.2.2.2.2.1, (g 15).trans a9.2.2.2.2.2.2⟩
