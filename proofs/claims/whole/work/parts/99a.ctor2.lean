/-! Constructors: a quotient, a place. -/
theorem NLs.keepg {M : Int → Prop} {S S' : Hp} {b c v : Int} (h : NLs S b c v) (hm : Mg M S S') (hc : 0 ≤ c) (hb : b + 2 * c < zN S) (hM : ∀ x, b ≤ x → x ≤ b + 2 * c → ¬ M x) : NLs S' b c v := by
  obtain ⟨h1, h2, h3⟩ := h
  refine ⟨by rw [(hm.2.2.1 b (by omega)).1]; exact h1, by rw [(hm.2.2.1 b (by omega)).2]; exact h2, fun i i0 i1 => ?_⟩
  obtain ⟨g1, g2⟩ := h3 i i0 i1
  exact ⟨by rw [hm.2.2.2 b i (by omega) (hM b (by omega) (by omega))]; exact g1, g2.keepg hm (by omega) (hM _ (by omega) (by omega)) (hM _ (by omega) (by omega))⟩
theorem NLs.n {S : Hp} {b c v p : Int} (h : NLs S b c v) (hp : 0 < p) : LAN S b c (fun _ => v) p (fun _ _ => 0) := ⟨h.1, h.2.1, fun i i0 i1 => ⟨(h.2.2 i i0 i1).1, ⟨-1, (h.2.2 i i0 i1).2, fun q => by omega, fun _ => ⟨Int.le_refl 0, hp⟩⟩⟩⟩
theorem NLs.w {S : Hp} {b c v : Int} (h : NLs S b c v) : LAW S b c (fun _ => v) := (h.n (p := 1) (by omega)).w
/-- a new quotient at a: nothing, 0 below -/
theorem s_quotNew {d : Nat} {a v : Int} {S : Hp} {Q : Vl → Hp → Prop} (ha : 1 ≤ a) (hK : zK S a = 8) (hN : zN S = a + 1) (hT : zT S = 1) (hv : 1 ≤ v ∧ v ≤ 200) (H : ∀ S', Mg (fun x => x = a) S S' → zN S' = a + 10 → zK S' a = 8 → zG S' a 0 = a + 1 → zG S' a 1 = 0 → zG S' a 2 = 0 → NLs S' (a + 1) 4 v → Q (3, 0) S') : Ev (d + 3) 72 [(2, a), (0, v)] S Q := by
  apply w_Quotient_init_0
  refine ⟨by omega, hK, ?_⟩
  rintro _ rfl
  refine ⟨hK, ?_⟩
  rintro _ rfl
  have m1 : Mg (fun x => x = a) S (zS (zS S a 1 0) a 2 0) := (Mg.zS S a 1 0).tr (Mg.zS _ a 2 0) (fun b _ hb => hb)
  have g1 : zG (zS (zS S a 1 0) a 2 0) a 1 = 0 := by rw [zG_zS_ne _ (Or.inr (by omega)), zG_zS_at]
  have g2 : zG (zS (zS S a 1 0) a 2 0) a 2 = 0 := zG_zS_at _ _ _ _
  have n1 : zN (zS (zS S a 1 0) a 2 0) = a + 1 := hN
  have t1 : zT (zS (zS S a 1 0) a 2 0) = 1 := hT
  generalize zS (zS S a 1 0) a 2 0 = S1 at *
  refine ⟨⟨by omega, by omega⟩, s_newLines (by omega) t1 (by omega) hv (fun S2 m2 n2 l2 => ⟨_, rfl, ?_⟩)⟩
  rw [n1] at n2 l2 ⊢
  have k2 : zK S2 a = 8 := by rw [(m2.2.2.1 a (by omega)).1, (m1.2.2.1 a (by omega)).1]; exact hK
  refine ⟨k2, ?_⟩
  rintro _ rfl
  have m3 : Mg (fun x => x = a) S2 (zS S2 a 0 (a + 1)) := Mg.zS _ _ _ _
  refine H _ ((m1.tr m2 (fun b _ hb => hb.elim)).tr m3 (fun b _ hb => hb)) (by rw [zN_zS]; omega) k2 (zG_zS_at _ _ _ _) ?_ ?_ (l2.keepg m3 (by omega) (by omega) (fun x x0 x1 => by omega))
  · rw [zG_zS_ne _ (Or.inr (by omega)), m2.2.2.2 a 1 (by omega) (fun z => z)]
    exact g1
  · rw [zG_zS_ne _ (Or.inr (by omega)), m2.2.2.2 a 2 (by omega) (fun z => z)]
    exact g2
/-- a new row at x, all 0 -/
def NR (S : Hp) (x k n : Int) : Prop := zK S x = k ∧ zL S x = n ∧ ∀ i, zG S x i = 0
theorem NR.keepg {M : Int → Prop} {S S' : Hp} {x k n : Int} (h : NR S x k n) (hm : Mg M S S') (hx : x < zN S) (hM : ¬ M x) : NR S' x k n := ⟨by rw [(hm.2.2.1 x hx).1]; exact h.1, by rw [(hm.2.2.1 x hx).2]; exact h.2.1, fun i => by rw [hm.2.2.2 x i hx hM]; exact h.2.2 i⟩
/-- a row made and put into a field of the object at a -/
theorem put_row {S : Hp} {a f k n m kd : Int} (ha : a < m) (hN : zN S = m) (hK : zK S a = kd) : Mg (fun x => x = a) S (zS (zA S k n) a f m) ∧ zN (zS (zA S k n) a f m) = m + 1 ∧ zT (zS (zA S k n) a f m) = zT S ∧ zK (zS (zA S k n) a f m) a = kd ∧ zG (zS (zA S k n) a f m) a f = m ∧ (∀ i, i ≠ f → zG (zS (zA S k n) a f m) a i = zG S a i) ∧ NR (zS (zA S k n) a f m) m k n := by
  have m1 : Mg (fun _ => False) S (zA S k n) := Mg.zA S k n
  have k1 : zK (zA S k n) m = k := by rw [← hN]; exact zK_zA S k n
  have l1 : zL (zA S k n) m = n := by rw [← hN]; exact zL_zA S k n
  have g1 : ∀ i, zG (zA S k n) m i = 0 := fun i => by rw [← hN]; exact zG_zA S k n i
  have n1 : zN (zA S k n) = m + 1 := by rw [zN_zA, hN]
  have t1 : zT (zA S k n) = zT S := rfl
  generalize zA S k n = S1 at *
  refine ⟨⟨t1, by rw [zN_zS]; omega, fun b hb => m1.2.2.1 b hb, fun b i hb hq => ?_⟩, n1, t1, ?_, zG_zS_at _ _ _ _, fun i hi => ?_, k1, l1, fun i => ?_⟩
  · rw [zG_zS_ne _ (Or.inl hq)]
    exact m1.2.2.2 b i hb (fun z => z)
  · rw [zK_zS, (m1.2.2.1 a (by omega)).1]
    exact hK
  · rw [zG_zS_ne _ (Or.inr hi)]
    exact m1.2.2.2 a i (by omega) (fun z => z)
  · rw [zG_zS_ne _ (Or.inl (by omega))]
    exact g1 i
