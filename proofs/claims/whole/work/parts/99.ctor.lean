/-! Constructors: heaps that grow. -/
/-- S' comes of S: what lay there keeps its shape, and its numbers but for M -/
def Mg (M : Int → Prop) (S S' : Hp) : Prop := zT S' = zT S ∧ zN S ≤ zN S' ∧ (∀ b, b < zN S → zK S' b = zK S b ∧ zL S' b = zL S b) ∧ ∀ b i, b < zN S → ¬ M b → zG S' b i = zG S b i
theorem Mg.refl (M : Int → Prop) (S : Hp) : Mg M S S := ⟨rfl, Int.le_refl _, fun _ _ => ⟨rfl, rfl⟩, fun _ _ _ _ => rfl⟩
theorem Mg.tr {M M' : Int → Prop} {S T U : Hp} (h : Mg M S T) (h' : Mg M' T U) (hM : ∀ b, b < zN S → M' b → M b) : Mg M S U := ⟨h'.1.trans h.1, Int.le_trans h.2.1 h'.2.1, fun b hb => ⟨(h'.2.2.1 b (Int.lt_of_lt_of_le hb h.2.1)).1.trans (h.2.2.1 b hb).1, (h'.2.2.1 b (Int.lt_of_lt_of_le hb h.2.1)).2.trans (h.2.2.1 b hb).2⟩, fun b i hb hq => (h'.2.2.2 b i (Int.lt_of_lt_of_le hb h.2.1) (fun z => hq (hM b hb z))).trans (h.2.2.2 b i hb hq)⟩
theorem Mg.ofMd {M : Int → Prop} {S S' : Hp} (h : Md M S S') : Mg M S S' := ⟨h.T, by rw [h.N]; exact Int.le_refl _, fun b _ => ⟨h.K b, h.L b⟩, fun b i _ hq => h.G hq i⟩
theorem Mg.zS (S : Hp) (a i v : Int) : Mg (fun x => x = a) S (zS S a i v) := Mg.ofMd (Md.zS S a i v)
theorem zN_zA (S : Hp) (k n : Int) : zN (zA S k n) = zN S + 1 := rfl
theorem zT_zA (S : Hp) (k n : Int) : zT (zA S k n) = zT S := rfl
theorem zK_zA (S : Hp) (k n : Int) : zK (zA S k n) (zN S) = k := by
  unfold zK zA
  exact congrArg Prod.fst (if_pos rfl)
theorem zL_zA (S : Hp) (k n : Int) : zL (zA S k n) (zN S) = n := by
  unfold zL zA
  exact congrArg Prod.snd (if_pos rfl)
theorem zG_zA (S : Hp) (k n i : Int) : zG (zA S k n) (zN S) i = 0 := if_pos rfl
theorem Mg.zA (S : Hp) (k n : Int) : Mg (fun _ => False) S (zA S k n) := by
  refine ⟨rfl, by rw [zN_zA]; omega, fun b hb => ?_, fun b i hb _ => ?_⟩
  · have hne : b ≠ S.2.1.1 := fun e => by
      unfold zN at hb
      omega
    exact ⟨congrArg Prod.fst (if_neg hne), congrArg Prod.snd (if_neg hne)⟩
  · have hne : b ≠ S.2.1.1 := fun e => by
      unfold zN at hb
      omega
    exact if_neg hne
theorem LI.keepg {M : Int → Prop} {S S' : Hp} {a n t : Int} {P : Int → Int} (h : LI S a n t P) (hm : Mg M S S') (ha : a + 1 < zN S) (h1 : ¬ M a) (h2 : ¬ M (a + 1)) : LI S' a n t P := by
  obtain ⟨⟨k1, k2, k3, k4, k5, k6⟩, e1, e2, e3, e4, e5, e6⟩ := h
  have a0 : a < zN S := by omega
  exact ⟨⟨by rw [(hm.2.2.1 a a0).1]; exact k1, by rw [hm.2.2.2 a 0 a0 h1]; exact k2, by rw [(hm.2.2.1 _ ha).1]; exact k3, by rw [(hm.2.2.1 _ ha).2]; exact k4, k5, k6⟩, by rw [hm.2.2.2 a 1 a0 h1]; exact e1, e2, e3, fun i i0 i1 => by rw [hm.2.2.2 _ i ha h2]; exact e4 i i0 i1, e5, e6⟩
theorem s_lineNew {d : Nat} {a v : Int} {S : Hp} {Q : Vl → Hp → Prop} (ha : 1 ≤ a) (hK : zK S a = 4) (hN : zN S = a + 1) (hT : zT S = 1) (hv : 1 ≤ v ∧ v ≤ 200) (H : ∀ S', Mg (fun x => x = a) S S' → zN S' = a + 2 → LI S' a v (-1) (fun _ => 0) → Q (3, 0) S') : Ev (d + 1) 38 [(2, a), (0, v)] S Q := by
  apply w_Line_init_0
  refine ⟨by omega, hK, ?_⟩
  rintro _ rfl
  apply w_Math_max_0
  intro x hx
  have hx : x = v := by
    rw [hx]
    split <;> omega
  subst hx
  refine ⟨_, rfl, ⟨⟨by omega, by omega⟩, hT, by omega, by omega⟩, ?_⟩
  rintro _ rfl
  have m1 : Mg (fun x => x = a) S (zS S a 1 (-1)) := Mg.zS S a 1 (-1)
  have n1 : zN (zS S a 1 (-1)) = a + 1 := hN
  have g1 : zG (zS S a 1 (-1)) a 1 = -1 := zG_zS_at S a 1 (-1)
  generalize zS S a 1 (-1) = S1 at *
  have m2 : Mg (fun _ => False) S1 (zA S1 101 x) := Mg.zA S1 101 x
  have k2 : zK (zA S1 101 x) (zN S1) = 101 := zK_zA S1 101 x
  have l2 : zL (zA S1 101 x) (zN S1) = x := zL_zA S1 101 x
  have g2 : ∀ i, zG (zA S1 101 x) (zN S1) i = 0 := zG_zA S1 101 x
  have n2 : zN (zA S1 101 x) = a + 2 := by rw [zN_zA, n1]; omega
  generalize zA S1 101 x = S2 at *
  rw [n1] at k2 l2 g2 ⊢
  have m12 : Mg (fun y => y = a) S S2 := m1.tr m2 (fun b _ hb => hb.elim)
  have kk : zK S2 a = 4 := by rw [(m12.2.2.1 a (by omega)).1]; exact hK
  refine ⟨kk, ?_⟩
  rintro _ rfl
  refine H _ (m12.tr (Mg.zS S2 a 0 (a + 1)) (fun b _ hb => hb)) n2 ⟨⟨kk, zG_zS_at S2 a 0 (a + 1), k2, l2, by omega, by omega⟩, ?_, by omega, by omega, fun i i0 i1 => ?_, fun i hi => rfl, fun i hi => rfl⟩
  · rw [zG_zS_ne _ (Or.inr (by omega)), m2.2.2.2 a 1 (by omega) (fun z => z)]
    exact g1
  · rw [zG_zS_ne _ (Or.inl (by omega))]
    exact g2 i
/-- new lines, all nothing -/
def NLs (S : Hp) (b c v : Int) : Prop := zK S b = 104 ∧ zL S b = c ∧ ∀ i, 0 ≤ i → i < c → zG S b i = b + 1 + 2 * i ∧ LI S (b + 1 + 2 * i) v (-1) (fun _ => 0)
set_option maxHeartbeats 1000000 in
theorem s_newLines {d : Nat} {c v : Int} {S : Hp} {Q : Vl → Hp → Prop} (hN : 1 ≤ zN S) (hT : zT S = 1) (hc : 0 ≤ c ∧ c ≤ 18) (hv : 1 ≤ v ∧ v ≤ 200) (H : ∀ S', Mg (fun _ => False) S S' → zN S' = zN S + 1 + 2 * c → NLs S' (zN S) c v → Q (2, zN S) S') : Ev (d + 2) 161 [(0, c), (0, v)] S Q := by
  apply w_Crc_newLines_0
  refine ⟨⟨⟨by omega, by omega⟩, hT, by omega, by omega⟩, ?_⟩
  rintro _ rfl b hb
  have m1 : Mg (fun _ => False) S (zA S 104 c) := Mg.zA S 104 c
  have k1 : zK (zA S 104 c) b = 104 := by rw [hb]; exact zK_zA S 104 c
  have l1 : zL (zA S 104 c) b = c := by rw [hb]; exact zL_zA S 104 c
  have n1 : zN (zA S 104 c) = b + 1 := by rw [zN_zA, hb]
  rw [← hb] at H hN
  generalize zA S 104 c = S1 at *
  rw [show (0 : Int) + 1 = 1 + 2 * 0 by omega, show 0 + c = c + 202 * 0 by omega]
  refine loopU (P := fun i S' => At (d + 2) 161 c161_7 [(0, (0, c)), (1, (0, v)), (2, (2, b)), (3, (0, i)), (1000, (0, 1 + 2 * i)), (1001, (0, c + 202 * i)), (1002, (0, 40)), (1003, (0, 4000))] [] S' Q) (I := fun i S' => 0 ≤ i ∧ Mg (fun _ => False) S S' ∧ zN S' = b + 1 + 2 * i ∧ zK S' b = 104 ∧ zL S' b = c ∧ ∀ e, 0 ≤ e → e < i → zG S' b e = b + 1 + 2 * e ∧ LI S' (b + 1 + 2 * e) v (-1) (fun _ => 0)) c ?_ ?_ 0 S1 (by omega) ⟨by omega, m1, by omega, k1, l1, fun e e0 e1 => by omega⟩
  · rintro i S2 hi ⟨i0, m2, n2, k2, l2, v2⟩ hk
    have t2 : zT S2 = 1 := m2.1.trans hT
    apply w_Crc_newLines_7
    refine ⟨fun hc => by omega, fun _ => ⟨⟨⟨by omega, by omega⟩, t2⟩, ?_⟩⟩
    rintro _ rfl
    have m3 : Mg (fun _ => False) S2 (zA S2 4 0) := Mg.zA S2 4 0
    have k3 : zK (zA S2 4 0) (zN S2) = 4 := zK_zA S2 4 0
    have n3 : zN (zA S2 4 0) = b + 1 + 2 * i + 1 := by rw [zN_zA, n2]
    generalize zA S2 4 0 = S3 at *
    rw [n2] at k3 ⊢
    have t3 : zT S3 = 1 := m3.1.trans t2
    refine ⟨⟨⟨by omega, by omega⟩, k3⟩, s_lineNew (by omega) k3 n3 t3 hv (fun S4 m4 n4 l4 => ⟨rfl, ?_⟩)⟩
    have m24 : Mg (fun _ => False) S2 S4 := m3.tr m4 (fun y hy hq => by omega)
    have k4 : zK S4 b = 104 := by rw [(m24.2.2.1 b (by omega)).1]; exact k2
    have c4 : zL S4 b = c := by rw [(m24.2.2.1 b (by omega)).2]; exact l2
    refine ⟨⟨k4, i0, by omega, l4.1.1⟩, ?_⟩
    rintro _ rfl _ rfl
    rw [w32_id (by omega) (by omega)]
    have m45 : Mg (fun x => x = b) S4 (zS S4 b i (b + 1 + 2 * i)) := Mg.zS _ _ _ _
    have fin := hk (zS S4 b i (b + 1 + 2 * i)) ⟨by omega, m2.tr (m24.tr (Mg.refl (fun _ => False) S4) (fun _ _ z => z)) (fun _ _ z => z) |>.tr m45 (fun y hy hq => by omega), by rw [zN_zS]; omega, k4, c4, fun e e0 e1 => ?_⟩
    · rw [show 1 + 2 * i + 1 + 1 = 1 + 2 * (i + 1) by omega, show c + 202 * i + 2 + 200 = c + 202 * (i + 1) by omega]
      exact fin
    · by_cases q : e = i
      · rw [q]
        exact ⟨zG_zS_at _ _ _ _, l4.keepg m45 (by omega) (by omega) (by omega)⟩
      · obtain ⟨w1, w2⟩ := v2 e e0 (by omega)
        refine ⟨?_, (w2.keepg m24 (by omega) (fun z => z) (fun z => z)).keepg m45 (by omega) (by omega) (by omega)⟩
        rw [zG_zS_ne _ (Or.inr q), m24.2.2.2 b e (by omega) (fun z => z)]
        exact w1
  · rintro S2 ⟨-, m2, n2, k2, l2, v2⟩
    apply w_Crc_newLines_7
    exact ⟨fun _ => H S2 m2 n2 ⟨k2, l2, v2⟩, fun hc => absurd (Int.le_refl c) hc⟩
