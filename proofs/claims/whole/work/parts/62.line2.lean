/-! Line, second part: sums, products, roots. -/
/-- the product's number in front of the k-th power -/
def cnv (A B : Int → Int) (k : Int) : Int := sm (k + 1).toNat (fun i => A i * B (k - i))
theorem cnv_to {A B : Int → Int} {u k : Int} (hu : -1 ≤ u) (hA : ∀ i, u < i → A i = 0) (hB : ∀ i, i < 0 → B i = 0) : sm (u + 1).toNat (fun x => A x * B (k - x)) = cnv A B k := by
  unfold cnv
  rcases Int.le_total u k with h | h
  · rw [← sm_more (n := (u + 1).toNat) (m := (k + 1).toNat) (by omega) (fun i i0 i1 => by rw [hA i (by omega), Int.zero_mul])]
  · by_cases hk : k < 0
    · rw [show (k + 1).toNat = 0 by omega, sm_zero]
      exact sm_zeros fun i i0 i1 => by rw [hB (k - i) (by omega), Int.mul_zero]
    · rw [← sm_more (n := (k + 1).toNat) (m := (u + 1).toNat) (by omega) (fun i i0 i1 => by rw [hB (k - i) (by omega), Int.mul_zero])]
theorem mul_b {x y : Int} (hx : 0 ≤ x ∧ x < 10) (hy : 0 ≤ y ∧ y < 10) : 0 ≤ x * y ∧ x * y ≤ 100 := by
  constructor
  · exact Int.mul_nonneg hx.1 hy.1
  · have := Int.mul_le_mul (show x ≤ 10 by omega) (show y ≤ 10 by omega) hy.1 (by omega)
    omega
theorem sm_b {A B : Int → Int} {n : Nat} {k : Int} (hA : ∀ i, 0 ≤ A i ∧ A i < 10) (hB : ∀ i, 0 ≤ B i ∧ B i < 10) (hn : n ≤ 1000) : 0 ≤ sm n (fun x => A x * B (k - x)) ∧ sm n (fun x => A x * B (k - x)) ≤ 100000 := by
  have h1 := sm_le (n := n) (f := fun x => A x * B (k - x)) (B := 100) (fun i _ _ => (mul_b (hA i) (hB (k - i))).2)
  have h2 := sm_ge (n := n) (f := fun x => A x * B (k - x)) (B := 0) (fun i _ _ => by have := (mul_b (hA i) (hB (k - i))).1; omega)
  omega
theorem s_add {d : Nat} {a b n m t u f sh : Int} {S : Hp} {P R : Int → Int} {Q : Vl → Hp → Prop} (h : LI S a n t P) (h' : LI S b m u R) (hne : a ≠ b) (hb : ∀ i, -1000000000 ≤ f * R i ∧ f * R i ≤ 1000000000) (hP : ∀ i, -1000000000 ≤ P i ∧ P i ≤ 1000000000) (hs : -200 ≤ sh ∧ sh ≤ 200) (hfit : u + sh < n) (H : ∀ S', Md (ML a) S S' → LI S' a n (if u < 0 then t else max t (u + sh)) (fun k => if k < 0 then 0 else P k + f * R (k - sh)) → Q (3, 0) S') : Ev d 43 [(2, a), (2, b), (0, f), (0, sh)] S Q := by
  have hap := h.1.apart h'.1
  obtain ⟨⟨k1, k2, k3, k4, k5, k6⟩, e1, e2, e3, e4, e5, e6⟩ := h
  obtain ⟨⟨l1, l2, l3, l4, l5, l6⟩, f1, f2, f3, f4, f5, f6⟩ := h'
  have n1 : a ≠ a + 1 := by omega
  have n2 : b ≠ a + 1 := fun q => hap.1 q.symm
  have n3 : b + 1 ≠ a + 1 := by omega
  apply w_Line_add_0
  simp only [k1, k2, k3, k4, e1, l1, f1, true_and, and_true, implies_true, forall_eq]
  rw [w32_id (x := u + sh) (by omega) (by omega), if_neg (show ¬ n ≤ u + sh by omega), w32_id (x := -sh) (by omega) (by omega)]
  obtain ⟨fr, hfr, hf1, hf2, hf3⟩ : ∃ fr : Int, (if 0 ≤ sh then 0 else -sh) = fr ∧ 0 ≤ fr ∧ 0 ≤ fr + sh ∧ (fr = 0 ∨ fr + sh = 0) := ⟨_, rfl, by split <;> omega, by split <;> omega, by split <;> omega⟩
  rw [hfr]
  refine loopU (P := fun i S' => At d 43 c43_48 [(0, (2, a)), (1, (2, b)), (2, (0, f)), (3, (0, sh)), (4, (0, fr)), (5, (0, u)), (6, (0, i))] [] S' Q) (I := fun i S' => fr ≤ i ∧ S' = zR S (a + 1) (fun j => if fr + sh ≤ j ∧ j < i + sh then P j + f * R (j - sh) else zG S (a + 1) j)) (max fr (u + 1)) ?_ ?_ fr S (by omega) ⟨by omega, ?_⟩
  · rintro i _ hi ⟨h0, rfl⟩ hk
    have hiu : i ≤ u := by omega
    apply w_Line_add_48
    rw [w32_id (x := i + sh) (by omega) (by omega)]
    have hv : zG (zR S (a + 1) (fun j => if fr + sh ≤ j ∧ j < i + sh then P j + f * R (j - sh) else zG S (a + 1) j)) (a + 1) (i + sh) = P (i + sh) := by
      rw [zG_zR_at, if_neg (by omega), e4 _ (by omega) (by omega)]
    have hr : zG S (b + 1) i = R i := f4 i (by omega) (by omega)
    simp only [zK_zR, zL_zR, zG_zR_ne S n1, zG_zR_ne S n2, zG_zR_ne S n3, hv, hr, k1, k2, k3, k4, e1, l1, l2, l3, l4, f1, true_and, and_true, implies_true, forall_eq]
    refine ⟨fun hc => by omega, fun _ => ⟨by omega, by omega, by omega, ?_⟩⟩
    have b1 := hb i
    have b2 := hP (i + sh)
    rw [w32_id (x := f * R i) (by omega) (by omega), w32_id (x := P (i + sh) + f * R i) (by omega) (by omega), w32_id (by omega) (by omega)]
    refine hk _ ⟨by omega, ?_⟩
    rw [zS_zR]
    refine zR_congr _ _ fun j => ?_
    by_cases hj : j = i + sh
    · rw [if_pos hj, if_pos (by omega), hj, show i + sh - sh = i by omega]
    · grind
  · rintro _ ⟨h0, rfl⟩
    apply w_Line_add_48
    simp only [zK_zR, zL_zR, zG_zR_ne S n1, k1, k2, k3, k4, e1, true_and, and_true, implies_true, forall_eq]
    refine ⟨fun _ => H _ ⟨rfl, rfl, fun b j q => ?_⟩ ⟨⟨k1, ?_, k3, k4, k5, k6⟩, ?_, by split <;> omega, by split <;> omega, fun i i0 i1 => ?_, fun i hi => ?_, fun i hi => ?_⟩, fun hc => by omega⟩
    · rw [zG_zS_ne _ (Or.inl (fun z => q (Or.inl z))), zG_zR_ne _ (fun z => q (Or.inr z))]
    · rw [zG_zS_ne _ (Or.inr (by omega)), zG_zR_ne _ n1, k2]
    · rw [zG_zS_at, w32_id (x := u + sh) (by omega) (by omega)]
      by_cases hu : u < 0
      · rw [if_pos (by omega), if_pos hu]
      · rw [if_neg hu]
        by_cases hq : u < fr ∨ u + sh ≤ t
        · rw [if_pos hq]
          omega
        · rw [if_neg hq]
          omega
    · rw [zG_zS_ne _ (Or.inl (by omega)), zG_zR_at]
      (try dsimp only)
      rw [if_neg (show ¬ i < 0 by omega)]
      split
      · rfl
      · rw [e4 i i0 i1]
        have hz : R (i - sh) = 0 := by
          by_cases hq : u < i - sh
          · exact f5 _ hq
          · exact f6 _ (by omega)
        rw [hz, Int.mul_zero, Int.add_zero]
    · (try dsimp only)
      by_cases hu : u < 0
      · rw [if_pos hu] at hi
        have hz : R (i - sh) = 0 := by
          by_cases hq : u < i - sh
          · exact f5 _ hq
          · exact f6 _ (by omega)
        rw [if_neg (by omega), e5 i hi, hz, Int.mul_zero, Int.add_zero]
      · rw [if_neg hu] at hi
        rw [if_neg (by omega), e5 i (by omega), f5 (i - sh) (by omega), Int.mul_zero, Int.add_zero]
    · (try dsimp only)
      rw [if_pos hi]
  · refine ((zR_congr _ _ fun j => ?_).trans (zR_self S (a + 1))).symm
    rw [if_neg (by omega)]
theorem s_addProduct {d : Nat} {a b c n m l t u w s : Int} {S : Hp} {P A B : Int → Int} {Q : Vl → Hp → Prop} (h : LI S a n t P) (h1 : LI S b m u A) (h2 : LI S c l w B) (hab : a ≠ b) (hac : a ≠ c) (hA : ∀ i, 0 ≤ A i ∧ A i < 10) (hB : ∀ i, 0 ≤ B i ∧ B i < 10) (hP : ∀ i, -1000000000 ≤ P i ∧ P i ≤ 1000000000) (hs : s = 1 ∨ s = -1) (hfit : 0 ≤ u → 0 ≤ w → u + w < n) (H : ∀ S', Md (ML a) S S' → LI S' a n (if u < 0 ∨ w < 0 then t else max t (u + w)) (fun k => P k + s * cnv A B k) → Q (3, 0) S') : Ev d 44 [(2, a), (2, b), (2, c), (0, s)] S Q := by
  have hh := h
  have hap := h.1.apart h1.1
  have hap2 := h.1.apart h2.1
  obtain ⟨⟨k1, k2, k3, k4, k5, k6⟩, e1, e2, e3, e4, e5, e6⟩ := h
  obtain ⟨⟨l1, l2, l3, l4, l5, l6⟩, f1, f2, f3, f4, f5, f6⟩ := h1
  obtain ⟨⟨o1, o2, o3, o4, o5, o6⟩, g1, g2, g3, g4, g5, g6⟩ := h2
  have n1 : a ≠ a + 1 := by omega
  have n2 : b ≠ a + 1 := fun q => hap.1 q.symm
  have n3 : b + 1 ≠ a + 1 := by omega
  have n4 : c ≠ a + 1 := fun q => hap2.1 q.symm
  have n5 : c + 1 ≠ a + 1 := by omega
  have hsx : ∀ x : Int, s * x = x ∨ s * x = -x := fun x => by
    rcases hs with rfl | rfl
    · exact Or.inl (Int.one_mul x)
    · exact Or.inr (by omega)
  apply w_Line_addProduct_0
  simp only [k1, k2, k3, k4, e1, l1, f1, o1, g1, true_and, and_true, implies_true, forall_eq]
  rw [w32_id (x := u + w) (by omega) (by omega)]
  refine ⟨fun hc => ?_, fun hc => ?_⟩
  · have hz : ∀ k, cnv A B k = 0 := by
      intro k
      unfold cnv
      rcases hc with hc | hc | hc
      · exact sm_zeros fun i i0 _ => by rw [f5 i (by omega), Int.zero_mul]
      · refine sm_zeros fun i i0 _ => ?_
        (try dsimp only)
        rw [show B (k - i) = 0 from (by by_cases hq : w < k - i; exact g5 _ hq; exact g6 _ (by omega)), Int.mul_zero]
      · by_cases hu : u < 0
        · exact sm_zeros fun i i0 _ => by rw [f5 i (by omega), Int.zero_mul]
        · by_cases hw : w < 0
          · refine sm_zeros fun i i0 _ => ?_
            (try dsimp only)
            rw [show B (k - i) = 0 from (by by_cases hq : w < k - i; exact g5 _ hq; exact g6 _ (by omega)), Int.mul_zero]
          · exact absurd (hfit (by omega) (by omega)) hc
    have hif : u < 0 ∨ w < 0 := by
      rcases hc with hc | hc | hc
      · exact Or.inl hc
      · exact Or.inr hc
      · by_cases hu : u < 0
        · exact Or.inl hu
        · by_cases hw : w < 0
          · exact Or.inr hw
          · exact absurd (hfit (by omega) (by omega)) hc
    refine H S (Md.refl _ _) ?_
    rw [if_pos hif]
    exact hh.congr fun k => by rw [hz, Int.mul_zero, Int.add_zero]
  · have hu : 0 ≤ u := by omega
    have hw : 0 ≤ w := by omega
    have hf := hfit hu hw
    refine loopU (P := fun i S' => At d 44 c44_39 [(0, (2, a)), (1, (2, b)), (2, (2, c)), (3, (0, s)), (4, (0, u + w)), (5, (0, i))] [] S' Q) (I := fun i S' => 0 ≤ i ∧ S' = zR S (a + 1) (fun k => if 0 ≤ k ∧ k < n then P k + s * sm i.toNat (fun x => A x * B (k - x)) else zG S (a + 1) k)) (u + 1) ?_ ?_ 0 S (by omega) ⟨by omega, ?_⟩
    · rintro i _ hi ⟨h0, rfl⟩ hk
      have hr : zG S (b + 1) i = A i := f4 i h0 (by omega)
      apply w_Line_addProduct_39
      simp only [zK_zR, zL_zR, zG_zR_ne S n2, zG_zR_ne S n3, hr, k1, l1, l2, l3, l4, f1, true_and, and_true, implies_true, forall_eq]
      refine ⟨fun hc => by omega, fun _ => ⟨by omega, ?_⟩⟩
      have bA := hA i
      have bs := hsx (A i)
      rw [w32_id (x := s * A i) (by omega) (by omega)]
      have hexit : ∀ S', S' = zR S (a + 1) (fun k => if 0 ≤ k ∧ k < n then P k + s * sm (i + 1).toNat (fun x => A x * B (k - x)) else zG S (a + 1) k) → At d 44 c44_105 [(0, (2, a)), (1, (2, b)), (2, (2, c)), (3, (0, s)), (4, (0, u + w)), (5, (0, i))] [] S' Q := by
        rintro _ rfl
        apply w_Line_addProduct_105
        rintro _ rfl
        rw [w32_id (by omega) (by omega)]
        exact hk _ ⟨by omega, rfl⟩
      have hsm : ∀ k, sm (i + 1).toNat (fun x => A x * B (k - x)) = sm i.toNat (fun x => A x * B (k - x)) + A i * B (k - i) := by
        intro k
        rw [show (i + 1).toNat = i.toNat + 1 by omega, sm_succ, show ((i.toNat : Nat) : Int) = i by omega]
      refine loopU (P := fun j S' => At d 44 c44_62 [(0, (2, a)), (1, (2, b)), (2, (2, c)), (3, (0, s)), (4, (0, u + w)), (5, (0, i)), (6, (0, s * A i)), (7, (0, j))] [] S' Q) (I := fun j S' => 0 ≤ j ∧ S' = zR S (a + 1) (fun k => if 0 ≤ k ∧ k < n then P k + s * sm i.toNat (fun x => A x * B (k - x)) + (if i ≤ k ∧ k < i + j then s * A i * B (k - i) else 0) else zG S (a + 1) k)) (w + 1) ?_ ?_ 0 _ (by omega) ⟨by omega, ?_⟩
      · rintro j _ hj ⟨j0, rfl⟩ hk2
        apply w_Line_addProduct_62
        rw [w32_id (x := i + j) (by omega) (by omega)]
        have hv : zG (zR S (a + 1) (fun k => if 0 ≤ k ∧ k < n then P k + s * sm i.toNat (fun x => A x * B (k - x)) + (if i ≤ k ∧ k < i + j then s * A i * B (k - i) else 0) else zG S (a + 1) k)) (a + 1) (i + j) = P (i + j) + s * sm i.toNat (fun x => A x * B (i + j - x)) := by
          rw [zG_zR_at, if_pos (by omega), if_neg (by omega), Int.add_zero]
        have hr2 : zG S (c + 1) j = B j := g4 j j0 (by omega)
        simp only [zK_zR, zL_zR, zG_zR_ne S n1, zG_zR_ne S n4, zG_zR_ne S n5, hv, hr2, k1, k2, k3, k4, o1, o2, o3, o4, g1, true_and, and_true, implies_true, forall_eq]
        refine ⟨fun hc => hexit _ (zR_congr _ _ fun k => ?_), fun hc => ⟨by omega, by omega, by omega, ?_⟩⟩
        · have hz : s * A i = 0 := by omega
          have hz2 : s * (A i * B (k - i)) = 0 := by rw [← Int.mul_assoc, hz, Int.zero_mul]
          rw [hsm, Int.mul_add, hz2, hz]
          simp
        · have c1 := sm_b (A := A) (B := B) (n := i.toNat) (k := i + j) hA hB (by omega)
          have c2 := hsx (sm i.toNat (fun x => A x * B (i + j - x)))
          have c3 := mul_b (hA i) (hB j)
          have c4 := hsx (A i * B j)
          have c5 := hP (i + j)
          rw [← Int.mul_assoc] at c4
          rw [w32_id (x := s * A i * B j) (by omega) (by omega), w32_id (x := P (i + j) + s * sm i.toNat (fun x => A x * B (i + j - x)) + s * A i * B j) (by omega) (by omega), w32_id (by omega) (by omega)]
          refine hk2 _ ⟨by omega, ?_⟩
          rw [zS_zR]
          refine zR_congr _ _ fun k => ?_
          by_cases hkk : k = i + j
          · rw [if_pos hkk, if_pos (by omega), if_pos (by omega), hkk, show i + j - i = j by omega]
          · grind
      · rintro _ ⟨j0, rfl⟩
        apply w_Line_addProduct_62
        simp only [zK_zR, zL_zR, zG_zR_ne S n4, o1, g1, true_and, and_true, implies_true, forall_eq]
        refine ⟨fun _ => hexit _ (zR_congr _ _ fun k => ?_), fun hc => by omega⟩
        by_cases hkn : 0 ≤ k ∧ k < n
        · rw [if_pos hkn, if_pos hkn, hsm, Int.mul_add, ← Int.mul_assoc, Int.add_assoc]
          congr 2
          by_cases hkk : i ≤ k ∧ k < i + (w + 1)
          · rw [if_pos hkk]
          · rw [if_neg hkk, show B (k - i) = 0 from (by by_cases hq : w < k - i; exact g5 _ hq; exact g6 _ (by omega)), Int.mul_zero]
        · rw [if_neg hkn, if_neg hkn]
      · refine zR_congr _ _ fun k => ?_
        rw [if_neg (show ¬ (i ≤ k ∧ k < i + 0) by omega), Int.add_zero]
    · rintro _ ⟨h0, rfl⟩
      have hcn : ∀ k, sm (u + 1).toNat (fun x => A x * B (k - x)) = cnv A B k := fun k => cnv_to f2 f5 g6
      apply w_Line_addProduct_39
      simp only [zK_zR, zL_zR, zG_zR_ne S n1, zG_zR_ne S n2, k1, e1, l1, f1, true_and, and_true, implies_true, forall_eq]
      refine ⟨fun _ => H _ ⟨rfl, rfl, fun b j q => ?_⟩ ⟨⟨k1, ?_, k3, k4, k5, k6⟩, ?_, by split <;> omega, by split <;> omega, fun i i0 i1 => ?_, fun i hi => ?_, fun i hi => ?_⟩, fun hc => by omega⟩
      · rw [zG_zS_ne _ (Or.inl (fun z => q (Or.inl z))), zG_zR_ne _ (fun z => q (Or.inr z))]
      · rw [zG_zS_ne _ (Or.inr (by omega)), zG_zR_ne _ n1, k2]
      · rw [zG_zS_at, if_neg (show ¬ (u < 0 ∨ w < 0) by omega)]
        split <;> omega
      · rw [zG_zS_ne _ (Or.inl (by omega)), zG_zR_at, if_pos ⟨i0, i1⟩, hcn]
      · (try dsimp only)
        rw [if_neg (show ¬ (u < 0 ∨ w < 0) by omega)] at hi
        rw [e5 i (by omega), ← hcn, sm_zeros (fun x x0 x1 => ?_), Int.mul_zero, Int.add_zero]
        (try dsimp only)
        rw [g5 (i - x) (by omega), Int.mul_zero]
      · (try dsimp only)
        rw [e6 i hi, show cnv A B i = 0 from (by unfold cnv; rw [show (i + 1).toNat = 0 by omega, sm_zero]), Int.mul_zero, Int.add_zero]
    · refine ((zR_congr _ _ fun j => ?_).trans (zR_self S (a + 1))).symm
      by_cases hj : 0 ≤ j ∧ j < n
      · rw [if_pos hj, show (0 : Int).toNat = 0 from rfl, sm_zero, Int.mul_zero, Int.add_zero, e4 j hj.1 hj.2]
      · rw [if_neg hj]
