/-! Line: a polynomial in one unknown. -/
def Ln (S : Hp) (a n : Int) : Prop := zK S a = 4 ∧ zG S a 0 = a + 1 ∧ zK S (a + 1) = 101 ∧ zL S (a + 1) = n ∧ 0 < n ∧ n ≤ 200
def LI (S : Hp) (a n t : Int) (P : Int → Int) : Prop := Ln S a n ∧ zG S a 1 = t ∧ -1 ≤ t ∧ t < n ∧ (∀ i, 0 ≤ i → i < n → zG S (a + 1) i = P i) ∧ (∀ i, t < i → P i = 0) ∧ ∀ i, i < 0 → P i = 0
/-- the cells of a line -/
def ML (a : Int) : Int → Prop := fun x => x = a ∨ x = a + 1
theorem Ln.keep {M : Int → Prop} {S S' : Hp} {a n : Int} (h : Ln S a n) (hm : Md M S S') (h0 : zG S' a 0 = zG S a 0) : Ln S' a n := by
  obtain ⟨k1, k2, k3, k4, k5⟩ := h
  exact ⟨by rw [hm.K]; exact k1, by rw [h0]; exact k2, by rw [hm.K]; exact k3, by rw [hm.L]; exact k4, k5⟩
theorem LI.keep {M : Int → Prop} {S S' : Hp} {a n t : Int} {P : Int → Int} (h : LI S a n t P) (hm : Md M S S') (h1 : ¬ M a) (h2 : ¬ M (a + 1)) : LI S' a n t P := by
  obtain ⟨hl, e1, e2, e3, e4, e5⟩ := h
  exact ⟨hl.keep hm (hm.G h1 0), by rw [hm.G h1]; exact e1, e2, e3, fun i i0 i1 => by rw [hm.G h2]; exact e4 i i0 i1, e5⟩
theorem LI.congr {S : Hp} {a n t : Int} {P R : Int → Int} (h : LI S a n t P) (hp : ∀ i, P i = R i) : LI S a n t R := by
  have : P = R := funext hp
  rw [← this]
  exact h
/-- two lines lie apart -/
theorem Ln.apart {S : Hp} {a b n m : Int} (h : Ln S a n) (h' : Ln S b m) : a + 1 ≠ b ∧ b + 1 ≠ a := by
  obtain ⟨k1, k2, k3, k4, k5⟩ := h
  obtain ⟨l1, l2, l3, l4, l5⟩ := h'
  constructor
  · intro q
    rw [← q, k3] at l1
    omega
  · intro q
    rw [← q, l3] at k1
    omega
theorem s_number {d : Nat} {a i n t : Int} {S : Hp} {P : Int → Int} {Q : Vl → Hp → Prop} (h : LI S a n t P) (H : Q (0, P i) S) : Ev d 39 [(2, a), (0, i)] S Q := by
  obtain ⟨⟨k1, k2, k3, k4, k5, k6⟩, e1, e2, e3, e4, e5, e6⟩ := h
  apply w_Line_number_0
  simp only [k1, k2, k3, k4, e1, true_and, and_true, implies_true, forall_eq]
  refine ⟨fun hc => by omega, ?_⟩
  have : (if i < 0 ∨ ¬ i ≤ t then 0 else zG S (a + 1) i) = P i := by
    split
    · rename_i hc
      rcases hc with hc | hc
      · exact (e6 i hc).symm
      · exact (e5 i (by omega)).symm
    · exact e4 i (by omega) (by omega)
  rw [this]
  exact H
theorem s_zero {d : Nat} {a n t : Int} {S : Hp} {P : Int → Int} {Q : Vl → Hp → Prop} (h : LI S a n t P) (H : ∀ S', Md (ML a) S S' → LI S' a n (-1) (fun _ => 0) → Q (3, 0) S') : Ev d 40 [(2, a)] S Q := by
  obtain ⟨⟨k1, k2, k3, k4, k5, k6⟩, e1, e2, e3, e4, e5, e6⟩ := h
  apply w_Line_zero_0
  refine loopU (P := fun i S' => At d 40 c40_2 [(0, (2, a)), (1, (0, i))] [] S' Q) (I := fun i S' => 0 ≤ i ∧ S' = zR S (a + 1) (fun j => if 0 ≤ j ∧ j < i then 0 else zG S (a + 1) j)) (t + 1) ?_ ?_ 0 S (by omega) ⟨by omega, ?_⟩
  · rintro i _ hi ⟨h0, rfl⟩ hk
    have hne : a ≠ a + 1 := by omega
    apply w_Line_zero_2
    simp only [zK_zR, zL_zR, zG_zR_ne S hne, k1, k2, k3, k4, e1, true_and, and_true, implies_true, forall_eq]
    refine ⟨fun hc => by omega, fun _ => ⟨by omega, ?_⟩⟩
    rw [w32_id (by omega) (by omega)]
    refine hk _ ⟨by omega, ?_⟩
    rw [zS_zR]
    exact zR_congr _ _ fun j => by grind
  · rintro _ ⟨-, rfl⟩
    have hne : a ≠ a + 1 := by omega
    apply w_Line_zero_2
    simp only [zK_zR, zL_zR, zG_zR_ne S hne, k1, k2, k3, k4, e1, true_and, and_true, implies_true, forall_eq]
    refine ⟨fun _ => H _ ⟨rfl, rfl, fun b j q => ?_⟩ ⟨⟨k1, ?_, k3, k4, k5, k6⟩, ?_, by omega, by omega, fun i h0 h1 => ?_, fun _ _ => rfl, fun _ _ => rfl⟩, fun hc => by omega⟩
    · rw [zG_zS_ne _ (Or.inl (fun z => q (Or.inl z))), zG_zR_ne _ (fun z => q (Or.inr z))]
    · rw [zG_zS_ne _ (Or.inr (by omega)), zG_zR_ne _ hne, k2]
    · rw [zG_zS_at]
    · rw [zG_zS_ne _ (Or.inl (by omega)), zG_zR_at]
      split
      · rfl
      · rw [e4 i h0 h1, e5 i (by omega)]
  · refine ((zR_congr _ _ fun j => ?_).trans (zR_self S (a + 1))).symm
    rw [if_neg (by omega)]
theorem s_take {d : Nat} {a b n m t u : Int} {S : Hp} {P R : Int → Int} {Q : Vl → Hp → Prop} (h : LI S a n t P) (h' : LI S b m u R) (hne : a ≠ b) (hu : u < n) (H : ∀ S', Md (ML a) S S' → LI S' a n u R → Q (3, 0) S') : Ev d 41 [(2, a), (2, b)] S Q := by
  have hap := h.1.apart h'.1
  obtain ⟨⟨k1, k2, k3, k4, k5, k6⟩, e1, e2, e3, e4, e5, e6⟩ := h
  obtain ⟨⟨l1, l2, l3, l4, l5, l6⟩, f1, f2, f3, f4, f5, f6⟩ := h'
  have n1 : a ≠ a + 1 := by omega
  have n2 : b ≠ a + 1 := fun q => hap.1 q.symm
  have n3 : b + 1 ≠ a + 1 := by omega
  apply w_Line_take_0
  simp only [k1, k2, k3, k4, e1, l1, f1, true_and, and_true, implies_true, forall_eq]
  rw [if_neg (by omega)]
  refine loopU (P := fun i S' => At d 41 c41_29 [(0, (2, a)), (1, (2, b)), (2, (0, u)), (3, (0, i))] [] S' Q) (I := fun i S' => 0 ≤ i ∧ S' = zR S (a + 1) (fun j => if 0 ≤ j ∧ j < i then R j else zG S (a + 1) j)) (u + 1) ?_ ?_ 0 S (by omega) ⟨by omega, ?_⟩
  · rintro i _ hi ⟨h0, rfl⟩ hk
    apply w_Line_take_29
    simp only [zK_zR, zL_zR, zG_zR_ne S n1, zG_zR_ne S n2, zG_zR_ne S n3, k1, k2, k3, k4, e1, l1, l2, l3, l4, f1, true_and, and_true, implies_true, forall_eq]
    refine ⟨fun hc => by omega, fun _ => ⟨by omega, by omega, ?_⟩⟩
    rw [w32_id (by omega) (by omega)]
    refine hk _ ⟨by omega, ?_⟩
    rw [zS_zR]
    refine zR_congr _ _ fun j => ?_
    by_cases h1 : j = i
    · rw [if_pos h1, if_pos (by omega), h1, f4 i (by omega) (by omega)]
    · by_cases h2 : 0 ≤ j ∧ j < i
      · rw [if_neg h1, if_pos h2, if_pos (by omega)]
      · rw [if_neg h1, if_neg h2, if_neg (by omega)]
  · rintro _ ⟨-, rfl⟩
    apply w_Line_take_29
    refine ⟨fun _ => ?_, fun hc => absurd (show u < u + 1 by omega) hc⟩
    rintro _ rfl
    rw [w32_id (by omega) (by omega)]
    obtain ⟨e, he1, he2, he3⟩ : ∃ e : Int, u + 1 ≤ e ∧ t < e ∧ ∀ i, u + 1 ≤ i → i < e → i ≤ t := ⟨max (u + 1) (t + 1), by omega, by omega, fun i h1 h2 => by omega⟩
    refine loopU (P := fun i S' => At d 41 c41_56 [(0, (2, a)), (2, (0, u)), (3, (0, i))] [] S' Q) (I := fun i S' => u + 1 ≤ i ∧ S' = zR S (a + 1) (fun j => if 0 ≤ j ∧ j < u + 1 then R j else if 0 ≤ j ∧ j < i then 0 else zG S (a + 1) j)) e ?_ ?_ (u + 1) _ he1 ⟨by omega, ?_⟩
    · rintro i _ hi ⟨h0, rfl⟩ hk
      have hit : i ≤ t := he3 i h0 hi
      apply w_Line_take_56
      simp only [zK_zR, zL_zR, zG_zR_ne S n1, k1, k2, k3, k4, e1, true_and, and_true, implies_true, forall_eq]
      refine ⟨fun hc => by omega, fun _ => ⟨by omega, ?_⟩⟩
      rw [w32_id (by omega) (by omega)]
      refine hk _ ⟨by omega, ?_⟩
      rw [zS_zR]
      refine zR_congr _ _ fun j => ?_
      by_cases h1 : j = i
      · rw [if_pos h1, if_neg (by omega), if_pos (by omega)]
      · rw [if_neg h1]
        by_cases h2 : 0 ≤ j ∧ j < u + 1
        · rw [if_pos h2, if_pos h2]
        · rw [if_neg h2, if_neg h2]
          by_cases h3 : 0 ≤ j ∧ j < i
          · rw [if_pos h3, if_pos (by omega)]
          · rw [if_neg h3, if_neg (by omega)]
    · rintro _ ⟨h0, rfl⟩
      apply w_Line_take_56
      simp only [zK_zR, zL_zR, zG_zR_ne S n1, k1, k2, k3, k4, e1, true_and, and_true, implies_true, forall_eq]
      refine ⟨fun _ => H _ ⟨rfl, rfl, fun b j q => ?_⟩ ⟨⟨k1, ?_, k3, k4, k5, k6⟩, ?_, by omega, by omega, fun i h0 h1 => ?_, f5, f6⟩, fun hc => by omega⟩
      · rw [zG_zS_ne _ (Or.inl (fun z => q (Or.inl z))), zG_zR_ne _ (fun z => q (Or.inr z))]
      · rw [zG_zS_ne _ (Or.inr (by omega)), zG_zR_ne _ n1, k2]
      · rw [zG_zS_at]
      · rw [zG_zS_ne _ (Or.inl (by omega)), zG_zR_at]
        split
        · rfl
        · split
          · exact (f5 i (by omega)).symm
          · rw [e4 i h0 h1, e5 i (by omega), f5 i (by omega)]
    · refine zR_congr _ _ fun j => ?_
      by_cases h1 : 0 ≤ j ∧ j < u + 1
      · rw [if_pos h1, if_pos h1]
      · rw [if_neg h1, if_neg h1, if_neg (by omega)]
  · refine ((zR_congr _ _ fun j => ?_).trans (zR_self S (a + 1))).symm
    rw [if_neg (by omega)]
theorem s_write {d : Nat} {a i v n t : Int} {S : Hp} {P : Int → Int} {Q : Vl → Hp → Prop} (h : LI S a n t P) (hi : t < i) (hn : i < n) (h0 : 0 ≤ i) (H : ∀ S', Md (ML a) S S' → LI S' a n (if v = 0 then t else i) (fun j => if j = i then v else P j) → Q (3, 0) S') : Ev d 42 [(2, a), (0, i), (0, v)] S Q := by
  have hh := h
  obtain ⟨⟨k1, k2, k3, k4, k5, k6⟩, e1, e2, e3, e4, e5, e6⟩ := h
  have n1 : a ≠ a + 1 := by omega
  apply w_Line_write_0
  simp only [zK_zS, zG_zS_ne S (Or.inl n1), k1, k2, k3, k4, e1, true_and, and_true, implies_true, forall_eq]
  refine ⟨fun hc => ?_, fun hc => ⟨by omega, ?_⟩⟩
  · have hv : v = 0 := by omega
    refine H S (Md.refl _ _) ?_
    rw [if_pos hv]
    refine hh.congr fun j => ?_
    by_cases hj : j = i
    · rw [if_pos hj, hj, hv, e5 i hi]
    · rw [if_neg hj]
  · have hv : ¬ v = 0 := by omega
    refine H _ ⟨rfl, rfl, fun b j q => ?_⟩ ?_
    · rw [zG_zS_ne _ (Or.inl (fun z => q (Or.inl z))), zG_zS_ne _ (Or.inl (fun z => q (Or.inr z)))]
    · rw [if_neg hv]
      refine ⟨⟨k1, ?_, k3, k4, k5, k6⟩, zG_zS_at _ _ _ _, by omega, hn, fun j j0 j1 => ?_, fun j hj => ?_, fun j hj => ?_⟩
      · rw [zG_zS_ne _ (Or.inr (by omega)), zG_zS_ne _ (Or.inl n1), k2]
      · grind [zG_zS]
      · grind
      · grind
theorem s_settle {d : Nat} {a n t p : Int} {S : Hp} {P : Int → Int} {Q : Vl → Hp → Prop} (h : LI S a n t P) (hp : 0 < p) (hp9 : p < 1000) (H : ∀ S' t', Md (ML a) S S' → LI S' a n t' (fun i => P i % p) → (0 ≤ t' → P t' % p ≠ 0) → t' ≤ t → Q (3, 0) S') : Ev d 45 [(2, a), (0, p)] S Q := by
  obtain ⟨⟨k1, k2, k3, k4, k5, k6⟩, e1, e2, e3, e4, e5, e6⟩ := h
  have n1 : a ≠ a + 1 := by omega
  apply w_Line_settle_0
  refine loopU2 (P := fun i mo S' => At d 45 c45_4 [(0, (2, a)), (1, (0, p)), (2, (0, mo)), (3, (0, i))] [] S' Q) (I := fun i mo S' => (0 ≤ i ∧ -1 ≤ mo ∧ mo < i) ∧ (∀ j, mo < j → j < i → P j % p = 0) ∧ (0 ≤ mo → P mo % p ≠ 0) ∧ S' = zR S (a + 1) (fun j => if 0 ≤ j ∧ j < i then P j % p else zG S (a + 1) j)) (t + 1) ?_ ?_ 0 (-1) S (by omega) ⟨⟨by omega, by omega, by omega⟩, fun j h1 h2 => by omega, fun q => absurd q (by omega), ?_⟩
  · rintro i mo _ hi ⟨⟨h0, h1, h2⟩, h3, h4, rfl⟩ hk
    apply w_Line_settle_4
    have hv : zG (zR S (a + 1) (fun j => if 0 ≤ j ∧ j < i then P j % p else zG S (a + 1) j)) (a + 1) i = P i := by
      rw [zG_zR_at, if_neg (by omega), e4 i h0 (by omega)]
    simp only [zK_zR, zL_zR, zG_zR_ne S n1, hv, k1, k2, k3, k4, e1, true_and, and_true, implies_true, forall_eq]
    refine ⟨fun hc => by omega, fun _ => ⟨by omega, by omega, by omega, ?_⟩⟩
    have b1 := tm_lt (x := P i) hp
    have b2 := tm_gt (x := P i) hp
    rw [w32_id (x := (P i).tmod p + p) (by omega) (by omega), tm_fix hp, w32_id (by omega) (by omega)]
    refine hk _ _ ⟨⟨by omega, ?_, ?_⟩, fun j j1 j2 => ?_, fun q => ?_, ?_⟩
    · grind
    · grind
    · have := tm_zero (x := P i) hp
      grind
    · have := tm_zero (x := P i) hp
      grind
    · rw [zS_zR]
      exact zR_congr _ _ fun j => by grind
  · rintro mo _ ⟨⟨h0, h1, h2⟩, h3, h4, rfl⟩
    apply w_Line_settle_4
    simp only [zK_zR, zL_zR, zG_zR_ne S n1, k1, k2, k3, k4, e1, true_and, and_true, implies_true, forall_eq]
    refine ⟨fun _ => H _ mo ⟨rfl, rfl, fun b j q => ?_⟩ ⟨⟨k1, ?_, k3, k4, k5, k6⟩, zG_zS_at _ _ _ _, h1, by omega, fun i i0 i1 => ?_, fun i hi => ?_, fun i hi => ?_⟩ h4 (by omega), fun hc => by omega⟩
    · rw [zG_zS_ne _ (Or.inl (fun z => q (Or.inl z))), zG_zR_ne _ (fun z => q (Or.inr z))]
    · rw [zG_zS_ne _ (Or.inr (by omega)), zG_zR_ne _ n1, k2]
    · rw [zG_zS_ne _ (Or.inl (by omega)), zG_zR_at]
      split
      · rfl
      · rw [e4 i i0 i1]
        dsimp only
        rw [e5 i (by omega)]
        exact (Int.zero_emod p).symm
    · dsimp only
      by_cases hj : i < t + 1
      · exact h3 i hi hj
      · rw [e5 i (by omega)]
        exact Int.zero_emod p
    · dsimp only
      rw [e6 i hi]
      exact Int.zero_emod p
  · refine ((zR_congr _ _ fun j => ?_).trans (zR_self S (a + 1))).symm
    rw [if_neg (by omega)]
