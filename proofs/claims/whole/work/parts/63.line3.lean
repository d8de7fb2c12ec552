/-! Line, third part: by a root. -/
/-- what is carried past index T - k: Horner's steps from T down -/
def qd (p c : Int) (P : Int → Int) (T : Int) : Nat → Int
  | 0 => 0
  | k + 1 => (P (T - k) + c * qd p c P T k) % p
/-- the quotient by x - c in front of x^i (at -1: what remains) -/
def qr (p c : Int) (P : Int → Int) (T i : Int) : Int := qd p c P T (T - i).toNat
theorem qr_top {p c T i : Int} {P : Int → Int} (h : T ≤ i) : qr p c P T i = 0 := by
  unfold qr
  rw [show (T - i).toNat = 0 by omega]
  rfl
theorem qr_step {p c T i : Int} {P : Int → Int} (h : i ≤ T) : qr p c P T (i - 1) = (P i + c * qr p c P T i) % p := by
  unfold qr
  rw [show (T - (i - 1)).toNat = (T - i).toNat + 1 by omega]
  show (P (T - ((T - i).toNat : Int)) + c * qd p c P T (T - i).toNat) % p = _
  rw [show T - ((T - i).toNat : Int) = i by omega]
theorem qr_bd {p c T : Int} {P : Int → Int} (hp : 0 < p) (i : Int) : 0 ≤ qr p c P T i ∧ qr p c P T i < p := by
  by_cases h : T ≤ i
  · rw [qr_top h]
    omega
  · have := qr_step (p := p) (c := c) (P := P) (T := T) (i := i + 1) (by omega)
    rw [show i + 1 - 1 = i by omega] at this
    rw [this]
    exact ⟨em_ge hp, em_lt hp⟩
theorem qr_T {p c T T' : Int} {P : Int → Int} (hP : ∀ i, T < i → P i = 0) (hT : T ≤ T') : ∀ i, qr p c P T' i = qr p c P T i := by
  have key : ∀ (n : Nat) (i : Int), (T' - i).toNat = n → qr p c P T' i = qr p c P T i := by
    intro n
    induction n with
    | zero =>
      intro i hn
      rw [qr_top (by omega), qr_top (by omega)]
    | succ n ih =>
      intro i hn
      have h1 := qr_step (p := p) (c := c) (P := P) (T := T') (i := i + 1) (by omega)
      rw [show i + 1 - 1 = i by omega, ih (i + 1) (by omega)] at h1
      rw [h1]
      by_cases hi : i + 1 ≤ T
      · have h2 := qr_step (p := p) (c := c) (P := P) (T := T) (i := i + 1) hi
        rw [show i + 1 - 1 = i by omega] at h2
        rw [h2]
      · rw [qr_top (by omega), qr_top (by omega), hP (i + 1) (by omega), Int.mul_zero, Int.add_zero]
        exact Int.zero_emod p
  exact fun i => key _ i rfl
theorem qr_congr {p c T i : Int} {P R : Int → Int} (h : ∀ j, i < j → j ≤ T → P j = R j) : qr p c P T i = qr p c R T i := by
  have key : ∀ (n : Nat) (j : Int), (T - j).toNat = n → i ≤ j → qr p c P T j = qr p c R T j := by
    intro n
    induction n with
    | zero =>
      intro j hn hj
      rw [qr_top (by omega), qr_top (by omega)]
    | succ n ih =>
      intro j hn hj
      have h1 := qr_step (p := p) (c := c) (P := P) (T := T) (i := j + 1) (by omega)
      have h2 := qr_step (p := p) (c := c) (P := R) (T := T) (i := j + 1) (by omega)
      rw [show j + 1 - 1 = j by omega] at h1 h2
      rw [h1, h2, ih (j + 1) (by omega) (by omega), h (j + 1) (by omega) (by omega)]
  exact key _ i rfl (by omega)
theorem mul_B {x y : Int} (hx : 0 ≤ x ∧ x < 1000) (hy : 0 ≤ y ∧ y < 1000) : 0 ≤ x * y ∧ x * y ≤ 1000000 := by
  constructor
  · exact Int.mul_nonneg hx.1 hy.1
  · have := Int.mul_le_mul (show x ≤ 1000 by omega) (show y ≤ 1000 by omega) hy.1 (by omega)
    omega
theorem s_valueAt {d : Nat} {a n t c p : Int} {S : Hp} {P : Int → Int} {Q : Vl → Hp → Prop} (h : LI S a n t P) (hP : ∀ i, 0 ≤ P i ∧ P i < 1000) (hc : 0 ≤ c ∧ c < 1000) (hp : 0 < p ∧ p < 1000) (H : Q (0, qr p c P t (-1)) S) : Ev d 46 [(2, a), (0, c), (0, p)] S Q := by
  obtain ⟨⟨k1, k2, k3, k4, k5, k6⟩, e1, e2, e3, e4, e5, e6⟩ := h
  apply w_Line_valueAt_0
  simp only [k1, e1, true_and, forall_eq]
  refine loopD (α := Int) (P := fun i v => At d 46 c46_8 [(0, (2, a)), (1, (0, c)), (2, (0, p)), (3, (0, v)), (4, (0, i))] [] S Q) (I := fun i v => i ≤ t ∧ v = qr p c P t i) 0 ?_ ?_ t 0 (by omega) ⟨by omega, (qr_top (by omega)).symm⟩
  · rintro i _ hi ⟨h1, rfl⟩ hk
    have b1 := qr_bd (p := p) (c := c) (P := P) (T := t) hp.1 i
    have b2 := hP i
    have b3 := mul_B (x := qr p c P t i) (y := c) ⟨b1.1, by omega⟩ hc
    have hv : zG S (a + 1) i = P i := e4 i hi (by omega)
    apply w_Line_valueAt_8
    simp only [hv, k1, k2, k3, k4, true_and, and_true, implies_true, forall_eq]
    refine ⟨fun hc => by omega, fun _ => ⟨by omega, by omega, ?_⟩⟩
    rw [w32_id (x := qr p c P t i * c) (by omega) (by omega), w32_id (x := qr p c P t i * c + P i) (by omega) (by omega), tm_nn (by omega), w32_id (by omega) (by omega)]
    refine hk _ ⟨by omega, ?_⟩
    rw [qr_step h1, Int.mul_comm c, Int.add_comm]
  · rintro _ ⟨h1, rfl⟩
    apply w_Line_valueAt_8
    exact ⟨fun _ => H, fun hc => absurd (show (0 : Int) - 1 < 0 by omega) hc⟩
theorem s_divideByRoot {d : Nat} {a n t c p : Int} {S : Hp} {P : Int → Int} {Q : Vl → Hp → Prop} (h : LI S a n t P) (hP : ∀ i, 0 ≤ P i ∧ P i < 1000) (hc : 0 ≤ c ∧ c < 1000) (hp : 0 < p ∧ p < 1000) (H : ∀ S', Md (ML a) S S' → LI S' a n (if t < 0 then t else t - 1) (fun i => if i < 0 then 0 else qr p c P t i) → Q (3, 0) S') : Ev d 47 [(2, a), (0, c), (0, p)] S Q := by
  obtain ⟨⟨k1, k2, k3, k4, k5, k6⟩, e1, e2, e3, e4, e5, e6⟩ := h
  have n1 : a ≠ a + 1 := by omega
  apply w_Line_divideByRoot_0
  simp only [k1, e1, true_and, forall_eq]
  refine loopD2 (P := fun i v S' => At d 47 c47_8 [(0, (2, a)), (1, (0, c)), (2, (0, p)), (3, (0, v)), (4, (0, i))] [] S' Q) (I := fun i v S' => i ≤ t ∧ v = qr p c P t i ∧ S' = zR S (a + 1) (fun j => if i < j ∧ j < n then qr p c P t j else zG S (a + 1) j)) 0 ?_ ?_ t 0 S (by omega) ⟨by omega, (qr_top (by omega)).symm, ?_⟩
  · rintro i _ _ hi ⟨h1, rfl, rfl⟩ hk
    have b1 := qr_bd (p := p) (c := c) (P := P) (T := t) hp.1 i
    have b2 := hP i
    have b3 := mul_B (x := c) (y := qr p c P t i) hc ⟨b1.1, by omega⟩
    have hv : zG (zR S (a + 1) (fun j => if i < j ∧ j < n then qr p c P t j else zG S (a + 1) j)) (a + 1) i = P i := by
      rw [zG_zR_at, if_neg (by omega), e4 i hi (by omega)]
    apply w_Line_divideByRoot_8
    simp only [zK_zR, zL_zR, zG_zR_ne S n1, hv, k1, k2, k3, k4, e1, true_and, and_true, implies_true, forall_eq]
    refine ⟨fun hc => by omega, fun _ => ⟨by omega, by omega, by omega, ?_⟩⟩
    rw [w32_id (x := c * qr p c P t i) (by omega) (by omega), w32_id (x := P i + c * qr p c P t i) (by omega) (by omega), tm_nn (by omega), w32_id (by omega) (by omega)]
    refine hk _ _ ⟨by omega, (qr_step h1).symm, ?_⟩
    rw [zS_zR]
    exact zR_congr _ _ fun j => by grind
  · rintro _ _ ⟨h1, rfl, rfl⟩
    apply w_Line_divideByRoot_8
    simp only [zK_zR, zL_zR, zG_zR_ne S n1, k1, k2, k3, k4, e1, true_and, and_true, implies_true, forall_eq]
    refine ⟨fun _ => H _ ⟨rfl, rfl, fun b j q => ?_⟩ ⟨⟨k1, ?_, k3, k4, k5, k6⟩, ?_, by split <;> omega, by split <;> omega, fun i i0 i1 => ?_, fun i hi => ?_, fun i hi => ?_⟩, fun hc => by omega⟩
    · rw [zG_zS_ne _ (Or.inl (fun z => q (Or.inl z))), zG_zR_ne _ (fun z => q (Or.inr z))]
    · rw [zG_zS_ne _ (Or.inr (by omega)), zG_zR_ne _ n1, k2]
    · rw [zG_zS_at]
      by_cases ht : t < 0
      · rw [if_neg (by omega), if_pos ht]
      · rw [if_pos (by omega), if_neg ht, w32_id (by omega) (by omega)]
    · rw [zG_zS_ne _ (Or.inl (by omega)), zG_zR_at, if_pos (by omega)]
      dsimp only
      rw [if_neg (by omega)]
    · dsimp only
      by_cases hi0 : i < 0
      · rw [if_pos hi0]
      · rw [if_neg hi0]
        by_cases ht : t < 0
        · exact qr_top (by omega)
        · rw [if_neg ht] at hi
          exact qr_top (by omega)
    · dsimp only
      rw [if_pos hi]
  · refine ((zR_congr _ _ fun j => ?_).trans (zR_self S (a + 1))).symm
    by_cases hj : t < j ∧ j < n
    · rw [if_pos hj, qr_top (by omega), e4 j (by omega) (by omega), e5 j (by omega)]
    · rw [if_neg hj]
theorem s_timesRoot {d : Nat} {a n t c p : Int} {S : Hp} {P : Int → Int} {Q : Vl → Hp → Prop} (h : LI S a n t P) (hP : ∀ i, 0 ≤ P i ∧ P i < p) (hc : 0 ≤ c ∧ c < p) (hp : 0 < p ∧ p < 1000) (hfit : t + 1 < n) (H : ∀ S', Md (ML a) S S' → LI S' a n (if t < 0 then t else t + 1) (fun i => (P (i - 1) + (p - c) * P i) % p) → Q (3, 0) S') : Ev d 48 [(2, a), (0, c), (0, p)] S Q := by
  have hh := h
  obtain ⟨⟨k1, k2, k3, k4, k5, k6⟩, e1, e2, e3, e4, e5, e6⟩ := h
  have n1 : a ≠ a + 1 := by omega
  apply w_Line_timesRoot_0
  rw [w32_id (x := zG S a 1 + 1) (by omega) (by omega)]
  simp only [zK_zS, zG_zS_at, k1, k2, k3, k4, e1, true_and, and_true, implies_true, forall_eq]
  refine ⟨fun hc => ?_, fun hc => ?_⟩
  · have ht : t < 0 := by omega
    refine H S (Md.refl _ _) ?_
    rw [if_pos ht]
    refine hh.congr fun i => ?_
    have z : ∀ j, P j = 0 := fun j => by
      by_cases hj : t < j
      · exact e5 j hj
      · exact e6 j (by omega)
    rw [z, z, Int.mul_zero, Int.add_zero]
    exact (Int.zero_emod p).symm
  · have ht : ¬ t < 0 := by omega
    refine loopD (P := fun i S' => At d 48 c48_37 [(0, (2, a)), (1, (0, c)), (2, (0, p)), (3, (0, i))] [] S' Q) (I := fun i S' => i ≤ t + 1 ∧ S' = zR (zS S a 1 (t + 1)) (a + 1) (fun j => if i < j ∧ j ≤ t + 1 then (P (j - 1) + (p - c) * P j) % p else zG S (a + 1) j)) 0 ?_ ?_ (t + 1) _ (by omega) ⟨by omega, ?_⟩
    · rintro i _ hi ⟨h1, rfl⟩ hk
      have hv : zG (zR (zS S a 1 (t + 1)) (a + 1) (fun j => if i < j ∧ j ≤ t + 1 then (P (j - 1) + (p - c) * P j) % p else zG S (a + 1) j)) (a + 1) i = P i := by
        rw [zG_zR_at, if_neg (by omega), e4 i hi (by omega)]
      have hv2 : ¬ i ≤ 0 → zG (zR (zS S a 1 (t + 1)) (a + 1) (fun j => if i < j ∧ j ≤ t + 1 then (P (j - 1) + (p - c) * P j) % p else zG S (a + 1) j)) (a + 1) (i - 1) = P (i - 1) := fun hq => by
        rw [zG_zR_at, if_neg (by omega), e4 (i - 1) (by omega) (by omega)]
      have b1 := hP i
      have b2 := hP (i - 1)
      have b3 := mul_B (x := p - c) (y := P i) (by omega) (by omega)
      apply w_Line_timesRoot_37
      rw [w32_id (x := i - 1) (by omega) (by omega), w32_id (x := p - c) (by omega) (by omega)]
      simp only [zK_zR, zK_zS, zL_zR, zL_zS, zG_zR_ne _ n1, zG_zS_ne S (a := a) (b := a) (i := 1) (j := 0) (Or.inr (by decide)), hv, k1, k2, k3, k4, true_and, and_true, implies_true, forall_eq]
      refine ⟨fun hc => by omega, fun _ => ⟨fun hq => by omega, by omega, by omega, by omega, ?_⟩⟩
      have hx : (if i ≤ 0 then 0 else zG (zR (zS S a 1 (t + 1)) (a + 1) (fun j => if i < j ∧ j ≤ t + 1 then (P (j - 1) + (p - c) * P j) % p else zG S (a + 1) j)) (a + 1) (i - 1)) = P (i - 1) := by
        split
        · exact (e6 _ (by omega)).symm
        · exact hv2 (by assumption)
      rw [hx, w32_id (x := (p - c) * P i) (by omega) (by omega), w32_id (x := P (i - 1) + (p - c) * P i) (by omega) (by omega), tm_nn (by omega), w32_id (by omega) (by omega)]
      refine hk _ ⟨by omega, ?_⟩
      rw [zS_zR]
      exact zR_congr _ _ fun j => by grind
    · rintro _ ⟨h1, rfl⟩
      apply w_Line_timesRoot_37
      refine ⟨fun _ => H _ ⟨rfl, rfl, fun b j q => ?_⟩ ⟨⟨k1, ?_, k3, k4, k5, k6⟩, ?_, by split <;> omega, by split <;> omega, fun i i0 i1 => ?_, fun i hi => ?_, fun i hi => ?_⟩, fun hc => absurd (show (0 : Int) - 1 < 0 by omega) hc⟩
      · rw [zG_zR_ne _ (fun z => q (Or.inr z)), zG_zS_ne _ (Or.inl (fun z => q (Or.inl z)))]
      · rw [zG_zR_ne _ n1, zG_zS_ne _ (Or.inr (by omega)), k2]
      · rw [zG_zR_ne _ n1, zG_zS_at, if_neg ht]
      · rw [zG_zR_at]
        dsimp only
        by_cases hq : i ≤ t + 1
        · rw [if_pos (by omega)]
        · rw [if_neg (by omega), e4 i i0 i1, e5 i (by omega), e5 (i - 1) (by omega), Int.mul_zero, Int.add_zero]
          exact (Int.zero_emod p).symm
      · dsimp only
        rw [if_neg ht] at hi
        rw [e5 i (by omega), e5 (i - 1) (by omega), Int.mul_zero, Int.add_zero]
        exact Int.zero_emod p
      · dsimp only
        rw [e6 i (by omega), e6 (i - 1) (by omega), Int.mul_zero, Int.add_zero]
        exact Int.zero_emod p
    · refine ((zR_congr _ _ fun j => ?_).trans (zR_self _ (a + 1))).symm
      rw [if_neg (by omega), zG_zS_ne _ (Or.inl (by omega))]
/-- one pass of moving: the numbers from k on become those of the quotient by x - c, what remains in front -/
def mvp (p c T : Int) (k : Int) (P : Int → Int) : Int → Int := fun i => if i < k then P i else qr p c P T (i - 1)
def mvN (p c T : Int) : Nat → (Int → Int) → Int → Int
  | 0, P => P
  | k + 1, P => mvp p c T k (mvN p c T k P)
theorem mvN_bd {p c T : Int} {P : Int → Int} (hp : 0 < p) (hP : ∀ i, 0 ≤ P i ∧ P i < p) : ∀ (k : Nat) (i : Int), 0 ≤ mvN p c T k P i ∧ mvN p c T k P i < p
  | 0, i => hP i
  | k + 1, i => by
    show 0 ≤ mvp p c T k (mvN p c T k P) i ∧ mvp p c T k (mvN p c T k P) i < p
    unfold mvp
    split
    · exact mvN_bd hp hP k i
    · exact qr_bd hp _
theorem mvN_top {p c T : Int} {P : Int → Int} (hP : ∀ i, T < i → P i = 0) : ∀ (k : Nat) (i : Int), T < i → (k : Int) ≤ T + 1 → mvN p c T k P i = 0
  | 0, i, h, _ => hP i h
  | k + 1, i, h, hk => by
    show mvp p c T k (mvN p c T k P) i = 0
    unfold mvp
    rw [if_neg (by omega)]
    exact qr_top (by omega)
theorem mvN_neg {p c T : Int} {P : Int → Int} (hP : ∀ i, i < 0 → P i = 0) : ∀ (k : Nat) (i : Int), i < 0 → mvN p c T k P i = 0
  | 0, i, h => hP i h
  | k + 1, i, h => by
    show mvp p c T k (mvN p c T k P) i = 0
    unfold mvp
    rw [if_pos (by omega)]
    exact mvN_neg hP k i h
theorem qr_c0 {p c T : Int} {P : Int → Int} (hc : c % p = 0) (hP : ∀ i, 0 ≤ P i ∧ P i < p) {i : Int} (h : i ≤ T) : qr p c P T (i - 1) = P i := by
  rw [qr_step h, Int.add_emod, Int.mul_emod, hc, Int.zero_mul, Int.zero_emod, Int.add_zero, Int.emod_emod]
  exact em_id (hP i).1 (hP i).2
theorem mvN_c0 {p c T : Int} {P : Int → Int} (hc : c % p = 0) (hP : ∀ i, 0 ≤ P i ∧ P i < p) (hT : ∀ i, T < i → P i = 0) : ∀ (k : Nat) (i : Int), mvN p c T k P i = P i
  | 0, i => rfl
  | k + 1, i => by
    have ih : mvN p c T k P = P := funext fun i => mvN_c0 hc hP hT k i
    show mvp p c T k (mvN p c T k P) i = P i
    rw [ih]
    unfold mvp
    split
    · rfl
    · by_cases h : i ≤ T
      · exact qr_c0 hc hP h
      · rw [qr_top (by omega), hT i (by omega)]
theorem s_moveBy {d : Nat} {a n t c p : Int} {S : Hp} {P : Int → Int} {Q : Vl → Hp → Prop} (h : LI S a n t P) (hP : ∀ i, 0 ≤ P i ∧ P i < p) (hc : 0 ≤ c ∧ c < 1000) (hp : 0 < p ∧ p < 1000) (H : ∀ S', Md (ML a) S S' → LI S' a n t (mvN p c t t.toNat P) → Q (3, 0) S') : Ev d 49 [(2, a), (0, c), (0, p)] S Q := by
  have hh := h
  obtain ⟨⟨k1, k2, k3, k4, k5, k6⟩, e1, e2, e3, e4, e5, e6⟩ := h
  have n1 : a ≠ a + 1 := by omega
  apply w_Line_moveBy_0
  refine ⟨by omega, fun hq => ?_, fun hq => ?_⟩
  · have hgo : ∀ (i : Int) (S' : Hp), 0 ≤ i → (i ≤ t ∨ i = 0) → S' = zR S (a + 1) (fun j => if 0 ≤ j ∧ j < n then mvN p c t i.toNat P j else zG S (a + 1) j) → At d 49 c49_9 [(0, (2, a)), (1, (0, c)), (2, (0, p)), (3, (0, i))] [] S' Q := by
      intro i S' i0 i1 hS
      refine loopU (P := fun i S' => At d 49 c49_9 [(0, (2, a)), (1, (0, c)), (2, (0, p)), (3, (0, i))] [] S' Q) (I := fun i S' => 0 ≤ i ∧ S' = zR S (a + 1) (fun j => if 0 ≤ j ∧ j < n then mvN p c t i.toNat P j else zG S (a + 1) j)) (max t 0) ?_ ?_ i S' (by omega) ⟨i0, hS⟩
      · rintro k _ hk ⟨h0, rfl⟩ hnext
        have hkt : k < t := by omega
        apply w_Line_moveBy_9
        simp only [zK_zR, zG_zR_ne S n1, k1, e1, true_and, implies_true, forall_eq]
        refine ⟨fun hc => by omega, fun _ => ?_⟩
        rw [w32_id (x := t - 1) (by omega) (by omega)]
        have hb := fun i => mvN_bd (c := c) (T := t) hp.1 hP k.toNat i
        have htp := fun i hi => mvN_top (p := p) (c := c) (T := t) e5 k.toNat i hi (by omega)
        generalize hM : mvN p c t k.toNat P = M at hb htp
        refine loopD (P := fun i S' => At d 49 c49_25 [(0, (2, a)), (1, (0, c)), (2, (0, p)), (3, (0, k)), (4, (0, i))] [] S' Q) (I := fun i S' => i ≤ t - 1 ∧ S' = zR S (a + 1) (fun j => if 0 ≤ j ∧ j < n then (if i < j then qr p c M t (j - 1) else M j) else zG S (a + 1) j)) k ?_ ?_ (t - 1) _ (by omega) ⟨by omega, ?_⟩
        · rintro i _ hi ⟨h1, rfl⟩ hk2
          have hv : zG (zR S (a + 1) (fun j => if 0 ≤ j ∧ j < n then (if i < j then qr p c M t (j - 1) else M j) else zG S (a + 1) j)) (a + 1) i = M i := by
            rw [zG_zR_at, if_pos (by omega), if_neg (by omega)]
          have hv2 : zG (zR S (a + 1) (fun j => if 0 ≤ j ∧ j < n then (if i < j then qr p c M t (j - 1) else M j) else zG S (a + 1) j)) (a + 1) (i + 1) = qr p c M t i := by
            rw [zG_zR_at, if_pos (by omega), if_pos (by omega), show i + 1 - 1 = i by omega]
          have b1 := hb i
          have b2 := qr_bd (p := p) (c := c) (P := M) (T := t) hp.1 i
          have b3 := mul_B (x := c) (y := qr p c M t i) hc (by omega)
          apply w_Line_moveBy_25
          rw [w32_id (x := i + 1) (by omega) (by omega)]
          simp only [zK_zR, zL_zR, zG_zR_ne S n1, hv, hv2, k1, k2, k3, k4, true_and, and_true, implies_true, forall_eq]
          refine ⟨fun hc => by omega, fun _ => ⟨by omega, by omega, by omega, by omega, ?_⟩⟩
          rw [w32_id (x := c * qr p c M t i) (by omega) (by omega), w32_id (x := M i + c * qr p c M t i) (by omega) (by omega), tm_nn (by omega), w32_id (by omega) (by omega)]
          refine hk2 _ ⟨by omega, ?_⟩
          rw [zS_zR, ← qr_step (by omega)]
          exact zR_congr _ _ fun j => by grind
        · rintro _ ⟨h1, rfl⟩
          apply w_Line_moveBy_25
          refine ⟨fun _ => ?_, fun hc => absurd (show k - 1 < k by omega) hc⟩
          rintro _ rfl
          rw [w32_id (by omega) (by omega)]
          refine hnext _ ⟨by omega, zR_congr _ _ fun j => ?_⟩
          rw [show (k + 1).toNat = k.toNat + 1 by omega]
          show _ = if 0 ≤ j ∧ j < n then mvp p c t (k.toNat : Int) (mvN p c t k.toNat P) j else _
          rw [hM]
          unfold mvp
          rw [show ((k.toNat : Nat) : Int) = k by omega]
          grind
        · refine zR_congr _ _ fun j => ?_
          by_cases hj : 0 ≤ j ∧ j < n
          · rw [if_pos hj, if_pos hj]
            by_cases hjt : t - 1 < j
            · rw [if_pos hjt]
              by_cases hj2 : j = t
              · rw [hj2, qr_step (by omega), qr_top (by omega), Int.mul_zero, Int.add_zero, em_id (hb t).1 (hb t).2]
              · rw [qr_top (by omega), htp j (by omega)]
            · rw [if_neg hjt]
          · rw [if_neg hj, if_neg hj]
      · rintro _ ⟨h0, rfl⟩
        apply w_Line_moveBy_9
        simp only [zK_zR, zG_zR_ne S n1, k1, e1, true_and, implies_true, forall_eq]
        refine ⟨fun _ => H _ ⟨rfl, rfl, fun b j q => ?_⟩ ⟨⟨k1, ?_, k3, k4, k5, k6⟩, ?_, e2, e3, fun i i0 i1 => ?_, fun i hi => ?_, fun i hi => mvN_neg e6 _ i hi⟩, fun hc => by omega⟩
        · exact zG_zR_ne _ (fun z => q (Or.inr z)) _ _
        · rw [zG_zR_ne _ n1, k2]
        · rw [zG_zR_ne _ n1, e1]
        · rw [zG_zR_at, if_pos ⟨i0, i1⟩, show (max t 0).toNat = t.toNat by omega]
        · exact mvN_top e5 _ i hi (by omega)
    refine hgo 0 S (by omega) (Or.inr rfl) ?_
    refine ((zR_congr _ _ fun j => ?_).trans (zR_self S (a + 1))).symm
    by_cases hj : 0 ≤ j ∧ j < n
    · rw [if_pos hj, e4 j hj.1 hj.2]
      rfl
    · rw [if_neg hj]
  · have hz : c % p = 0 := (tm_zero hp.1).mp (Decidable.not_not.mp hq)
    exact H S (Md.refl _ _) (hh.congr fun i => (mvN_c0 hz hP e5 _ i).symm)
