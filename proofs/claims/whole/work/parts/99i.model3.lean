/-! The model: products of rows. -/
/-- a piece of a row as a polynomial -/
def rwP (r : Int → Int) (o n : Int) : Int → Int := fun i => if 0 ≤ i ∧ i < n then r (o + i) else 0
def ppF (p o n : Int) (A B T : Int → Int) (i j : Int) : Int → Int := fun x => if o ≤ x ∧ x < n then (T x + (sm i.toNat (fun e => A e * B (x - o - e)) + (if x - o - i < j then A i * B (x - o - i) else 0))) % p else T x
theorem ppF_bd {p o n i j : Int} {A B T : Int → Int} (hp : 2 ≤ p) (hT : ∀ x, o ≤ x → x < n → 0 ≤ T x ∧ T x < p) (x : Int) (x0 : o ≤ x) (x1 : x < n) : 0 ≤ ppF p o n A B T i j x ∧ ppF p o n A B T i j x < p := by
  unfold ppF
  rw [if_pos ⟨x0, x1⟩]
  exact ⟨em_ge (by omega), em_lt (by omega)⟩
theorem ppF_row {p o n i m : Int} {A B T : Int → Int} (hi : 0 ≤ i) (h0 : A i = 0 ∨ ∀ e, m ≤ e → B e = 0) (hB : ∀ e, e < 0 → B e = 0) (x : Int) : ppF p o n A B T i m x = ppF p o n A B T (i + 1) 0 x := by
  unfold ppF
  by_cases q : o ≤ x ∧ x < n
  · rw [if_pos q, if_pos q, show (i + 1).toNat = i.toNat + 1 by omega, sm_succ, show ((i.toNat : Nat) : Int) = i by omega]
    have e1 : (if x - o - i < m then A i * B (x - o - i) else 0) = A i * B (x - o - i) := by
      rcases h0 with h0 | h0
      · rw [h0, Int.zero_mul]
        grind
      · by_cases r : x - o - i < m
        · rw [if_pos r]
        · rw [if_neg r, h0 _ (by omega), Int.mul_zero]
    have e2 : (if x - o - (i + 1) < 0 then A (i + 1) * B (x - o - (i + 1)) else 0) = 0 := by
      by_cases r : x - o - (i + 1) < 0
      · rw [if_pos r, hB _ r, Int.mul_zero]
      · rw [if_neg r]
    rw [e1, e2, Int.add_zero]
  · rw [if_neg q, if_neg q]
theorem ppF_skip {p o n i j : Int} {A B T : Int → Int} (h0 : B j = 0) (x : Int) : ppF p o n A B T i j x = ppF p o n A B T i (j + 1) x := by
  unfold ppF
  by_cases q : o ≤ x ∧ x < n
  · rw [if_pos q, if_pos q]
    by_cases r : x - o - i = j
    · rw [if_neg (by omega), if_pos (by omega), r, h0, Int.mul_zero]
    · by_cases r' : x - o - i < j
      · rw [if_pos r', if_pos (by omega)]
      · rw [if_neg r', if_neg (by omega)]
  · rw [if_neg q, if_neg q]
theorem ppF_put {p o n i j : Int} {A B T : Int → Int} (hr : o ≤ o + i + j ∧ o + i + j < n) (x : Int) : (if x = o + i + j then (ppF p o n A B T i j x + A i * B j) % p else ppF p o n A B T i j x) = ppF p o n A B T i (j + 1) x := by
  unfold ppF
  by_cases q : o ≤ x ∧ x < n
  · rw [if_pos q, if_pos q]
    by_cases r : x = o + i + j
    · rw [if_pos r, show x - o - i = j by omega, if_neg (Int.lt_irrefl j), if_pos (by omega), Int.add_zero, Int.emod_add_emod, Int.add_assoc]
    · rw [if_neg r]
      by_cases r' : x - o - i < j
      · rw [if_pos r', if_pos (by omega)]
      · rw [if_neg r', if_neg (by omega)]
  · rw [if_neg q, if_neg q, if_neg (by omega)]
set_option maxHeartbeats 1000000 in
theorem m_plusProduct {d : Nat} {D a oa na b ob nb t o n p : Int} {S : Hp} {Q : Vl → Hp → Prop} (hD : zK S D = 12) (hp : zG S D 0 = p) (h2 : 2 ≤ p ∧ p ≤ 7) (ta : t ≠ a) (tb : t ≠ b) (tD : t ≠ D) (ka : zK S a = 101) (kb : zK S b = 101) (kt : zK S t = 101) (lt : zL S t = n) (hoa : 0 ≤ oa ∧ oa + na ≤ zL S a) (hob : 0 ≤ ob ∧ ob + nb ≤ zL S b) (hna : 0 ≤ na ∧ na ≤ 1000) (hnb : 0 ≤ nb ∧ nb ≤ 1000) (ho : 0 ≤ o ∧ o ≤ 10000) (hA : ∀ i, oa ≤ i → i < oa + na → 0 ≤ zG S a i ∧ zG S a i < 10) (hB : ∀ i, ob ≤ i → i < ob + nb → 0 ≤ zG S b i ∧ zG S b i < 10) (ha9 : oa + na ≤ 10000) (hb9 : ob + nb ≤ 10000) (hT : ∀ x, o ≤ x → x < n → 0 ≤ zG S t x ∧ zG S t x < p) (hfit : ∀ i j, rwP (zG S a) oa na i ≠ 0 → rwP (zG S b) ob nb j ≠ 0 → o + i + j < n) (H : Q (3, 0) (zR S t (fun x => if o ≤ x ∧ x < n then (zG S t x + cnv (rwP (zG S a) oa na) (rwP (zG S b) ob nb) (x - o)) % p else zG S t x))) : Ev d 189 [(2, D), (2, a), (0, oa), (0, na), (2, b), (0, ob), (0, nb), (2, t), (0, o)] S Q := by
  apply w_Model_plusProduct_0
  generalize eA : rwP (zG S a) oa na = A at hfit H
  generalize eB : rwP (zG S b) ob nb = B at hfit H
  have vA : ∀ i, 0 ≤ i → i < na → zG S a (oa + i) = A i := fun i i0 i1 => by
    rw [← eA]
    exact (if_pos ⟨i0, i1⟩).symm
  have vB : ∀ i, 0 ≤ i → i < nb → zG S b (ob + i) = B i := fun i i0 i1 => by
    rw [← eB]
    exact (if_pos ⟨i0, i1⟩).symm
  have zB : ∀ e, e < 0 → B e = 0 := fun e he => by
    rw [← eB]
    exact if_neg (by omega)
  have zB' : ∀ e, nb ≤ e → B e = 0 := fun e he => by
    rw [← eB]
    exact if_neg (by omega)
  have zA' : ∀ e, na ≤ e → A e = 0 := fun e he => by
    rw [← eA]
    exact if_neg (by omega)
  refine loopU (P := fun i S' => At d 189 c189_3 [(0, (2, D)), (1, (2, a)), (2, (0, oa)), (3, (0, na)), (4, (2, b)), (5, (0, ob)), (6, (0, nb)), (7, (2, t)), (8, (0, o)), (9, (0, i))] [] S' Q) (I := fun i S' => 0 ≤ i ∧ S' = zR S t (ppF p o n A B (zG S t) i 0)) na ?_ ?_ 0 S (by omega) ⟨by omega, ?_⟩
  · rintro i _ hi ⟨i0, rfl⟩ hk
    apply w_Model_plusProduct_3
    refine ⟨fun hc => by omega, fun _ => ?_⟩
    have bA := hA (oa + i) (by omega) (by omega)
    rw [vA i i0 hi] at bA
    -- the end of a row
    have fin : ∀ j, 0 ≤ j → (A i = 0 ∨ j = nb) → At d 189 c189_86 [(0, (2, D)), (1, (2, a)), (2, (0, oa)), (3, (0, na)), (4, (2, b)), (5, (0, ob)), (6, (0, nb)), (7, (2, t)), (8, (0, o)), (9, (0, i))] [] (zR S t (ppF p o n A B (zG S t) i j)) Q := fun j j0 hj => by
      apply w_Model_plusProduct_86
      rintro _ rfl
      rw [w32_id (by omega) (by omega)]
      refine hk _ ⟨by omega, zR_congr _ _ (fun x => ppF_row i0 ?_ zB x)⟩
      rcases hj with hj | hj
      · exact Or.inl hj
      · exact Or.inr (fun e he => zB' e (by omega))
    refine loopU (P := fun j S' => At d 189 c189_12 [(0, (2, D)), (1, (2, a)), (2, (0, oa)), (3, (0, na)), (4, (2, b)), (5, (0, ob)), (6, (0, nb)), (7, (2, t)), (8, (0, o)), (9, (0, i)), (10, (0, j))] [] S' Q) (I := fun j S' => 0 ≤ j ∧ S' = zR S t (ppF p o n A B (zG S t) i j)) nb ?_ ?_ 0 _ (by omega) ⟨by omega, rfl⟩
    · rintro j _ hj ⟨j0, rfl⟩ hk2
      have bB := hB (ob + j) (by omega) (by omega)
      rw [vB j j0 hj] at bB
      apply w_Model_plusProduct_12
      rw [w32_id (x := oa + i) (by omega) (by omega), w32_id (x := ob + j) (by omega) (by omega), w32_id (x := o + i) (by omega) (by omega), zG_zR_ne _ (fun q => ta q.symm), zG_zR_ne _ (fun q => tb q.symm), zG_zR_ne _ (fun q => tD q.symm), vA i i0 hi, vB j j0 hj, hp]
      refine ⟨fun _ => ⟨ka, by omega, by rw [zL_zR]; omega⟩, fun hc => fin j j0 (by omega), fun hc => ⟨⟨kb, by omega, by rw [zL_zR]; omega⟩, fun hz => ?_, fun hz => ?_⟩⟩
      · apply w_Model_plusProduct_80
        rintro _ rfl
        rw [w32_id (by omega) (by omega)]
        exact hk2 _ ⟨by omega, zR_congr _ _ (fun x => ppF_skip hz x)⟩
      · have ft := hfit i j (by omega) hz
        have bT := ppF_bd (i := i) (j := j) (A := A) (B := B) h2.1 hT (o + i + j) (by omega) ft
        have mb := mul_b (x := A i) (y := B j) (by omega) (by omega)
        intro x1 hx1
        rw [w32_id (by omega) (by omega)] at hx1
        subst hx1
        rw [zG_zR_at, zL_zR, lt, w32_id (x := A i * B j) (by omega) (by omega), w32_id (by omega) (by omega), tm_nn (by omega)]
        refine ⟨⟨kt, by omega, by omega⟩, ⟨ka, by omega, by rw [zL_zR]; omega⟩, ⟨kb, by omega, by rw [zL_zR]; omega⟩, hD, by omega, ⟨kt, by omega, by omega⟩, ?_⟩
        rintro _ rfl
        apply w_Model_plusProduct_80
        rintro _ rfl
        rw [w32_id (by omega) (by omega)]
        refine hk2 _ ⟨by omega, ?_⟩
        rw [zS_zR]
        refine zR_congr _ _ (fun x => ?_)
        rw [← ppF_put (p := p) (o := o) (n := n) (i := i) (j := j) (A := A) (B := B) (T := zG S t) ⟨by omega, ft⟩ x]
        by_cases q : x = o + i + j
        · rw [if_pos q, if_pos q, q]
        · rw [if_neg q, if_neg q]
    · rintro _ ⟨j0, rfl⟩
      apply w_Model_plusProduct_12
      exact ⟨fun hc => absurd (Int.le_refl nb) hc, fun _ => fin nb (by omega) (Or.inr rfl), fun hc => absurd (Or.inl (Int.le_refl nb)) hc⟩
  · rintro _ ⟨-, rfl⟩
    apply w_Model_plusProduct_3
    refine ⟨fun _ => ?_, fun hc => absurd (Int.le_refl na) hc⟩
    have e : zR S t (ppF p o n A B (zG S t) na 0) = zR S t (fun x => if o ≤ x ∧ x < n then (zG S t x + cnv A B (x - o)) % p else zG S t x) := zR_congr _ _ (fun x => by
      unfold ppF
      by_cases q : o ≤ x ∧ x < n
      · rw [if_pos q, if_pos q]
        have c := cnv_to (A := A) (B := B) (u := na - 1) (k := x - o) (by omega) (fun i hi => zA' i (by omega)) zB
        rw [show na - 1 + 1 = na by omega] at c
        rw [c, zA' na (by omega), Int.zero_mul]
        simp
      · rw [if_neg q, if_neg q])
    rw [e]
    exact H
  · refine (zR_self S t).symm.trans (zR_congr _ _ (fun x => ?_))
    unfold ppF
    by_cases q : o ≤ x ∧ x < n
    · have := hT x q.1 q.2
      rw [if_pos q, show (0 : Int).toNat = 0 from rfl, sm_zero]
      have e2 : (if x - o - 0 < 0 then A 0 * B (x - o - 0) else 0) = 0 := by
        rw [if_neg (by omega)]
      rw [e2, Int.add_zero, Int.add_zero, em_id this.1 this.2]
    · rw [if_neg q]
