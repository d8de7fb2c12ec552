/-! The model: sums of powers. -/
theorem ppF_end {p o n m : Int} {A B T : Int → Int} (hm : 0 ≤ m) (zA : ∀ e, m ≤ e → A e = 0) (zB : ∀ e, e < 0 → B e = 0) (x : Int) : ppF p o n A B T m 0 x = if o ≤ x ∧ x < n then (T x + cnv A B (x - o)) % p else T x := by
  unfold ppF
  by_cases q : o ≤ x ∧ x < n
  · rw [if_pos q, if_pos q]
    have c := cnv_to (A := A) (B := B) (u := m - 1) (k := x - o) (by omega) (fun i hi => zA i (by omega)) zB
    rw [show m - 1 + 1 = m by omega] at c
    rw [c, zA m (by omega), Int.zero_mul]
    simp
  · rw [if_neg q, if_neg q]
theorem ppF_0 {p o n : Int} {A B T : Int → Int} (hp : 0 < p) (hT : ∀ x, o ≤ x → x < n → 0 ≤ T x ∧ T x < p) (x : Int) : T x = ppF p o n A B T 0 0 x := by
  unfold ppF
  by_cases q : o ≤ x ∧ x < n
  · have := hT x q.1 q.2
    rw [if_pos q, show (0 : Int).toNat = 0 from rfl, sm_zero, if_neg (show ¬ x - o - 0 < 0 by omega), Int.add_zero, Int.add_zero, em_id this.1 this.2]
  · rw [if_neg q]
theorem cnv_scal {c : Int} {A B : Int → Int} (x : Int) : cnv (fun e => c * A e) B x = c * cnv A B x := by
  unfold cnv
  rw [← sm_mul]
  exact sm_congr (fun i _ _ => Int.mul_assoc _ _ _)
theorem mul_bd3 {x y t : Int} (hx : 0 ≤ x ∧ x < 10) (hy : 0 ≤ y ∧ y < 10) (ht : 0 ≤ t ∧ t < 10) : 0 ≤ x * y ∧ x * y ≤ 100 ∧ 0 ≤ x * y * t ∧ x * y * t ≤ 1000 := by
  have h1 := mul_b hx hy
  have h2 : x * y * t ≤ 100 * t := Int.mul_le_mul_of_nonneg_right h1.2 ht.1
  exact ⟨h1.1, h1.2, Int.mul_nonneg h1.1 ht.1, by omega⟩
/-- all numbers of a row in blocks -/
theorem BR.bd {S : Hp} {a w n p : Int} {F : Int → Int → Int} (h : BR S a w n p F) (hw : 0 < w) (x : Int) (x0 : 0 ≤ x) (x1 : x < w * n) : zG S a x = F (x / w) (x % w) ∧ 0 ≤ zG S a x ∧ zG S a x < p := by
  have e := h.2.2.1 (x / w) (x % w) (Int.ediv_nonneg x0 (by omega)) (Int.ediv_lt_of_lt_mul hw (by rw [Int.mul_comm]; exact x1)) (em_ge hw) (em_lt hw)
  rw [Int.mul_ediv_add_emod] at e
  rw [e]
  exact ⟨rfl, h.2.2.2.2 _ _⟩
set_option maxHeartbeats 2000000 in
theorem m_takesOffSum {d : Nat} {D a p n i tm fr to dc dw : Int} {S : Hp} {C W : Int → Int} {P : Int → Int → Int} {Q : Vl → Hp → Prop} (h : DW S D) (hp : zG S D 0 = p) (h2 : 2 ≤ p ∧ p ≤ 7) (aD : a ≠ D + 29) (ka : zK S a = 101) (la : zL S a = 49) (hn : 2 ≤ n ∧ n ≤ 4) (hi : 1 ≤ i ∧ i ≤ n) (htm : 0 ≤ tm ∧ tm < 10) (hP : BR S (D + 29) 60 7 p P) (hto : 0 ≤ to ∧ to < 7) (hfr : fr < 7) (hne : fr ≠ to) (hC : ∀ e, 0 ≤ e → e < 7 → zG S a (7 * (n - i) + e) = C e) (bC : ∀ e, 0 ≤ C e ∧ C e < p) (sC : ∀ e, (e < 0 ∨ dc < e) → C e = 0) (hdc : dc < 7) (hW : ∀ x, W x = if fr < 0 then (if x = 0 then 1 else 0) else P fr x) (sW : ∀ x, dw < x → W x = 0) (hdw : dw < 53) (H : ∀ S', Md (fun x => x = D + 29) S S' → BR S' (D + 29) 60 7 p (fun b => if b = to then fun x => (P to x + (-tm) * cnv C W x) % p else P b) → Q (3, 0) S') : Ev (d + 1) 196 [(2, D), (2, a), (0, n), (0, i), (0, tm), (0, fr), (0, to)] S Q := by
  have bW : ∀ x, 0 ≤ W x ∧ W x < p := fun x => by
    rw [hW]
    split
    · split <;> omega
    · exact hP.2.2.2.2 _ _
  have zW : ∀ x, x < 0 → W x = 0 := fun x hx => by
    rw [hW]
    split
    · rw [if_neg (by omega)]
    · exact hP.2.2.2.1 _ _ (Or.inl hx)
  have zA : ∀ e, 7 ≤ e → (fun e => -tm * C e) e = 0 := fun e he => by
    (try dsimp only)
    rw [sC e (by omega), Int.mul_zero]
  have hT : ∀ x, 60 * to ≤ x → x < 420 → 0 ≤ zG S (D + 29) x ∧ zG S (D + 29) x < p := fun x x0 x1 => (hP.bd (by omega) x (by omega) (by omega)).2
  apply w_Model_takesOffSum_0
  refine loopU (P := fun e S' => At (d + 1) 196 c196_3 [(0, (2, D)), (1, (2, a)), (2, (0, n)), (3, (0, i)), (4, (0, tm)), (5, (0, fr)), (6, (0, to)), (7, (0, e))] [] S' Q) (I := fun e S' => 0 ≤ e ∧ S' = zR S (D + 29) (ppF p (60 * to) 420 (fun e => -tm * C e) W (zG S (D + 29)) e 0)) 7 ?_ ?_ 0 S (by omega) ⟨by omega, (zR_self S (D + 29)).symm.trans (zR_congr _ _ (fun x => ppF_0 (by omega) hT x))⟩
  · rintro e _ he ⟨e0, rfl⟩ hk
    have fin : ∀ j, 0 ≤ j → (C e = 0 ∨ j = 53) → At (d + 1) 196 c196_126 [(0, (2, D)), (1, (2, a)), (2, (0, n)), (3, (0, i)), (4, (0, tm)), (5, (0, fr)), (6, (0, to)), (7, (0, e))] [] (zR S (D + 29) (ppF p (60 * to) 420 (fun e => -tm * C e) W (zG S (D + 29)) e j)) Q := fun j j0 hj => by
      apply w_Model_takesOffSum_126
      rintro _ rfl
      rw [w32_id (by omega) (by omega)]
      refine hk _ ⟨by omega, zR_congr _ _ (fun x => ppF_row e0 ?_ zW x)⟩
      rcases hj with hj | hj
      · left
        (try dsimp only)
        rw [hj, Int.mul_zero]
      · exact Or.inr (fun x hx => sW x (by omega))
    apply w_Model_takesOffSum_3
    rw [w32_id (x := n - i) (by omega) (by omega), w32_id (x := 7 * (n - i)) (by omega) (by omega), w32_id (x := 7 * (n - i) + e) (by omega) (by omega), zG_zR_ne _ aD, hC e e0 he, zK_zR, zL_zR, la]
    refine ⟨fun hc => by omega, fun _ => ⟨⟨ka, by omega, by omega⟩, ?_⟩⟩
    rintro _ rfl
    refine loopU (P := fun j S' => At (d + 1) 196 c196_26 [(0, (2, D)), (1, (2, a)), (2, (0, n)), (3, (0, i)), (4, (0, tm)), (5, (0, fr)), (6, (0, to)), (7, (0, e)), (8, (0, C e)), (9, (0, j))] [] S' Q) (I := fun j S' => 0 ≤ j ∧ S' = zR S (D + 29) (ppF p (60 * to) 420 (fun e => -tm * C e) W (zG S (D + 29)) e j)) 53 ?_ ?_ 0 _ (by omega) ⟨by omega, rfl⟩
    · rintro j _ hj ⟨j0, rfl⟩ hk2
      have w4 : DW (zR S (D + 29) (ppF p (60 * to) 420 (fun e => -tm * C e) W (zG S (D + 29)) e j)) D := h.zR (by omega)
      have st : ∀ s0, s0 = W j → At (d + 1) 196 c196_69 [(0, (2, D)), (1, (2, a)), (2, (0, n)), (3, (0, i)), (4, (0, tm)), (5, (0, fr)), (6, (0, to)), (7, (0, e)), (8, (0, C e)), (9, (0, j))] [(0, s0)] (zR S (D + 29) (ppF p (60 * to) 420 (fun e => -tm * C e) W (zG S (D + 29)) e j)) Q := fun s0 hs => by
        subst hs
        have b1 := ppF_bd (i := e) (j := j) (A := fun e => -tm * C e) (B := W) h2.1 hT (60 * to + e + j) (by omega) (by omega)
        have b2 := mul_bd3 (x := C e) (y := W j) (t := tm) (by have := bC e; omega) (by have := bW j; omega) htm
        apply w_Model_takesOffSum_69
        rw [w4.x_powers.1, w32_id (x := 60 * to) (by omega) (by omega), w32_id (x := 60 * to + e) (by omega) (by omega), w32_id (x := 60 * to + e + j) (by omega) (by omega), w4.x_powers.2.1, w4.x_powers.2.2, zG_zR_at, w64_id (x := C e * W j) (by omega) (by omega), w64_id (x := C e * W j * tm) (by omega) (by omega), w64_id (by omega) (by omega)]
        refine ⟨w4.1, w4.1, ⟨rfl, by omega, by omega⟩, w4.1, m_mod w4.1 (by rw [zG_zR_ne _ (by omega)]; exact hp) h2 ⟨_, rfl, ⟨w4.x_powers.2.1, by omega, by rw [w4.x_powers.2.2]; omega⟩, ?_⟩⟩
        rintro _ rfl _ rfl
        rw [w32_id (by omega) (by omega)]
        refine hk2 _ ⟨by omega, ?_⟩
        rw [zS_zR]
        refine zR_congr _ _ (fun x => ?_)
        rw [← ppF_put (p := p) (o := 60 * to) (n := 420) (i := e) (j := j) (A := fun e => -tm * C e) (B := W) (T := zG S (D + 29)) ⟨by omega, by omega⟩ x]
        by_cases q : x = 60 * to + e + j
        · rw [if_pos q, if_pos q, q]
          congr 1
          (try dsimp only)
          rw [Int.sub_eq_add_neg]
          congr 1
          rw [Int.neg_mul, Int.neg_mul, Int.mul_comm (C e * W j) tm, Int.mul_assoc]
        · rw [if_neg q, if_neg q]
      apply w_Model_takesOffSum_26
      refine ⟨fun hc => fin j j0 (by omega), fun hc => ⟨fun hf => ?_, fun hf => ⟨fun hj0 => st _ ?_, fun hj0 => st _ ?_⟩⟩⟩
      · rw [w4.x_powers.1, w32_id (x := 60 * fr) (by omega) (by omega), w32_id (x := 60 * fr + j) (by omega) (by omega), w4.x_powers.2.1, w4.x_powers.2.2]
        refine ⟨w4.1, ⟨rfl, by omega, by omega⟩, st _ ?_⟩
        rw [zG_zR_at, hW, if_neg (by omega)]
        have z : ppF p (60 * to) 420 (fun e => -tm * C e) W (zG S (D + 29)) e j (60 * fr + j) = zG S (D + 29) (60 * fr + j) := by
          by_cases q : 60 * to ≤ 60 * fr + j
          · have b := hT (60 * fr + j) q (by omega)
            unfold ppF
            rw [if_pos ⟨q, by omega⟩, sm_zeros (fun u u0 u1 => by
              (try dsimp only)
              rw [sW _ (by omega), Int.mul_zero]), if_neg (by omega), Int.add_zero, Int.add_zero, em_id b.1 b.2]
          · unfold ppF
            rw [if_neg (fun z => q z.1)]
        rw [z]
        exact hP.2.2.1 fr j (by omega) (by omega) j0 (by omega)
      · rw [hW, if_pos (by omega), if_neg hj0]
      · rw [hW, if_pos (by omega), if_pos (by omega)]
    · rintro _ ⟨j0, rfl⟩
      apply w_Model_takesOffSum_26
      exact ⟨fun _ => fin 53 (by omega) (Or.inr rfl), fun hc => absurd (Or.inl (Int.le_refl 53)) hc⟩
  · rintro _ ⟨-, rfl⟩
    apply w_Model_takesOffSum_3
    refine ⟨fun _ => ?_, fun hc => absurd (Int.le_refl 7) hc⟩
    have hpe := fun x => ppF_end (p := p) (o := 60 * to) (n := 420) (m := 7) (A := fun e => -tm * C e) (B := W) (T := zG S (D + 29)) (by omega) zA zW x
    have dg : ∀ x, 60 ≤ x → cnv (fun e => -tm * C e) W x = 0 := fun x hx => cnv_deg (da := dc) (db := dw) (fun e he => by
      (try dsimp only)
      rw [sC e (Or.inr he), Int.mul_zero]) sW x (by omega)
    refine H _ (Md.zR S (D + 29) _) (hP.set (G := fun x => (P to x + (-tm) * cnv C W x) % p) hto.1 hto.2 (fun x x0 x1 => ?_) (fun c x c0 c1 hc x0 x1 => ?_) (fun x hx => ?_) (fun x => ⟨em_ge (by omega), em_lt (by omega)⟩))
    · rw [hpe, if_pos (by omega), hP.2.2.1 to x hto.1 hto.2 x0 x1, show 60 * to + x - 60 * to = x by omega, cnv_scal]
    · have e := hP.2.2.1 c x c0 c1 x0 x1
      rw [hpe]
      by_cases q : 60 * to ≤ 60 * c + x
      · rw [if_pos ⟨q, by omega⟩, dg _ (by omega), Int.add_zero, e, em_id (hP.2.2.2.2 c x).1 (hP.2.2.2.2 c x).2]
      · rw [if_neg (fun z => q z.1)]
    · show (P to x + (-tm) * cnv C W x) % p = 0
      rw [hP.2.2.2.1 to x hx, ← cnv_scal]
      rcases hx with hx | hx
      · rw [cnv_neg hx]
        rfl
      · rw [dg x hx]
        rfl
