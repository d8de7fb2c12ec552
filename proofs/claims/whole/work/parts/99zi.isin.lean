/-! The model: digitAt, takesPart. -/
theorem m_digitAt {d : Nat} {D k j i m : Int} {S : Hp} {Q : Vl → Hp → Prop} (hk : 0 ≤ k ∧ k < 20) (hj : 0 ≤ j ∧ j < 4) (hi : 0 ≤ i ∧ i < 4) (hm : 0 ≤ m ∧ m < 21) (H : Q (0, 84 * (4 * k + j) + 21 * i + m) S) : Ev d 212 [(2, D), (0, k), (0, j), (0, i), (0, m)] S Q := by
  apply w_Model_digitAt_0
  simp (disch := omega) only [w32_id]
  exact H
/-- the digits and depths of ring k -/
def DG (S : Hp) (D k n p : Int) (fig : Int → Int → Int → Int) (dp : Int → Int) : Prop := (∀ l i m, 0 ≤ l → l < n → 0 ≤ i → i < 4 → 0 ≤ m → m < 21 → zG S (D + 32) (84 * (4 * k + l) + 21 * i + m) = fig l i m ∧ 0 ≤ fig l i m ∧ fig l i m < p) ∧ ∀ l, 0 ≤ l → l < n → zG S (D + 33) (4 * k + l) = dp l
theorem DG.keep {M : Int → Prop} {S S' : Hp} {D k n p : Int} {fig : Int → Int → Int → Int} {dp : Int → Int} (h : DG S D k n p fig dp) (hm : Md M S S') (h1 : ¬ M (D + 32)) (h2 : ¬ M (D + 33)) : DG S' D k n p fig dp := ⟨fun l i m l0 l1 i0 i1 m0 m1 => by rw [hm.G h1]; exact h.1 l i m l0 l1 i0 i1 m0 m1, fun l l0 l1 => by rw [hm.G h2]; exact h.2 l l0 l1⟩
/-- v t^e times b_l taken off -/
def tkF (p : Int) (fig : Int → Int → Int → Int) (l e v : Int) (Sp : Int → Int → Int) : Int → Int → Int := fun i x => if 0 ≤ i ∧ i ≤ l ∧ 20 + e ≤ x ∧ x ≤ 40 + e then (Sp i x + (-1) * (v * fig l i (40 + e - x))) % p else Sp i x
def tkP (p : Int) (fig : Int → Int → Int → Int) (l e v : Int) (Sp : Int → Int → Int) (I M : Int) : Int → Int → Int := fun i x => if 0 ≤ i ∧ 20 + e ≤ x ∧ x ≤ 40 + e ∧ (i < I ∨ i = I ∧ 40 + e - x < M) then (Sp i x + (-1) * (v * fig l i (40 + e - x))) % p else Sp i x
set_option maxHeartbeats 1000000 in
theorem m_takesPart {d : Nat} {D p n k l e v : Int} {S : Hp} {fig : Int → Int → Int → Int} {dp : Int → Int} {Sp Co : Int → Int → Int} {Q : Vl → Hp → Prop} (h : DW S D) (hp : zG S D 0 = p) (h2 : 2 ≤ p ∧ p ≤ 7) (hk : 0 ≤ k ∧ k < 20) (hl : 0 ≤ l ∧ l < 4) (hln : l < n) (hd : DG S D k n p fig dp) (he : 0 ≤ e ∧ e ≤ 55) (hv : 0 ≤ v ∧ v < p) (hS : BR S (D + 34) 96 7 p Sp) (hC : BR S (D + 35) 96 4 p Co) (H : ∀ S', Md (fun x => x = D + 34 ∨ x = D + 35) S S' → BR S' (D + 34) 96 7 p (tkF p fig l e v Sp) → BR S' (D + 35) 96 4 p (fun b => if b = l then fun x => if x = e ∧ v ≠ 0 then v else Co l x else Co b) → Q (3, 0) S') : Ev (d + 1) 215 [(2, D), (0, k), (0, l), (0, e), (0, v)] S Q := by
  apply w_Model_takesPart_0
  rw [h.x_coord.1, h.x_coord.2.1, h.x_coord.2.2, w32_id (x := 96 * l) (by omega) (by omega), w32_id (x := 96 * l + e) (by omega) (by omega)]
  refine ⟨fun v0 => ⟨h.1, ⟨rfl, by omega, by omega⟩, ?_⟩, fun v0 => H S (Md.refl _ _) (hS.congr (fun i x => ?_)) (hC.congr (fun b x => ?_))⟩
  · rintro _ rfl
    have m1 : Md (fun x => x = D + 34 ∨ x = D + 35) S (zS S (D + 35) (96 * l + e) v) := (Md.zS _ _ _ _).wide (fun x hx => Or.inr hx)
    have c1 : BR (zS S (D + 35) (96 * l + e) v) (D + 35) 96 4 p (fun b => if b = l then fun x => if x = e ∧ v ≠ 0 then v else Co l x else Co b) := by
      rw [zS_as_zR]
      refine hC.set (G := fun x => if x = e ∧ v ≠ 0 then v else Co l x) hl.1 hl.2 (fun i i0 i1 => ?_) (fun b i b0 b1 hb i0 i1 => ?_) (fun i hi => ?_) (fun i => ?_)
      · by_cases q : i = e
        · rw [if_pos (by omega), if_pos ⟨q, v0⟩]
        · rw [if_neg (by omega), if_neg (fun z => q z.1)]
          exact hC.2.2.1 l i hl.1 hl.2 i0 i1
      · rw [if_neg (by omega)]
      · (try dsimp only)
        rw [if_neg (by omega)]
        exact hC.2.2.2.1 l i hi
      · (try dsimp only)
        split
        · exact hv
        · exact hC.2.2.2.2 l i
    have s1 : BR (zS S (D + 35) (96 * l + e) v) (D + 34) 96 7 p Sp := hS.keep (Md.zS _ _ _ _) (by omega)
    have w1 : DW (zS S (D + 35) (96 * l + e) v) D := h.zSr (by omega)
    have d1 : DG (zS S (D + 35) (96 * l + e) v) D k n p fig dp := hd.keep (Md.zS _ _ _ _) (by omega) (by omega)
    have p1 : zG (zS S (D + 35) (96 * l + e) v) D 0 = p := by rw [zG_zS_ne _ (Or.inl (by omega))]; exact hp
    generalize zS S (D + 35) (96 * l + e) v = S1 at *
    have bS := hS.2.2.2.2
    have zSp := hS.2.2.2.1
    refine loopU (P := fun i S' => At (d + 1) 215 c215_22 [(0, (2, D)), (1, (0, k)), (2, (0, l)), (3, (0, e)), (4, (0, v)), (5, (0, i))] [] S' Q) (I := fun i S' => 0 ≤ i ∧ Md (fun x => x = D + 34) S1 S' ∧ BR S' (D + 34) 96 7 p (tkP p fig l e v Sp i 0)) (l + 1) ?_ ?_ 0 S1 (by omega) ⟨by omega, Md.refl _ _, s1.congr (fun i x => ?_)⟩
    · rintro i S2 hi ⟨i0, m2, s2⟩ hk2
      apply w_Model_takesPart_22
      refine ⟨fun hc => by omega, fun _ => ?_⟩
      refine loopU (P := fun m S' => At (d + 1) 215 c215_31 [(0, (2, D)), (1, (0, k)), (2, (0, l)), (3, (0, e)), (4, (0, v)), (5, (0, i)), (6, (0, m))] [] S' Q) (I := fun m S' => 0 ≤ m ∧ Md (fun x => x = D + 34) S1 S' ∧ BR S' (D + 34) 96 7 p (tkP p fig l e v Sp i m)) 21 ?_ ?_ 0 S2 (by omega) ⟨by omega, m2, s2⟩
      · rintro m S3 hm ⟨m0, m3, s3⟩ hk3
        have w3 : DW S3 D := w1.md m3 (by omega)
        have d3 := d1.keep m3 (by omega) (by omega)
        have dv := d3.1 l i m hl.1 hln i0 (by omega) m0 hm
        have xr : 96 * i + (40 + e - m) = 96 * i + 40 + e - m := by omega
        have vx := s3.2.2.1 i (40 + e - m) i0 (by omega) (by omega) (by omega)
        rw [xr] at vx
        have vv : tkP p fig l e v Sp i m i (40 + e - m) = Sp i (40 + e - m) := by
          unfold tkP
          rw [if_neg (by omega)]
        rw [vv] at vx
        have bb := bS i (40 + e - m)
        have nx : ∀ S4, Md (fun x => x = D + 34) S1 S4 → BR S4 (D + 34) 96 7 p (tkP p fig l e v Sp i (m + 1)) → At (d + 1) 215 c215_100 [(0, (2, D)), (1, (0, k)), (2, (0, l)), (3, (0, e)), (4, (0, v)), (5, (0, i)), (6, (0, m))] [] S4 Q := fun S4 m4 s4 => by
          apply w_Model_takesPart_100
          rintro _ rfl
          rw [w32_id (by omega) (by omega)]
          exact hk3 S4 ⟨by omega, m4, s4⟩
        apply w_Model_takesPart_31
        refine ⟨fun hc => by omega, fun _ => ⟨w3.1, w3.1, m_digitAt hk hl (by omega) (by omega) ⟨_, rfl, ?_⟩⟩⟩
        rw [w3.x_digits.1, w3.x_digits.2.1, w3.x_digits.2.2]
        refine ⟨⟨rfl, by omega, by omega⟩, ?_⟩
        rintro _ rfl
        rw [dv.1]
        intro x5 hx5
        rw [w32_id (x := 96 * i) (by omega) (by omega), w32_id (x := 96 * i + 40) (by omega) (by omega), w32_id (x := 96 * i + 40 + e) (by omega) (by omega), w32_id (by omega) (by omega)] at hx5
        refine ⟨fun fz => nx S3 m3 (s3.congr (fun b x => ?_)), fun fz => ?_⟩
        · by_cases q : b = i ∧ x = 40 + e - m
          · rw [q.1, q.2, vv]
            unfold tkP
            rw [if_pos (by omega), show 40 + e - (40 + e - m) = m by omega, fz, Int.mul_zero, Int.mul_zero, Int.add_zero, em_id bb.1 bb.2]
          · unfold tkP
            by_cases q2 : 0 ≤ b ∧ 20 + e ≤ x ∧ x ≤ 40 + e ∧ (b < i ∨ b = i ∧ 40 + e - x < m)
            · rw [if_pos q2, if_pos (by omega)]
            · rw [if_neg q2, if_neg (by omega)]
        · have mb := mul_b (x := v) (y := fig l i m) (by omega) (by omega)
          rw [w3.x_lau.1, w3.x_lau.2.1, w3.x_lau.2.2, hx5, vx, w32_id (x := v * fig l i m) (by omega) (by omega), w32_id (by omega) (by omega)]
          refine ⟨w3.1, w3.1, ⟨rfl, by omega, by omega⟩, w3.1, m_mod w3.1 ((m3.G (by omega) 0).trans p1) h2 ⟨_, rfl, ⟨w3.x_lau.2.1, by omega, by rw [w3.x_lau.2.2]; omega⟩, ?_⟩⟩
          rintro _ rfl
          refine nx _ (m3.tr (Md.zS _ _ _ _)) ?_
          rw [zS_as_zR]
          have s4 := s3.set (k := i) (G := tkP p fig l e v Sp i (m + 1) i) (f := fun j => if j = 96 * i + 40 + e - m then (Sp i (40 + e - m) - v * fig l i m) % p else zG S3 (D + 34) j) i0 (by omega) (fun x x0 x1 => by
            (try dsimp only)
            by_cases q : x = 40 + e - m
            · rw [if_pos (by omega), q]
              unfold tkP
              rw [if_pos (by omega), show 40 + e - (40 + e - m) = m by omega, Int.sub_eq_add_neg, Int.neg_mul, Int.one_mul]
            · rw [if_neg (by omega), s3.2.2.1 i x i0 (by omega) x0 x1]
              unfold tkP
              by_cases q2 : 0 ≤ i ∧ 20 + e ≤ x ∧ x ≤ 40 + e ∧ (i < i ∨ i = i ∧ 40 + e - x < m)
              · rw [if_pos q2, if_pos (by omega)]
              · rw [if_neg q2, if_neg (by omega)]) (fun b x b0 b1 hb x0 x1 => by
            (try dsimp only)
            rw [if_neg (by omega)]) (fun x hx => by
            unfold tkP
            rw [if_neg (by omega)]
            exact zSp i x hx) (fun x => by
            unfold tkP
            split
            · exact ⟨em_ge (by omega), em_lt (by omega)⟩
            · exact bS i x)
          refine s4.congr (fun b x => ?_)
          by_cases q : b = i
          · rw [if_pos q, q]
          · rw [if_neg q]
            unfold tkP
            by_cases q2 : 0 ≤ b ∧ 20 + e ≤ x ∧ x ≤ 40 + e ∧ (b < i ∨ b = i ∧ 40 + e - x < m)
            · rw [if_pos q2, if_pos (by omega)]
            · rw [if_neg q2, if_neg (by omega)]
      · rintro S3 ⟨-, m3, s3⟩
        apply w_Model_takesPart_31
        refine ⟨fun _ => ?_, fun hc => absurd (Int.le_refl 21) hc⟩
        rintro _ rfl
        rw [w32_id (by omega) (by omega)]
        refine hk2 _ ⟨by omega, m3, s3.congr (fun b x => ?_)⟩
        unfold tkP
        by_cases q2 : 0 ≤ b ∧ 20 + e ≤ x ∧ x ≤ 40 + e ∧ (b < i ∨ b = i ∧ 40 + e - x < 21)
        · rw [if_pos q2, if_pos (by omega)]
        · rw [if_neg q2, if_neg (by omega)]
    · rintro S2 ⟨-, m2, s2⟩
      apply w_Model_takesPart_22
      refine ⟨fun _ => H S2 (m1.tr (m2.wide (fun x hx => Or.inl hx))) (s2.congr (fun b x => ?_)) (c1.keep m2 (by omega)), fun hc => absurd (show l < l + 1 by omega) hc⟩
      unfold tkP tkF
      by_cases q2 : 0 ≤ b ∧ b ≤ l ∧ 20 + e ≤ x ∧ x ≤ 40 + e
      · rw [if_pos q2, if_pos (by omega)]
      · rw [if_neg q2, if_neg (by omega)]
    · unfold tkP
      rw [if_neg (by omega)]
  · have v0 := Decidable.not_not.mp v0
    unfold tkF
    have bb := hS.2.2.2.2 i x
    split
    · rw [v0, Int.zero_mul, Int.mul_zero, Int.add_zero, em_id bb.1 bb.2]
    · rfl
  · have v0 := Decidable.not_not.mp v0
    by_cases q : b = l
    · rw [if_pos q, if_neg (fun z => z.2 v0), q]
    · rw [if_neg q]
