/-! The model: lowers. -/
set_option maxHeartbeats 2000000 in
theorem m_lowers {d : Nat} {D p n t dg : Int} {S : Hp} {C W : Int → Int → Int} {Q : Vl → Hp → Prop} (h : DW S D) (hp : zG S D 0 = p) (h2 : 2 ≤ p ∧ p ≤ 7) (hN : zG S D 1 = n) (hn : 2 ≤ n ∧ n ≤ 4) (ht : n - 1 ≤ t ∧ t < 7) (hC : ∀ k, 0 ≤ k → k < 7 * n → zG S (D + 31) k = C (k / 7) (k % 7)) (bC : ∀ j e, 0 ≤ C j e ∧ C j e < p) (sC : ∀ j e, (e < 0 ∨ 6 < e) → C j e = 0) (zC : ∀ j e, n ≤ j → C j e = 0) (hW : BR S (D + 34) 96 7 p W) (dg0 : -1 ≤ dg ∧ dg + 6 * (t - n) ≤ 96 - 7) (sW : ∀ b x, dg < x → W b x = 0) (H : ∀ S', Md (fun x => x = D + 34) S S' → BR S' (D + 34) 96 7 p (lwN p n C t (t + 1 - n).toNat W) → Q (3, 0) S') : Ev (d + 1) 213 [(2, D), (0, t)] S Q := by
  apply w_Model_lowers_0
  refine loopD (P := fun h S' => At (d + 1) 213 c213_2 [(0, (2, D)), (2, (0, h))] [] S' Q) (I := fun h S' => h ≤ t ∧ Md (fun x => x = D + 34) S S' ∧ BR S' (D + 34) 96 7 p (lwN p n C t (t - h).toNat W)) n ?_ ?_ t S (by omega) ⟨by omega, Md.refl _ _, by rw [show t - t = 0 by omega]; exact hW⟩
  · rintro h1 S1 hh ⟨ht1, m1, b1⟩ hk
    have w1 : DW S1 D := h.md m1 (by omega)
    have p1 : zG S1 D 0 = p := (m1.G (by omega) 0).trans hp
    have n1 : zG S1 D 1 = n := (m1.G (by omega) 1).trans hN
    have f1 : ∀ k, 0 ≤ k → k < 7 * n → zG S1 (D + 31) k = C (k / 7) (k % 7) := fun k k0 k1 => (m1.G (by omega) k).trans (hC k k0 k1)
    have eN : lwN p n C t (t - (h1 - 1)).toNat W = lwS p n C (lwN p n C t (t - h1).toNat W) h1 := by
      rw [show (t - (h1 - 1)).toNat = (t - h1).toNat + 1 by omega]
      show lwS p n C (lwN p n C t (t - h1).toNat W) (t - ((t - h1).toNat : Int)) = _
      rw [show t - (((t - h1).toNat : Nat) : Int) = h1 by omega]
    have sV : ∀ e, 96 - 7 < e → lwN p n C t (t - h1).toNat W h1 e = 0 := fun e he => lwN_deg sC dg0.1 sW _ h1 e (by omega)
    have zV : ∀ b x, (x < 0 ∨ 96 ≤ x) → lwN p n C t (t - h1).toNat W b x = 0 := b1.2.2.2.1
    have vV := b1.2.2.1
    have bV := b1.2.2.2.2
    have bT : ∀ x, 96 * (h1 - n) ≤ x → x < 96 * h1 → 0 ≤ zG S1 (D + 34) x ∧ zG S1 (D + 34) x < p := fun x x0 x1 => (b1.bd (by omega) x (by omega) (by omega)).2
    have fb := fun hh1 hh2 => lwP_BR (n := n) (h := h1) (C := C) (show (7 : Int) < 96 by omega) b1 h2.1 hh1 hh2 sC sV
    generalize lwN p n C t (t - h1).toNat W = V at *
    apply w_Model_lowers_2
    rw [n1]
    refine ⟨w1.1, fun hc => by omega, fun _ => ?_⟩
    refine loopU (P := fun e S' => At (d + 1) 213 c213_12 [(0, (2, D)), (2, (0, h1)), (3, (0, e))] [] S' Q) (I := fun e S' => 0 ≤ e ∧ S' = zR S1 (D + 34) (lwP p 96 n C V (zG S1 (D + 34)) h1 e 0)) 96 ?_ ?_ 0 S1 (by omega) ⟨by omega, (zR_self S1 (D + 34)).symm.trans (zR_congr _ _ (fun x => ?_))⟩
    · rintro e _ he ⟨e0, rfl⟩ hk2
      have w2 : DW (zR S1 (D + 34) (lwP p 96 n C V (zG S1 (D + 34)) h1 e 0)) D := w1.zR (by omega)
      have ev : lwP p 96 n C V (zG S1 (D + 34)) h1 e 0 (96 * h1 + e) = V h1 e := by
        unfold lwP
        rw [if_neg (by omega)]
        unfold ppF
        rw [if_neg (by omega)]
        exact vV h1 e (by omega) (by omega) e0 he
      -- the heap within the row
      have inn : ∀ (k : Int), DW (zR S1 (D + 34) (fun x => if 96 * h1 ≤ x ∧ x < 96 * h1 + (e + 1) then 0 else ppF p (96 * (h1 - n)) (96 * h1) (fun i => -1 * V h1 i) (lwK 96 C) (zG S1 (D + 34)) e (96 * (k / 7) + k % 7) x)) D := fun k => w1.zR (by omega)
      have fin : ∀ k, 0 ≤ k → (V h1 e = 0 ∨ k = 7 * n) → At (d + 1) 213 c213_134 [(0, (2, D)), (2, (0, h1)), (3, (0, e))] [] (zR S1 (D + 34) (fun x => if 96 * h1 ≤ x ∧ x < 96 * h1 + (e + 1) then 0 else ppF p (96 * (h1 - n)) (96 * h1) (fun i => -1 * V h1 i) (lwK 96 C) (zG S1 (D + 34)) e (96 * (k / 7) + k % 7) x)) Q := fun k k0 hkk => by
        apply w_Model_lowers_134
        rintro _ rfl
        rw [w32_id (by omega) (by omega)]
        refine hk2 _ ⟨by omega, zR_congr _ _ (fun x => ?_)⟩
        unfold lwP
        rw [show min (e + 1) 96 = e + 1 by omega]
        by_cases q : 96 * h1 ≤ x ∧ x < 96 * h1 + (e + 1)
        · rw [if_pos q, if_pos q]
        · rw [if_neg q, if_neg q]
          refine ppF_row e0 ?_ (fun u hu => ?_) x
          · rcases hkk with z | z
            · left
              (try dsimp only)
              rw [z, Int.mul_zero]
            · right
              intro u hu
              unfold lwK
              split
              · exact zC _ _ (by omega)
              · rfl
          · unfold lwK
            exact if_neg (by omega)
      apply w_Model_lowers_12
      rw [w2.x_lau.1, w2.x_lau.2.1, w2.x_lau.2.2, w32_id (x := 96 * h1) (by omega) (by omega), w32_id (x := 96 * h1 + e) (by omega) (by omega), zG_zR_at, ev]
      refine ⟨fun hc => by omega, fun _ => ⟨w2.1, ⟨rfl, by omega, by omega⟩, ?_⟩⟩
      rintro _ rfl
      refine ⟨w2.1, ⟨rfl, by omega, by omega⟩, ?_⟩
      rintro _ rfl
      rw [zS_zR]
      have e3 : zR S1 (D + 34) (fun j => if j = 96 * h1 + e then 0 else lwP p 96 n C V (zG S1 (D + 34)) h1 e 0 j) = zR S1 (D + 34) (fun x => if 96 * h1 ≤ x ∧ x < 96 * h1 + (e + 1) then 0 else ppF p (96 * (h1 - n)) (96 * h1) (fun i => -1 * V h1 i) (lwK 96 C) (zG S1 (D + 34)) e (96 * (0 / 7) + 0 % 7) x) := zR_congr _ _ (fun x => by
        unfold lwP
        rw [show min e 96 = e by omega, show 96 * ((0 : Int) / 7) + 0 % 7 = 0 by decide]
        by_cases q : x = 96 * h1 + e
        · rw [if_pos q, if_pos (by omega)]
        · rw [if_neg q]
          by_cases q2 : 96 * h1 ≤ x ∧ x < 96 * h1 + e
          · rw [if_pos q2, if_pos (by omega)]
          · rw [if_neg q2, if_neg (by omega)])
      rw [e3]
      have bv := bV h1 e
      refine loopU (P := fun k S' => At (d + 1) 213 c213_46 [(0, (2, D)), (2, (0, h1)), (3, (0, e)), (4, (0, V h1 e)), (5, (0, k))] [] S' Q) (I := fun k S' => 0 ≤ k ∧ S' = zR S1 (D + 34) (fun x => if 96 * h1 ≤ x ∧ x < 96 * h1 + (e + 1) then 0 else ppF p (96 * (h1 - n)) (96 * h1) (fun i => -1 * V h1 i) (lwK 96 C) (zG S1 (D + 34)) e (96 * (k / 7) + k % 7) x)) (7 * n) ?_ ?_ 0 _ (by omega) ⟨by omega, rfl⟩
      · rintro k _ hk' ⟨k0, rfl⟩ hk3
        have w4 := inn k
        have kk : lwK 96 C (96 * (k / 7) + k % 7) = C (k / 7) (k % 7) := lwK_at (by omega) (by omega) (by omega)
        have bc := bC (k / 7) (k % 7)
        have gap : ∀ u, 96 * (k / 7) + k % 7 + 1 ≤ u → u < 96 * ((k + 1) / 7) + (k + 1) % 7 → lwK 96 C u = 0 := fun u u0 u1 => by
          unfold lwK
          rw [if_pos (by omega)]
          exact sC _ _ (by omega)
        apply w_Model_lowers_46
        rw [zG_zR_ne _ (show D ≠ D + 34 by omega), zG_zR_ne _ (show D ≠ D + 34 by omega), n1, w32_id (x := 7 * n) (by omega) (by omega)]
        refine ⟨w4.1, fun hc => fin k k0 (by omega), fun hc => ⟨w4.1, by decide, by decide, ?_⟩⟩
        have hv : V h1 e ≠ 0 := fun z => hc (Or.inr z)
        have e93 : e ≤ 96 - 7 := by
          rcases Int.lt_or_le (96 - 7) e with z | z
          · exact absurd (sV e z) hv
          · exact z
        rw [show k.tdiv 7 = k / 7 from Int.tdiv_eq_ediv_of_nonneg k0, tm_nn k0]
        intro x1 hx1
        rw [w32_id (x := h1 - n) (by omega) (by omega), w32_id (x := k / 7) (by omega) (by omega), w32_id (x := h1 - n + k / 7) (by omega) (by omega), w32_id (x := 96 * (h1 - n + k / 7)) (by omega) (by omega), w32_id (x := 96 * (h1 - n + k / 7) + e) (by omega) (by omega), w32_id (by omega) (by omega)] at hx1
        have hx1 : x1 = 96 * (h1 - n) + e + (96 * (k / 7) + k % 7) := by omega
        rw [← zG_zR_ne S1 (show D ≠ D + 34 by omega) 1 (fun x => if 96 * h1 ≤ x ∧ x < 96 * h1 + (e + 1) then 0 else ppF p (96 * (h1 - n)) (96 * h1) (fun i => -1 * V h1 i) (lwK 96 C) (zG S1 (D + 34)) e (96 * (k / 7) + k % 7) x)] at n1
        rw [← zG_zR_ne S1 (show D ≠ D + 34 by omega) 44 (fun x => if 96 * h1 ≤ x ∧ x < 96 * h1 + (e + 1) then 0 else ppF p (96 * (h1 - n)) (96 * h1) (fun i => -1 * V h1 i) (lwK 96 C) (zG S1 (D + 34)) e (96 * (k / 7) + k % 7) x)]
        rw [w4.x_moved.1, w4.x_moved.2.1, w4.x_moved.2.2, w4.x_lau.1, w4.x_lau.2.1, w4.x_lau.2.2, zG_zR_ne _ (show D + 31 ≠ D + 34 by omega), f1 k k0 hk', zG_zR_at, if_neg (by omega)]
        refine ⟨w4.1, ⟨rfl, by omega, by omega⟩, fun hz => ?_, fun hz => ⟨w4.1, w4.1, ⟨rfl, by omega, by omega⟩, w4.1, ⟨rfl, by omega, by omega⟩, w4.1, ?_⟩⟩
        · apply w_Model_lowers_128
          rintro _ rfl
          rw [w32_id (by omega) (by omega)]
          refine hk3 _ ⟨by omega, zR_congr _ _ (fun x => ?_)⟩
          congr 1
          refine ppF_gap (by omega) (fun u u0 u1 => ?_) x
          by_cases q : u = 96 * (k / 7) + k % 7
          · rw [q, kk, hz]
          · exact gap u (by omega) u1
        · have bo := ppF_bd (i := e) (j := 96 * (k / 7) + k % 7) (A := fun i => -1 * V h1 i) (B := lwK 96 C) h2.1 bT x1 (by omega) (by omega)
          have mb := mul_b (x := V h1 e) (y := C (k / 7) (k % 7)) (by omega) (by omega)
          rw [w32_id (x := V h1 e * C (k / 7) (k % 7)) (by omega) (by omega), w32_id (by omega) (by omega)]
          refine m_mod w4.1 (by rw [zG_zR_ne _ (by omega)]; exact p1) h2 ⟨_, rfl, ⟨w4.x_lau.2.1, by omega, by rw [w4.x_lau.2.2]; omega⟩, ?_⟩
          rintro _ rfl
          apply w_Model_lowers_128
          rintro _ rfl
          rw [w32_id (x := k + 1) (by omega) (by omega), zS_zR]
          refine hk3 _ ⟨by omega, zR_congr _ _ (fun x => ?_)⟩
          rw [← ppF_gap (j := 96 * (k / 7) + k % 7 + 1) (by omega) gap x, ← ppF_put (p := p) (o := 96 * (h1 - n)) (n := 96 * h1) (i := e) (j := 96 * (k / 7) + k % 7) (A := fun i => -1 * V h1 i) (B := lwK 96 C) (T := zG S1 (D + 34)) ⟨by omega, by omega⟩ x]
          by_cases q : x = x1
          · rw [if_pos q, if_neg (by omega), if_pos (by omega), kk, q]
            congr 1
            (try dsimp only)
            rw [Int.mul_assoc, Int.sub_eq_add_neg, Int.neg_mul, Int.one_mul]
          · rw [if_neg q]
            by_cases q2 : 96 * h1 ≤ x ∧ x < 96 * h1 + (e + 1)
            · rw [if_pos q2, if_pos q2]
            · rw [if_neg q2, if_neg q2, if_neg (by omega)]
      · rintro _ ⟨k0, rfl⟩
        have w4 := inn (7 * n)
        apply w_Model_lowers_46
        rw [zG_zR_ne _ (show D ≠ D + 34 by omega), n1, w32_id (x := 7 * n) (by omega) (by omega)]
        exact ⟨w4.1, fun _ => fin (7 * n) k0 (Or.inr rfl), fun hc => absurd (Or.inl (Int.le_refl _)) hc⟩
    · rintro _ ⟨-, rfl⟩
      apply w_Model_lowers_12
      refine ⟨fun _ => ?_, fun hc => absurd (Int.le_refl 96) hc⟩
      rintro _ rfl
      rw [w32_id (by omega) (by omega)]
      refine hk _ ⟨by omega, m1.tr (Md.zR _ _ _), ?_⟩
      rw [eN]
      exact fb (by omega) (by omega)
    · unfold lwP
      rw [if_neg (by omega), show min (0 : Int) 96 = 0 by decide]
      exact ppF_0 (by omega) bT x
  · rintro S1 ⟨-, m1, b1⟩
    apply w_Model_lowers_2
    rw [(m1.G (a := D) (by omega) 1).trans hN]
    rw [show t - (n - 1) = t + 1 - n by omega] at b1
    exact ⟨by rw [m1.K]; exact h.1, fun _ => H S1 m1 b1, fun hc => absurd (show n - 1 < n by omega) hc⟩
