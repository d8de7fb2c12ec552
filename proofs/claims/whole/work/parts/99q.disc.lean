/-! The model: findsPowers, findsDisc. -/
theorem sm_sub1 {n : Nat} {f g : Int → Int} (h : ∀ i, f i = g i) : sm n f = sm n g := sm_congr (fun i _ _ => h i)
set_option maxHeartbeats 2000000 in
theorem m_findsPowers {d : Nat} {D a p n : Int} {S : Hp} {C : Int → Int → Int} {Q : Vl → Hp → Prop} (h : DW S D) (hp : zG S D 0 = p) (h2 : 2 ≤ p ∧ p ≤ 7) (aD : a ≠ D + 29) (ka : zK S a = 101) (la : zL S a = 49) (hn : 2 ≤ n ∧ n ≤ 4) (hC : ∀ j e, 0 ≤ j → j < n → 0 ≤ e → e < 7 → zG S a (7 * j + e) = C j e) (bC : ∀ j e, 0 ≤ C j e ∧ C j e < p) (sC : ∀ j e, (e < 0 ∨ 6 < e) → C j e = 0) (H : ∀ S' P, Md (fun x => x = D + 29) S S' → BR S' (D + 29) 60 7 p P → NW p n C P → (∀ k x, 6 * k < x → P k x = 0) → Q (3, 0) S') : Ev (d + 2) 197 [(2, D), (2, a), (0, n)] S Q := by
  apply w_Model_findsPowers_0
  rw [h.x_powers.1]
  refine ⟨h.1, h.1, m_zeroB (w := 60) (n := 7) (p := p) h.x_powers.2.1 h.x_powers.2.2 (by omega) (by omega) (by omega) (by omega) (fun S1 m1 b1 => ⟨rfl, ?_⟩)⟩
  have w1 : DW S1 D := h.md m1 (by omega)
  rw [w1.x_powers.1, w1.x_powers.2.1, w1.x_powers.2.2, (m1.G (by omega) 0).trans hp, tm_nn (by omega)]
  refine ⟨w1.1, w1.1, by omega, ⟨rfl, by omega, by omega⟩, ?_⟩
  rintro _ rfl
  have M2 : Md (fun x => x = D + 29) S (zS S1 (D + 29) 0 (n % p)) := m1.tr (Md.zS _ _ _ _)
  have b2 : BR (zS S1 (D + 29) 0 (n % p)) (D + 29) 60 7 p (fun b => if b = 0 then fun x => if x = 0 then n % p else 0 else fun _ => 0) := by
    rw [zS_as_zR]
    refine b1.set (G := fun x => if x = 0 then n % p else 0) (by omega) (by omega) (fun i i0 i1 => ?_) (fun b i b0 b1 hb i0 i1 => ?_) (fun i hi => ?_) (fun i => ?_)
    · have e := b1.2.2.1 0 i (by omega) (by omega) i0 i1
      by_cases q : i = 0
      · rw [if_pos (by omega), if_pos q]
      · rw [if_neg (by omega), if_neg q]
        exact e
    · rw [if_neg (by omega)]
    · exact if_neg (by omega)
    · (try dsimp only)
      split
      · exact ⟨em_ge (by omega), em_lt (by omega)⟩
      · omega
  generalize zS S1 (D + 29) 0 (n % p) = S2 at *
  clear m1 b1 w1
  refine loopU2 (α := Int → Int → Int) (β := Hp) (P := fun k _ S' => At (d + 2) 197 c197_22 [(0, (2, D)), (1, (2, a)), (2, (0, n)), (3, (0, k))] [] S' Q) (I := fun k P S' => 1 ≤ k ∧ Md (fun x => x = D + 29) S S' ∧ BR S' (D + 29) 60 7 p P ∧ (∀ b x, k ≤ b → P b x = 0) ∧ (∀ b, 0 ≤ b → b < k → ∀ x, P b x = nwV n C P b x % p) ∧ ∀ b x, 6 * b < x → P b x = 0) (2 * n - 1) ?_ ?_ 1 _ S2 (by omega) ⟨by omega, M2, b2, fun b x hb => by rw [if_neg (by omega)], fun b b0 b1 x => ?_, fun b x hx => ?_⟩
  · rintro k P S3 hk ⟨k0, M3, b3, z3, n3, d3⟩ hnx
    have p3 : zG S3 D 0 = p := (M3.G (by omega) 0).trans hp
    have w3 : DW S3 D := h.md M3 (by omega)
    apply w_Model_findsPowers_22
    rw [w32_id (x := 2 * n) (by omega) (by omega), w32_id (x := 2 * n - 2) (by omega) (by omega)]
    refine ⟨fun hc => by omega, fun _ => ?_⟩
    -- what is taken off for k
    have inner : ∀ S4, Md (fun x => x = D + 29) S3 S4 → BR S4 (D + 29) 60 7 p (fun b x => if b = k then ((-1) * sm (min (k - 1) n).toNat (fun i => cnv (C (n - 1 - i)) (P (k - 1 - i)) x)) % p else P b x) → At (d + 2) 197 c197_66 [(0, (2, D)), (1, (2, a)), (2, (0, n)), (3, (0, k))] [] S4 Q := by
      intro S4 m4 b4
      have w4 : DW S4 D := w3.md m4 (by omega)
      have fin : ∀ S5, Md (fun x => x = D + 29) S3 S5 → BR S5 (D + 29) 60 7 p (fun b x => if b = k then nwV n C P k x % p else P b x) → At (d + 2) 197 c197_81 [(0, (2, D)), (1, (2, a)), (2, (0, n)), (3, (0, k))] [] S5 Q := by
        intro S5 m5 b5
        apply w_Model_findsPowers_81
        rintro _ rfl
        rw [w32_id (by omega) (by omega)]
        have eqP : ∀ b, b < k → ∀ x, (fun b x => if b = k then nwV n C P k x % p else P b x) b x = P b x := fun b hb x => if_neg (by omega)
        refine hnx _ S5 ⟨by omega, M3.tr m5, b5, fun b x hb => ?_, fun b b0 b1 x => ?_, fun b x hx => ?_⟩
        · rw [if_neg (by omega)]
          exact z3 b x (by omega)
        · rw [nwV_congr (R := P) (fun j j0 j1 => eqP j (by omega))]
          by_cases q : b = k
          · rw [if_pos q, q]
          · rw [if_neg q]
            exact n3 b b0 (by omega) x
        · by_cases q : b = k
          · rw [if_pos q]
            have z : nwV n C P k x = 0 := by
              unfold nwV
              rw [sm_zeros (fun i i0 i1 => cnv_deg (da := 6) (db := 6 * (k - 1 - i)) (fun e he => sC _ e (Or.inr he)) (fun e he => d3 _ e he) x (by omega)), if_neg (by omega), sC _ x (Or.inr (by omega)), Int.mul_zero]
              split <;> rfl
            rw [z]
            rfl
          · rw [if_neg q]
            exact d3 b x hx
      apply w_Model_findsPowers_66
      refine ⟨fun hc => fin S4 m4 (b4.congr (fun b x => ?_)), fun hc => ⟨w4.1, ?_⟩⟩
      · by_cases q : b = k
        · rw [if_pos q, if_pos q]
          unfold nwV
          rw [if_neg (show ¬ k = 0 by omega), if_neg (show ¬ k ≤ n by omega), Int.zero_add]
        · rw [if_neg q, if_neg q]
      · refine m_takesOffSum (C := C (n - k)) (W := fun x => if x = 0 then 1 else 0) (dc := 6) (dw := 0) w4 ((m4.G (by omega) 0).trans p3) h2 aD (by rw [m4.K, M3.K]; exact ka) (by rw [m4.L, M3.L]; exact la) hn (by omega) (by omega) b4 (by omega) (by omega) (by omega) (fun e e0 e1 => ?_) (fun e => bC _ e) (fun e he => sC _ e he) (by omega) (fun x => (if_pos (show (-1 : Int) < 0 by decide)).symm) (fun x hx => if_neg (by omega)) (by omega) (fun S5 m5 b5 => ⟨rfl, fin S5 (m4.tr m5) (b5.congr (fun b x => ?_))⟩)
        · rw [m4.G aD, M3.G aD]
          exact hC (n - k) e (by omega) (by omega) e0 e1
        · by_cases q : b = k
          · rw [if_pos q, if_pos q, if_pos rfl]
            have e1 : cnv (C (n - k)) (fun x => if x = 0 then 1 else 0) x = C (n - k) x := by
              rcases Int.lt_or_le x 0 with z | z
              · rw [cnv_neg z, sC _ x (Or.inl z)]
              · unfold cnv
                rw [show (x + 1).toNat = x.toNat + 1 by omega, sm_succ, sm_zeros (fun i i0 i1 => by
                  (try dsimp only)
                  rw [if_neg (by omega), Int.mul_zero]), show ((x.toNat : Nat) : Int) = x by omega]
                (try dsimp only)
                rw [if_pos (Int.sub_self x), Int.mul_one, Int.zero_add]
            rw [e1, Int.emod_add_emod]
            unfold nwV
            rw [if_neg (show ¬ k = 0 by omega), if_pos (show k ≤ n by omega), Int.add_comm]
          · rw [if_neg q, if_neg q, if_neg q]
    refine loopU (P := fun i S' => At (d + 2) 197 c197_34 [(0, (2, D)), (1, (2, a)), (2, (0, n)), (3, (0, k)), (4, (0, i))] [] S' Q) (I := fun i S' => 1 ≤ i ∧ Md (fun x => x = D + 29) S3 S' ∧ BR S' (D + 29) 60 7 p (fun b x => if b = k then ((-1) * sm (i - 1).toNat (fun i => cnv (C (n - 1 - i)) (P (k - 1 - i)) x)) % p else P b x)) (min (k - 1) n + 1) ?_ ?_ 1 S3 (by omega) ⟨by omega, Md.refl _ _, b3.congr (fun b x => ?_)⟩
    · rintro i S4 hi ⟨i0, m4, b4⟩ hk2
      have w4 : DW S4 D := w3.md m4 (by omega)
      apply w_Model_findsPowers_34
      rw [w32_id (x := k - i) (by omega) (by omega)]
      refine ⟨fun hc => by omega, fun _ => ⟨w4.1, ?_⟩⟩
      refine m_takesOffSum (C := C (n - i)) (W := P (k - i)) (dc := 6) (dw := 6 * (k - i)) w4 ((m4.G (by omega) 0).trans p3) h2 aD (by rw [m4.K, M3.K]; exact ka) (by rw [m4.L, M3.L]; exact la) hn (by omega) (by omega) b4 (by omega) (by omega) (by omega) (fun e e0 e1 => ?_) (fun e => bC _ e) (fun e he => sC _ e he) (by omega) (fun x => by rw [if_neg (by omega), if_neg (by omega)]) (fun x hx => d3 _ x hx) (by omega) (fun S5 m5 b5 => ⟨rfl, ?_⟩)
      · rw [m4.G aD, M3.G aD]
        exact hC (n - i) e (by omega) (by omega) e0 e1
      · rintro _ rfl
        rw [w32_id (by omega) (by omega)]
        refine hk2 _ ⟨by omega, m4.tr m5, b5.congr (fun b x => ?_)⟩
        by_cases q : b = k
        · rw [if_pos q, if_pos q, if_pos rfl, Int.emod_add_emod, show (i + 1 - 1).toNat = (i - 1).toNat + 1 by omega, sm_succ, show (((i - 1).toNat : Nat) : Int) = i - 1 by omega, show n - 1 - (i - 1) = n - i by omega, show k - 1 - (i - 1) = k - i by omega, Int.mul_add]
        · rw [if_neg q, if_neg q, if_neg q]
    · rintro S4 ⟨-, m4, b4⟩
      apply w_Model_findsPowers_34
      refine ⟨fun _ => inner S4 m4 ?_, fun hc => absurd (show n < min (k - 1) n + 1 ∨ k ≤ min (k - 1) n + 1 by omega) hc⟩
      rw [show min (k - 1) n + 1 - 1 = min (k - 1) n by omega] at b4
      exact b4
    · by_cases q : b = k
      · rw [if_pos q, q, z3 k x (by omega)]
        rfl
      · rw [if_neg q]
  · rintro P S3 ⟨k0, M3, b3, z3, n3, d3⟩
    apply w_Model_findsPowers_22
    rw [w32_id (x := 2 * n) (by omega) (by omega), w32_id (x := 2 * n - 2) (by omega) (by omega)]
    exact ⟨fun _ => H S3 P M3 b3 (fun k k0 k1 x => n3 k k0 (by omega) x) d3, fun hc => absurd (show 2 * n - 2 < 2 * n - 1 by omega) hc⟩
  · rw [show b = 0 by omega, if_pos rfl]
    unfold nwV
    rw [if_pos rfl, show (min ((0 : Int) - 1) n).toNat = 0 by omega, sm_zero, Int.mul_zero, Int.add_zero]
    split <;> rfl
  · by_cases q : b = 0
    · rw [if_pos q, if_neg (by omega)]
    · rw [if_neg q]
/-- the table of traces -/
def trE (n : Int) (P : Int → Int → Int) : Int → Int → Int := fun e x => if 0 ≤ e ∧ e / 4 < n ∧ e % 4 < n then P (e / 4 + e % 4) x else 0
def dsM (p n : Int) (E : Int → Int → Int) : Int → Int := fun x => if n % 2 = 1 then (-1 * bkQ p E n.toNat n x) % p else bkQ p E n.toNat n x
set_option maxHeartbeats 2000000 in
theorem m_findsDisc {d : Nat} {D a p n : Int} {S : Hp} {C : Int → Int → Int} {Q : Vl → Hp → Prop} (h : DW S D) (hp : zG S D 0 = p) (h2 : 2 ≤ p ∧ p ≤ 7) (aD : a < D + 23 ∨ D + 29 < a) (ka : zK S a = 101) (la : zL S a = 49) (hn : 2 ≤ n ∧ n ≤ 4) (hC : ∀ j e, 0 ≤ j → j < n → 0 ≤ e → e < 7 → zG S a (7 * j + e) = C j e) (bC : ∀ j e, 0 ≤ C j e ∧ C j e < p) (sC : ∀ j e, (e < 0 ∨ 6 < e) → C j e = 0) (H : ∀ S' P G v, Md (fun x => D + 23 ≤ x ∧ x ≤ D + 29) S S' → NW p n C P → (∀ k x, 6 * k < x → P k x = 0) → BR S' (D + 25) 200 5 p G → (∀ x, G n x = dsM p n (trE n P) x) → in01 v → (v = 0 ↔ ∀ x, G n x = 0) → Q (0, v) S') : Ev (d + 4) 198 [(2, D), (2, a), (0, n)] S Q := by
  apply w_Model_findsDisc_0
  refine ⟨h.1, m_findsPowers h hp h2 (by omega) ka la hn hC bC sC (fun S1 P m1 b1 nw dP => ⟨rfl, ?_⟩)⟩
  have w1 : DW S1 D := h.md m1 (by omega)
  have p1 : zG S1 D 0 = p := (m1.G (by omega) 0).trans hp
  rw [w1.x_entry.1]
  refine ⟨w1.1, w1.1, m_zeroB (w := 60) (n := 16) (p := p) w1.x_entry.2.1 w1.x_entry.2.2 (by omega) (by omega) (by omega) (by omega) (fun S2 m2 b2 => ⟨rfl, ?_⟩)⟩
  have w2 : DW S2 D := w1.md m2 (by omega)
  have q2 : BR S2 (D + 29) 60 7 p P := b1.keep m2 (by omega)
  refine loopU (P := fun i S' => At (d + 4) 198 c198_16 [(0, (2, D)), (2, (0, n)), (3, (0, i))] [] S' Q) (I := fun i S' => 0 ≤ i ∧ Md (fun x => x = D + 23) S2 S' ∧ BR S' (D + 23) 60 16 p (fun b x => if 0 ≤ b ∧ b / 4 < i ∧ b % 4 < n then P (b / 4 + b % 4) x else 0)) n ?_ ?_ 0 S2 (by omega) ⟨by omega, Md.refl _ _, b2.congr (fun b x => by rw [if_neg (by omega)])⟩
  · rintro i S3 hi ⟨i0, m3, b3⟩ hk
    apply w_Model_findsDisc_16
    refine ⟨fun hc => by omega, fun _ => ?_⟩
    refine loopU (P := fun j S' => At (d + 4) 198 c198_24 [(0, (2, D)), (2, (0, n)), (3, (0, i)), (4, (0, j))] [] S' Q) (I := fun j S' => 0 ≤ j ∧ Md (fun x => x = D + 23) S2 S' ∧ BR S' (D + 23) 60 16 p (fun b x => if 0 ≤ b ∧ (b / 4 < i ∧ b % 4 < n ∨ b / 4 = i ∧ b % 4 < j) then P (b / 4 + b % 4) x else 0)) n ?_ ?_ 0 S3 (by omega) ⟨by omega, m3, b3.congr (fun b x => by
      by_cases q : 0 ≤ b ∧ b / 4 < i ∧ b % 4 < n
      · rw [if_pos q, if_pos (by omega)]
      · rw [if_neg q, if_neg (by omega)])⟩
    · rintro j S4 hj ⟨j0, m4, b4⟩ hk2
      have w4 : DW S4 D := w2.md m4 (by omega)
      have q4 : BR S4 (D + 29) 60 7 p P := q2.keep m4 (by omega)
      apply w_Model_findsDisc_24
      refine ⟨fun hc => by omega, fun _ => ?_⟩
      refine loopU (P := fun k S' => At (d + 4) 198 c198_33 [(0, (2, D)), (2, (0, n)), (3, (0, i)), (4, (0, j)), (5, (0, k))] [] S' Q) (I := fun k S' => 0 ≤ k ∧ S' = zR S4 (D + 23) (fun e => if 60 * (4 * i + j) ≤ e ∧ e < 60 * (4 * i + j) + k then P (i + j) (e - 60 * (4 * i + j)) else zG S4 (D + 23) e)) 60 ?_ ?_ 0 S4 (by omega) ⟨by omega, (zR_self S4 (D + 23)).symm.trans (zR_congr _ _ (fun e => by rw [if_neg (by omega)]))⟩
      · rintro k _ hk' ⟨k0, rfl⟩ hk3
        have w5 : DW (zR S4 (D + 23) (fun e => if 60 * (4 * i + j) ≤ e ∧ e < 60 * (4 * i + j) + k then P (i + j) (e - 60 * (4 * i + j)) else zG S4 (D + 23) e)) D := w4.zR (by omega)
        have v := q4.2.2.1 (i + j) k (by omega) (by omega) k0 hk'
        apply w_Model_findsDisc_33
        refine ⟨fun hc => by omega, fun _ => ⟨w5.1, w5.1, m_entryAt (by omega) (by omega) ⟨_, rfl, ?_⟩⟩⟩
        rw [w5.x_entry.1, w5.x_powers.1, w32_id (x := i + j) (by omega) (by omega), w32_id (x := 60 * (i + j)) (by omega) (by omega), w32_id (x := 60 * (i + j) + k) (by omega) (by omega), w32_id (x := 60 * (4 * i + j) + k) (by omega) (by omega), w5.x_entry.2.1, w5.x_powers.2.1, w5.x_entry.2.2, w5.x_powers.2.2, zG_zR_ne _ (by omega), v]
        refine ⟨w5.1, ⟨rfl, by omega, by omega⟩, ⟨rfl, by omega, by omega⟩, ?_⟩
        rintro _ rfl _ rfl
        rw [w32_id (by omega) (by omega)]
        refine hk3 _ ⟨by omega, ?_⟩
        rw [zS_zR]
        refine zR_congr _ _ (fun e => ?_)
        by_cases q : e = 60 * (4 * i + j) + k
        · rw [if_pos q, if_pos (by omega), show e - 60 * (4 * i + j) = k by omega]
        · rw [if_neg q]
          by_cases q2 : 60 * (4 * i + j) ≤ e ∧ e < 60 * (4 * i + j) + k
          · rw [if_pos q2, if_pos (by omega)]
          · rw [if_neg q2, if_neg (by omega)]
      · rintro _ ⟨-, rfl⟩
        apply w_Model_findsDisc_33
        refine ⟨fun _ => ?_, fun hc => absurd (Int.le_refl 60) hc⟩
        rintro _ rfl
        rw [w32_id (by omega) (by omega)]
        have b5 := b4.set (k := 4 * i + j) (G := P (i + j)) (f := fun e => if 60 * (4 * i + j) ≤ e ∧ e < 60 * (4 * i + j) + 60 then P (i + j) (e - 60 * (4 * i + j)) else zG S4 (D + 23) e) (by omega) (by omega) (fun x x0 x1 => by
          (try dsimp only)
          rw [if_pos (by omega), show 60 * (4 * i + j) + x - 60 * (4 * i + j) = x by omega]) (fun b x b0 b1 hb x0 x1 => by
          (try dsimp only)
          rw [if_neg (by omega)]) (fun x hx => q4.2.2.2.1 _ _ hx) (fun x => q4.2.2.2.2 _ _)
        refine hk2 _ ⟨by omega, m4.tr (Md.zR S4 (D + 23) _), b5.congr (fun b x => ?_)⟩
        by_cases q : b = 4 * i + j
        · rw [if_pos q, if_pos (by omega), show b / 4 + b % 4 = i + j by omega]
        · rw [if_neg q]
          by_cases q2 : 0 ≤ b ∧ (b / 4 < i ∧ b % 4 < n ∨ b / 4 = i ∧ b % 4 < j)
          · rw [if_pos q2, if_pos (by omega)]
          · rw [if_neg q2, if_neg (by omega)]
    · rintro S4 ⟨-, m4, b4⟩
      apply w_Model_findsDisc_24
      refine ⟨fun _ => ?_, fun hc => absurd (Int.le_refl n) hc⟩
      rintro _ rfl
      rw [w32_id (by omega) (by omega)]
      refine hk _ ⟨by omega, m4, b4.congr (fun b x => ?_)⟩
      by_cases q : 0 ≤ b ∧ (b / 4 < i ∧ b % 4 < n ∨ b / 4 = i ∧ b % 4 < n)
      · rw [if_pos q, if_pos (by omega)]
      · rw [if_neg q, if_neg (by omega)]
  · rintro S3 ⟨-, m3, b3⟩
    have w3 : DW S3 D := w2.md m3 (by omega)
    have M3 : Md (fun x => D + 23 ≤ x ∧ x ≤ D + 29) S S3 := ((m1.wide (fun x hx => by omega)).tr (m2.wide (fun x hx => by omega))).tr (m3.wide (fun x hx => by omega))
    have p3 : zG S3 D 0 = p := (M3.G (by omega) 0).trans hp
    have b3 : BR S3 (D + 23) 60 16 p (trE n P) := b3
    have dE : ∀ i l x, 0 ≤ i → i < 4 → 0 ≤ l → l < 4 → 30 + 6 * i < x → trE n P (4 * i + l) x = 0 := fun i l x i0 i1 l0 l1 hx => by
      unfold trE
      split
      · exact dP _ x (by omega)
      · rfl
    apply w_Model_findsDisc_16
    refine ⟨fun _ => ⟨w3.1, m_findsEquation w3 p3 h2 (by omega) b3 dE (fun S4 m4 b4 => ⟨rfl, by decide, ?_⟩)⟩, fun hc => absurd (Int.le_refl n) hc⟩
    have M4 : Md (fun x => D + 23 ≤ x ∧ x ≤ D + 29) S S4 := M3.tr (m4.wide (fun x hx => by omega))
    have w4 : DW S4 D := w3.md m4 (by omega)
    have fin : ∀ S5 G, Md (fun x => D + 23 ≤ x ∧ x ≤ D + 29) S S5 → BR S5 (D + 25) 200 5 p G → (∀ x, G n x = dsM p n (trE n P) x) → At (d + 4) 198 c198_113 [(0, (2, D)), (2, (0, n))] [] S5 Q := by
      intro S5 G M5 b5 g5
      have w5 : DW S5 D := h.md M5 (by omega)
      apply w_Model_findsDisc_113
      refine loopU (α := Int) (P := fun k v => At (d + 4) 198 c198_118 [(0, (2, D)), (2, (0, n)), (3, (0, v)), (4, (0, k))] [] S5 Q) (I := fun k v => 0 ≤ k ∧ in01 v ∧ (v = 0 ↔ ∀ x, x < k → G n x = 0)) 200 ?_ ?_ 0 0 (by omega) ⟨by omega, Or.inl rfl, ⟨fun _ x hx => b5.2.2.2.1 n x (Or.inl hx), fun _ => rfl⟩⟩
      · rintro k v hk ⟨k0, v1, v2⟩ hnx
        have e := b5.2.2.1 n k (by omega) (by omega) k0 hk
        apply w_Model_findsDisc_118
        rw [w5.x_equation.1, w32_id (x := 200 * n) (by omega) (by omega), w32_id (x := 200 * n + k) (by omega) (by omega), e, w5.x_equation.2.1, w5.x_equation.2.2]
        refine ⟨fun hc => by omega, fun _ => ⟨fun _ => ⟨w5.1, rfl, by omega, by omega⟩, ?_⟩⟩
        rintro _ rfl _ rfl
        rw [w32_id (by omega) (by omega)]
        refine hnx _ ⟨by omega, ?_, ?_⟩
        · split
          · exact Or.inr rfl
          · exact Or.inl rfl
        · constructor
          · intro hz x hx
            have hz : ¬ (¬ v = 0 ∨ ¬ G n k = 0) := fun z => by rw [if_pos z] at hz; omega
            rcases Int.lt_or_le x k with q | q
            · exact v2.mp (by omega) x q
            · rw [show x = k by omega]
              exact Decidable.not_not.mp (fun z => hz (Or.inr z))
          · intro hz
            refine if_neg (fun z => ?_)
            rcases z with z | z
            · exact z (v2.mpr (fun x hx => hz x (by omega)))
            · exact z (hz k (by omega))
      · rintro v ⟨-, v1, v2⟩
        apply w_Model_findsDisc_118
        refine ⟨fun _ => ⟨v1, H S5 P G v M5 nw dP b5 g5 v1 ⟨fun z x => ?_, fun z => v2.mpr (fun x _ => z x)⟩⟩, fun hc => absurd (Int.le_refl 200) hc⟩
        rcases Int.lt_or_le x 200 with q | q
        · exact v2.mp z x q
        · exact b5.2.2.2.1 n x (Or.inr q)
    rw [tm_nn (by omega)]
    refine ⟨fun hc => fin S4 _ M4 b4 (fun x => ?_), fun hc => ⟨w4.1, w4.1, ?_⟩⟩
    · unfold dsM
      rw [if_neg hc]
    · rw [w4.x_equation.1, w32_id (x := 200 * n) (by omega) (by omega)]
      refine m_negB (n := 5) (k := n) w4.1 ((M4.G (by omega) 0).trans hp) h2 (by omega) b4 (by omega) (by omega) (by omega) rfl (fun S5 m5 b5 => ⟨rfl, fin S5 _ (M4.tr (m5.wide (fun x hx => by omega))) b5 (fun x => ?_)⟩)
      rw [if_pos rfl]
      unfold dsM
      rw [if_pos (Decidable.not_not.mp hc)]
