/-! The model: values, division by x - c, moving. -/
theorem m_atNumber {d : Nat} {D a o n c p : Int} {S : Hp} {Q : Vl → Hp → Prop} (hD : zK S D = 12) (hp : zG S D 0 = p) (h2 : 2 ≤ p ∧ p ≤ 7) (ka : zK S a = 101) (ho : 0 ≤ o ∧ o + n ≤ zL S a) (ho9 : o ≤ 100000) (hn : 0 ≤ n ∧ n ≤ 10000) (hc : 0 ≤ c ∧ c < p) (hv : ∀ i, o ≤ i → i < o + n → 0 ≤ zG S a i ∧ zG S a i < p) (H : Q (0, qr p c (rwP (zG S a) o n) (n - 1) (-1)) S) : Ev d 204 [(2, D), (2, a), (0, o), (0, n), (0, c)] S Q := by
  apply w_Model_atNumber_0
  rintro _ rfl
  rw [w32_id (by omega) (by omega)]
  generalize eP : rwP (zG S a) o n = P at H
  have vP : ∀ i, 0 ≤ i → i < n → zG S a (o + i) = P i := fun i i0 i1 => by
    rw [← eP]
    exact (if_pos ⟨i0, i1⟩).symm
  refine loopD (α := Int) (P := fun i v => At d 204 c204_8 [(0, (2, D)), (1, (2, a)), (2, (0, o)), (4, (0, c)), (5, (0, v)), (6, (0, i))] [] S Q) (I := fun i v => i < n ∧ v = qr p c P (n - 1) i) 0 ?_ ?_ (n - 1) 0 (by omega) ⟨by omega, (qr_top (by omega)).symm⟩
  · rintro i v hi ⟨i1, rfl⟩ hk
    have b1 := qr_bd (p := p) (c := c) (T := n - 1) (P := P) (by omega) i
    have b2 := mul_B (x := qr p c P (n - 1) i) (y := c) (by omega) (by omega)
    have b3 := hv (o + i) (by omega) (by omega)
    rw [vP i hi i1] at b3
    apply w_Model_atNumber_8
    rw [hp, w32_id (x := o + i) (by omega) (by omega), vP i hi i1, w32_id (x := _ * c) (by omega) (by omega), w32_id (x := _ + _) (by omega) (by omega), tm_nn (by omega)]
    refine ⟨fun hc => by omega, fun _ => ⟨⟨ka, by omega, by omega⟩, hD, by omega, ?_⟩⟩
    rintro _ rfl _ rfl
    rw [w32_id (by omega) (by omega)]
    refine hk _ ⟨by omega, ?_⟩
    rw [qr_step (by omega), Int.add_comm, Int.mul_comm]
  · rintro v ⟨-, rfl⟩
    apply w_Model_atNumber_8
    exact ⟨fun _ => H, fun hc => absurd (show (0 : Int) - 1 < 0 by omega) hc⟩
theorem m_dividesOut {d : Nat} {D a o n c p : Int} {S : Hp} {Q : Vl → Hp → Prop} (hD : zK S D = 12) (hp : zG S D 0 = p) (h2 : 2 ≤ p ∧ p ≤ 7) (aD : a ≠ D) (ka : zK S a = 101) (ho : 0 ≤ o ∧ o + n ≤ zL S a) (ho9 : o ≤ 100000) (hn : 0 ≤ n ∧ n ≤ 10000) (hc : 0 ≤ c ∧ c < p) (hv : ∀ i, o ≤ i → i < o + n → 0 ≤ zG S a i ∧ zG S a i < p) (H : Q (3, 0) (zR S a (fun x => if o ≤ x ∧ x < o + n then qr p c (rwP (zG S a) o n) (n - 1) (x - o) else zG S a x))) : Ev d 205 [(2, D), (2, a), (0, o), (0, n), (0, c)] S Q := by
  apply w_Model_dividesOut_0
  rintro _ rfl
  rw [w32_id (by omega) (by omega)]
  generalize eP : rwP (zG S a) o n = P at H
  have vP : ∀ i, 0 ≤ i → i < n → zG S a (o + i) = P i := fun i i0 i1 => by
    rw [← eP]
    exact (if_pos ⟨i0, i1⟩).symm
  refine loopD2 (α := Int) (β := Hp) (P := fun i v S' => At d 205 c205_8 [(0, (2, D)), (1, (2, a)), (2, (0, o)), (4, (0, c)), (5, (0, v)), (6, (0, i))] [] S' Q) (I := fun i v S' => i < n ∧ v = qr p c P (n - 1) i ∧ S' = zR S a (fun x => if o + i < x ∧ x < o + n then qr p c P (n - 1) (x - o) else zG S a x)) 0 ?_ ?_ (n - 1) 0 S (by omega) ⟨by omega, (qr_top (by omega)).symm, ?_⟩
  · rintro i v _ hi ⟨i1, rfl, rfl⟩ hk
    have b1 := qr_bd (p := p) (c := c) (T := n - 1) (P := P) (by omega) i
    have b2 := mul_B (x := qr p c P (n - 1) i) (y := c) (by omega) (by omega)
    have b3 := hv (o + i) (by omega) (by omega)
    rw [vP i hi i1] at b3
    apply w_Model_dividesOut_8
    rw [w32_id (x := o + i) (by omega) (by omega), zG_zR_at, if_neg (by omega), vP i hi i1, zL_zR]
    refine ⟨fun hc => by omega, fun _ => ⟨⟨ka, by omega, by omega⟩, ?_⟩⟩
    rintro _ rfl
    refine ⟨⟨ka, by omega, by omega⟩, ?_⟩
    rintro _ rfl
    rw [zG_zS_ne _ (Or.inl (fun q => aD q.symm)), zG_zR_ne _ (fun q => aD q.symm), hp, w32_id (x := _ * c) (by omega) (by omega), w32_id (x := _ + _) (by omega) (by omega), tm_nn (by omega)]
    refine ⟨hD, by omega, ?_⟩
    rintro _ rfl _ rfl
    rw [w32_id (by omega) (by omega)]
    refine hk _ _ ⟨by omega, ?_, ?_⟩
    · rw [qr_step (by omega), Int.add_comm, Int.mul_comm]
    · rw [zS_zR]
      refine zR_congr _ _ (fun x => ?_)
      by_cases q : x = o + i
      · rw [if_pos q, if_pos (by omega), show x - o = i by omega]
      · rw [if_neg q]
        by_cases q2 : o + i < x ∧ x < o + n
        · rw [if_pos q2, if_pos (by omega)]
        · rw [if_neg q2, if_neg (by omega)]
  · rintro v _ ⟨-, rfl, rfl⟩
    apply w_Model_dividesOut_8
    refine ⟨fun _ => ?_, fun hc => absurd (show (0 : Int) - 1 < 0 by omega) hc⟩
    have e : zR S a (fun x => if o + (0 - 1) < x ∧ x < o + n then qr p c P (n - 1) (x - o) else zG S a x) = zR S a (fun x => if o ≤ x ∧ x < o + n then qr p c P (n - 1) (x - o) else zG S a x) := zR_congr _ _ (fun x => by
      by_cases q : o ≤ x ∧ x < o + n
      · rw [if_pos q, if_pos (by omega)]
      · rw [if_neg q, if_neg (by omega)])
    rw [e]
    exact H
  · exact (zR_self S a).symm.trans (zR_congr _ _ (fun x => by rw [if_neg (by omega)]))
set_option maxHeartbeats 1000000 in
theorem m_moves {d : Nat} {D a p fr sd by' : Int} {S : Hp} {G : Int → Int} {Q : Vl → Hp → Prop} (hD : zK S D = 12) (h0 : zG S D 0 = p) (hp : 2 ≤ p ∧ p ≤ 7) (aD : a ≠ D) (ka : zK S a = 101) (la : zL S a = 49) (hb : 0 ≤ by' ∧ by' < p) (hs : (sd = 1 ∧ 0 ≤ fr ∧ fr ≤ 42) ∨ (sd = 7 ∧ 0 ≤ fr ∧ fr < 7)) (hG : ∀ i, 0 ≤ i → i < 7 → zG S a (fr + i * sd) = G i) (hGb : ∀ i, 0 ≤ G i ∧ G i < p) (hGh : ∀ i, 6 < i → G i = 0)
    (H : ∀ S', Md (fun x => x = a) S S' → (∀ i, 0 ≤ i → i < 7 → zG S' a (fr + i * sd) = mv7 p by' G i) → (∀ e, (∀ i, 0 ≤ i → i < 7 → e ≠ fr + i * sd) → zG S' a e = zG S a e) → Q (3, 0) S') : Ev d 207 [(2, D), (2, a), (0, fr), (0, sd), (0, 7), (0, by')] S Q := by
  have inj : ∀ i j, fr + i * sd = fr + j * sd → i = j := by
    intro i j hij
    rcases hs with ⟨rfl, -, -⟩ | ⟨rfl, -, -⟩ <;> omega
  have rng : ∀ i, 0 ≤ i → i < 7 → 0 ≤ i * sd ∧ i * sd ≤ 42 ∧ 0 ≤ fr + i * sd ∧ fr + i * sd < 49 := by
    intro i h1 h2
    rcases hs with ⟨rfl, a1, a2⟩ | ⟨rfl, a1, a2⟩ <;> omega
  have sd1 : ∀ i, fr + i * sd + sd = fr + (i + 1) * sd := fun i => by
    rcases hs with ⟨rfl, -, -⟩ | ⟨rfl, -, -⟩ <;> omega
  have sdb : 0 ≤ sd ∧ sd ≤ 7 := by omega
  apply w_Model_moves_0
  refine loopU (P := fun k S' => At d 207 c207_3 [(0, (2, D)), (1, (2, a)), (2, (0, fr)), (3, (0, sd)), (4, (0, 7)), (5, (0, by')), (6, (0, k))] [] S' Q) (I := fun k S' => 0 ≤ k ∧ Md (fun x => x = a) S S' ∧ (∀ i, 0 ≤ i → i < 7 → zG S' a (fr + i * sd) = mvN p by' 6 (min k 6).toNat G i) ∧ ∀ e, (∀ i, 0 ≤ i → i < 7 → e ≠ fr + i * sd) → zG S' a e = zG S a e) 7 ?_ ?_ 0 S (by omega) ⟨by omega, Md.refl _ _, hG, fun e he => rfl⟩
  · rintro k S1 hk ⟨k0, km, kg, ke⟩ hnext
    have hb9 := fun i => mvN_bd (c := by') (T := 6) (show 0 < p by omega) hGb (min k 6).toNat i
    have ht9 := fun i hi => mvN_top (p := p) (c := by') (T := 6) hGh (min k 6).toNat i hi (by omega)
    generalize hM : mvN p by' 6 (min k 6).toNat G = M at *
    apply w_Model_moves_3
    refine ⟨fun hc => by omega, fun _ => ?_⟩
    rintro _ rfl
    rw [w32_id (by omega) (by omega)]
    refine loopD (P := fun i S' => At d 207 c207_16 [(0, (2, D)), (1, (2, a)), (2, (0, fr)), (3, (0, sd)), (4, (0, 7)), (5, (0, by')), (6, (0, k)), (7, (0, i))] [] S' Q) (I := fun i S' => i ≤ 5 ∧ Md (fun x => x = a) S S' ∧ (∀ j, 0 ≤ j → j < 7 → zG S' a (fr + j * sd) = if i < j then qr p by' M 6 (j - 1) else M j) ∧ ∀ e, (∀ i, 0 ≤ i → i < 7 → e ≠ fr + i * sd) → zG S' a e = zG S a e) k ?_ ?_ 5 S1 (by omega) ⟨by omega, km, fun j j0 j1 => ?_, ke⟩
    · rintro i S2 hi ⟨i1, im, ig, ie⟩ hk2
      have p0 : zG S2 D 0 = p := by rw [im.G (fun q => aD q.symm)]; exact h0
      have r1 := rng i (by omega) (by omega)
      have r2 := rng (i + 1) (by omega) (by omega)
      have v1 := ig i (by omega) (by omega)
      have v2 := ig (i + 1) (by omega) (by omega)
      rw [if_neg (by omega)] at v1
      rw [if_pos (by omega), show i + 1 - 1 = i by omega] at v2
      have b1 := hb9 i
      have b2 := qr_bd (p := p) (c := by') (P := M) (T := 6) (by omega) i
      have b3 := mul_B (x := by') (y := qr p by' M 6 i) (by omega) (by omega)
      have kA : zK S2 a = 101 := (im.K a).trans ka
      have lA : zL S2 a = 49 := (im.L a).trans la
      have kD : zK S2 D = 12 := (im.K D).trans hD
      apply w_Model_moves_16
      refine ⟨fun hc => by omega, fun _ => ?_⟩
      rw [Int.mul_comm sd i, w32_id (x := i * sd) (by omega) (by omega), w32_id (x := fr + i * sd) (by omega) (by omega)]
      rintro _ rfl
      rw [p0, sd1, w32_id (x := fr + (i + 1) * sd) (by omega) (by omega), v1, v2, lA]
      refine ⟨⟨kA, by omega, by omega⟩, ⟨kA, by omega, by omega⟩, kD, by omega, ⟨kA, by omega, by omega⟩, ?_⟩
      rintro _ rfl
      rw [w32_id (x := by' * qr p by' M 6 i) (by omega) (by omega), w32_id (x := M i + by' * qr p by' M 6 i) (by omega) (by omega), tm_nn (by omega)]
      rintro _ rfl
      rw [w32_id (by omega) (by omega)]
      refine hk2 _ ⟨by omega, im.tr (Md.zS _ _ _ _), fun j j0 j1 => ?_, fun e he => ?_⟩
      · by_cases q : j = i
        · rw [q, zG_zS_at, if_pos (by omega), qr_step (by omega)]
        · rw [zG_zS_ne _ (Or.inr (fun z => q (inj _ _ z))), ig j j0 j1]
          by_cases q2 : i < j
          · rw [if_pos q2, if_pos (by omega)]
          · rw [if_neg q2, if_neg (by omega)]
      · rw [zG_zS_ne _ (Or.inr (he i (by omega) (by omega)))]
        exact ie e he
    · rintro S2 ⟨i1, im, ig, ie⟩
      apply w_Model_moves_16
      refine ⟨fun _ => ?_, fun hc => absurd (show k - 1 < k by omega) hc⟩
      rintro _ rfl
      rw [w32_id (by omega) (by omega)]
      refine hnext _ ⟨by omega, im, fun j j0 j1 => ?_, ie⟩
      rw [ig j j0 j1]
      by_cases k6 : k = 6
      · subst k6
        have e : mvN p by' 6 (min ((6 : Int) + 1) 6).toNat G = M := hM
        rw [e]
        by_cases q : 6 - 1 < j
        · rw [if_pos q, show j = 6 by omega, qr_step (by omega), qr_top (by omega), Int.mul_zero, Int.add_zero, em_id (hb9 6).1 (hb9 6).2]
        · rw [if_neg q]
      · rw [show min k 6 = k by omega] at hM
        rw [show (min (k + 1) 6).toNat = k.toNat + 1 by omega]
        show _ = mvp p by' 6 (k.toNat : Int) (mvN p by' 6 k.toNat G) j
        rw [hM]
        unfold mvp
        rw [show ((k.toNat : Nat) : Int) = k by omega]
        by_cases q : j < k
        · rw [if_neg (by omega), if_pos q]
        · rw [if_pos (by omega), if_neg q]
    · rw [kg j j0 j1]
      by_cases q : 5 < j
      · rw [if_pos q, show j = 6 by omega, qr_step (by omega), qr_top (by omega), Int.mul_zero, Int.add_zero, em_id (hb9 6).1 (hb9 6).2]
      · rw [if_neg q]
  · rintro S1 ⟨k0, km, kg, ke⟩
    apply w_Model_moves_3
    exact ⟨fun _ => H S1 km kg ke, fun hc => absurd (show (7 : Int) ≤ 7 by omega) hc⟩
