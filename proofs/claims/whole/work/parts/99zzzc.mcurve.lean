/-! The model: a curve, an element out of a text. -/
/-- what a text tells, as a polynomial -/
def txF (P : Int → Int) : Int → Int := fun e => if 0 ≤ e ∧ e < 49 then P e else 0
def txW (P : Int → Int) : Int → Int → Int := fun j i => if 0 ≤ j ∧ j < 7 ∧ 0 ≤ i ∧ i < 7 then P (7 * j + i) else 0
theorem hgt_congr {F G : Int → Int} (h : ∀ e, 0 ≤ e → e < 49 → F e = G e) : hgt F = hgt G := mxN_congr 49 (fun e a b => h e (by omega) (by omega))
theorem isCv_congr {F G : Int → Int} (h : ∀ e, 0 ≤ e → e < 49 → F e = G e) : isCv F → isCv G := fun ⟨a, b, c, e⟩ => by
  have q := hgt_congr h
  refine ⟨by omega, by omega, ?_, fun i i0 i1 => ?_⟩
  · rw [← q, ← h _ (by omega) (by omega)]
    exact c
  · rw [← q, ← h _ (by omega) (by omega)]
    exact e i i0 i1
def crF (D : Int) (S S' : Hp) : Prop := Md (fun x => x = D ∨ (D + 14 ≤ x ∧ x ≤ D + 22)) S S' ∧ DW S' D ∧ (∀ j, (j < 18 ∨ 34 < j) → zG S' D j = zG S D j) ∧ zG S' D 18 = 0
theorem m_curve {d : Nat} {D n p : Int} {T : Int → Int} {S : Hp} {Q : Vl → Hp → Prop} (h2 : 2 ≤ p ∧ p ≤ 7) (w : DW S D) (hp : zG S D 0 = p) (h18 : zG S D 18 = n) (hn : 0 ≤ n ∧ n ≤ 100) (hT : ∀ x, 0 ≤ x → x < n → zG S (D + 13) x = T x) (HR : rdR0 T n p ≠ 0 → ∀ S', crF D S S' → Q (0, rdR0 T n p) S') (H3 : rdR0 T n p = 0 → ¬ isCv (txF (rdA T n p).2.2.2) → ∀ S', crF D S S' → Q (0, -3) S') (H0 : rdR0 T n p = 0 → isCv (txF (rdA T n p).2.2.2) → (∀ e, 0 ≤ txF (rdA T n p).2.2.2 e ∧ txF (rdA T n p).2.2.2 e < p) → ∀ S1 S' P, crF D S S1 → Md (fun x => D + 23 ≤ x ∧ x ≤ D + 29) S1 S' → DW S' D → NW p (hgt (txF (rdA T n p).2.2.2)) (cfF (txF (rdA T n p).2.2.2) (hgt (txF (rdA T n p).2.2.2))) P → (∀ k x, 6 * k < x → P k x = 0) → (∀ x, dsM p (hgt (txF (rdA T n p).2.2.2)) (trE (hgt (txF (rdA T n p).2.2.2)) P) x = 0) → Q (0, -15) S') (H1 : rdR0 T n p = 0 → isCv (txF (rdA T n p).2.2.2) → (∀ e, 0 ≤ txF (rdA T n p).2.2.2 e ∧ txF (rdA T n p).2.2.2 e < p) → ∀ S1 S', crF D S S1 → becR p (hgt (txF (rdA T n p).2.2.2)) (txF (rdA T n p).2.2.2) D S1 S' → Q (0, hgt (txF (rdA T n p).2.2.2)) S') : Ev (d + 6) 200 [(2, D)] S Q := by
  have hb := (rdA_bd (T := T) (p := p) hn).2.1
  apply w_Model_curve_0
  refine ⟨w.1, m_reads h2 w hp h18 hn hT (by omega) (fun S1 f1 a18 v1 => ⟨_, rfl, fun z => ?_, fun z => HR z S1 ⟨f1.1.wide (fun x hx => by omega), f1.2.1, f1.2.2, a18⟩⟩)⟩
  have v1 := v1 z
  have H3 := H3 z
  have H0 := H0 z
  have H1 := H1 z
  generalize rdR0 T n p = u at z
  generalize (rdA T n p).2.2.2 = P at v1 H3 H0 H1
  have eF : ∀ e, 0 ≤ e → e < 49 → txF P e = P e := fun e e0 e1 => if_pos ⟨e0, e1⟩
  have bF : ∀ e, 0 ≤ txF P e ∧ txF P e < p := fun e => by
    by_cases q : 0 ≤ e ∧ e < 49
    · have := v1 e q.1 q.2
      rw [eF e q.1 q.2]
      omega
    · rw [show txF P e = 0 from if_neg q]
      omega
  refine loopU (P := fun e S' => At (d + 6) 200 c200_13 [(0, (2, D)), (2, (0, e))] [] S' Q) (I := fun e S' => 0 ≤ e ∧ Md (fun x => x = D + 22) S1 S' ∧ ∀ x, 0 ≤ x → x < e → zG S' (D + 22) x = txF P x) 49 ?_ ?_ 0 S1 (by omega) ⟨by omega, Md.refl _ _, fun x a b => by omega⟩
  · rintro e S2 he ⟨e0, m2, v2⟩ hk
    have w2 : DW S2 D := f1.2.1.md m2 (by omega)
    apply w_Model_curve_13
    rw [w2.x_power.1, w2.x_power.2.1, w2.x_power.2.2, w2.x_fresh.1, w2.x_fresh.2.1, w2.x_fresh.2.2, m2.G (a := D + 18) (by omega)]
    refine ⟨fun y => by omega, fun _ => ⟨w2.1, w2.1, ⟨rfl, by omega, by omega⟩, ⟨rfl, by omega, by omega⟩, ?_⟩⟩
    rintro _ rfl _ rfl
    rw [w32_id (by omega) (by omega)]
    refine hk _ ⟨by omega, m2.tr (Md.zS _ _ _ _), fun x x0 x1 => ?_⟩
    rw [zG_zS]
    by_cases q : x = e
    · rw [if_pos ⟨rfl, q⟩, q, (v1 e e0 he).1, eF e e0 he]
    · rw [if_neg (fun y => q y.2)]
      exact v2 x x0 (by omega)
  · rintro S2 ⟨-, m2, v2⟩
    have w2 : DW S2 D := f1.2.1.md m2 (by omega)
    have c2 : crF D S S2 := ⟨(f1.1.wide (fun x hx => by omega)).tr (m2.wide (fun x hx => by omega)), w2, fun j hj => by rw [m2.G (by omega)]; exact f1.2.2 j hj, by rw [m2.G (by omega)]; exact a18⟩
    have eh : hgt (zG S2 (D + 22)) = hgt (txF P) := hgt_congr v2
    apply w_Model_curve_13
    rw [w2.x_fresh.1]
    refine ⟨fun _ => ⟨w2.1, w2.1, m_heightOf w2.x_fresh.2.1 w2.x_fresh.2.2 (fun y => ⟨_, rfl, fun x => absurd rfl x, fun _ => H3 (fun x => y (isCv_congr (fun e a b => (v2 e a b).symm) x)) S2 c2⟩) (fun y => ⟨_, rfl, fun _ => ?_, fun x => ?_⟩)⟩, fun y => absurd (Int.le_refl 49) y⟩
    · have cv : isCv (txF P) := isCv_congr v2 y
      rw [eh, w2.x_fresh.1]
      refine ⟨w2.1, w2.1, m_becomesCurve (F := txF P) w2 ((m2.G (by omega) 0).trans ((f1.2.2 0 (by omega)).trans hp)) h2 (by omega) w2.x_fresh.2.1 w2.x_fresh.2.2 ⟨cv.1, cv.2.1⟩ v2 bF (fun S3 N m3 w3 nw dN zN => ⟨_, rfl, H0 cv bF S2 S3 N c2 m3 w3 nw dN zN⟩) (fun S3 b3 => ⟨_, rfl, H1 cv bF S2 S3 c2 b3⟩)⟩
    · have := y.1
      omega
/-- degrees by weights: y counts w -/
theorem lwN_wt {p n t w K : Int} {C W : Int → Int → Int} (hw : 0 ≤ w) (sC : ∀ j e, 0 ≤ j → j < n → w * (n - j) < e → C j e = 0) (sW : ∀ b x, K - w * b < x → W b x = 0) : ∀ (s : Nat) (b x : Int), K - w * b < x → lwN p n C t s W b x = 0
  | 0, b, x, hx => sW b x hx
  | s + 1, b, x, hx => by
    have ih := lwN_wt (p := p) (t := t) hw sC sW s
    show lwS p n C (lwN p n C t s W) (t - s) b x = 0
    unfold lwS
    split
    · rfl
    · rw [ih b x hx]
      split
      · rename_i q
        rw [cnv_deg (da := w * (t - s - b)) (db := K - w * (t - s)) (fun e he => sC _ e (by omega) (by omega) (by rw [show n - (b - (t - ↑s - n)) = t - ↑s - b by omega]; exact he)) (fun e he => ih _ e he) x (by rw [show w * (t - ↑s - b) + (K - w * (t - ↑s)) = K - w * b by rw [Int.mul_sub]; omega]; exact hx)]
        rfl
      · rfl
theorem m_element {d : Nat} {D n p m s : Int} {T : Int → Int} {C : Int → Int → Int} {S : Hp} {Q : Vl → Hp → Prop} (h2 : 2 ≤ p ∧ p ≤ 7) (w : DW S D) (hp : zG S D 0 = p) (hN : zG S D 1 = n) (hn : n = 0 ∨ (2 ≤ n ∧ n ≤ 4)) (hC : ∀ k, 0 ≤ k → k < 7 * n → zG S (D + 1) k = C (k / 7) (k % 7)) (bC : ∀ j e, 0 ≤ C j e ∧ C j e < p) (sC : ∀ j e, (e < 0 ∨ 6 < e) → C j e = 0) (zC : ∀ j e, n ≤ j → C j e = 0) (wC : ∀ j e, 0 ≤ j → j < n → (7 - n) * (n - j) < e → C j e = 0) (h18 : zG S D 18 = m) (hm : 0 ≤ m ∧ m ≤ 100) (hT : ∀ x, 0 ≤ x → x < m → zG S (D + 13) x = T x) (HN : n = 0 → Q (0, -2) S) (HS : n ≠ 0 → ¬ (0 ≤ s ∧ s < 6) → Q (0, -1) S) (HR : n ≠ 0 → 0 ≤ s ∧ s < 6 → rdR0 T m p ≠ 0 → ∀ S', crF D S S' → Q (0, rdR0 T m p) S') (H1 : n ≠ 0 → 0 ≤ s ∧ s < 6 → rdR0 T m p = 0 → (∀ j i, 0 ≤ txW (rdA T m p).2.2.2 j i ∧ txW (rdA T m p).2.2.2 j i < p) → ∀ S1 S', crF D S S1 → shR D s 0 0 (lwN p n C 6 (7 - n).toNat (txW (rdA T m p).2.2.2)) S1 S' → Q (0, 1) S') : Ev (d + 6) 252 [(2, D), (0, s)] S Q := by
  have hb := (rdA_bd (T := T) (p := p) hm).2.1
  have d6 := (rdA_bd (T := T) (p := p) hm).2.2
  apply w_Model_element_0
  rw [hN]
  refine ⟨w.1, fun n0 => m_isShelf ⟨_, rfl, fun hz => ⟨w.1, ?_⟩, fun hz => HS n0 (i2 hz)⟩, fun n0 => HN (by omega)⟩
  have hs := i1 hz
  have hn : 2 ≤ n ∧ n ≤ 4 := by omega
  refine m_reads h2 w hp h18 hm hT (by omega) (fun S1 f1 a18 v1 => ⟨_, rfl, fun z => ?_, fun z => HR n0 hs z S1 ⟨f1.1.wide (fun x hx => by omega), f1.2.1, f1.2.2, a18⟩⟩)
  have v1 := v1 z
  have H1 := H1 n0 hs z
  generalize rdR0 T m p = u at z
  generalize (rdA T m p).2.2.2 = P at v1 H1 d6
  have c1 : crF D S S1 := ⟨f1.1.wide (fun x hx => by omega), f1.2.1, f1.2.2, a18⟩
  have w1 := f1.2.1
  have bW : ∀ j i, 0 ≤ txW P j i ∧ txW P j i < p := fun j i => by
    by_cases q : 0 ≤ j ∧ j < 7 ∧ 0 ≤ i ∧ i < 7
    · have := v1 (7 * j + i) (by omega) (by omega)
      rw [show txW P j i = P (7 * j + i) from if_pos q]
      omega
    · rw [show txW P j i = 0 from if_neg q]
      omega
  rw [w1.x_work.1]
  refine ⟨w1.1, w1.1, m_zeroB (w := 100) (n := 7) (p := p) w1.x_work.2.1 w1.x_work.2.2 (by omega) (by omega) (by omega) (by omega) (fun S2 m2 b2 => ⟨rfl, ?_⟩)⟩
  refine loopU (P := fun j S' => At (d + 6) 252 c252_40 [(0, (2, D)), (1, (0, s)), (3, (0, j))] [] S' Q) (I := fun j S' => 0 ≤ j ∧ Md (fun x => x = D + 41) S1 S' ∧ BR S' (D + 41) 100 7 p (fun b x => if b < j then txW P b x else 0)) 7 ?_ ?_ 0 S2 (by omega) ⟨by omega, m2, b2.re (fun b x b0 b1 => ?_) (fun b x hx => ?_) (fun b x => ?_)⟩
  · rintro j S3 hj ⟨j0, m3, b3⟩ hk
    apply w_Model_element_40
    refine ⟨fun y => by omega, fun _ => ?_⟩
    refine loopU (P := fun i S' => At (d + 6) 252 c252_49 [(0, (2, D)), (1, (0, s)), (3, (0, j)), (4, (0, i))] [] S' Q) (I := fun i S' => 0 ≤ i ∧ Md (fun x => x = D + 41) S1 S' ∧ BR S' (D + 41) 100 7 p (fun b x => if b < j ∨ (b = j ∧ x < i) then txW P b x else 0)) 7 ?_ ?_ 0 S3 (by omega) ⟨by omega, m3, b3.re (fun b x b0 b1 => ?_) (fun b x hx => ?_) (fun b x => ?_)⟩
    · rintro i S4 hi ⟨i0, m4, b4⟩ hk2
      have w4 : DW S4 D := w1.md m4 (by omega)
      apply w_Model_element_49
      rw [w4.x_power.1, w4.x_power.2.1, w4.x_power.2.2, w4.x_work.1, w4.x_work.2.1, w4.x_work.2.2, w32_id (x := 7 * j) (by omega) (by omega), w32_id (x := 7 * j + i) (by omega) (by omega), w32_id (x := 100 * j) (by omega) (by omega), w32_id (x := 100 * j + i) (by omega) (by omega), m4.G (a := D + 18) (by omega), (v1 (7 * j + i) (by omega) (by omega)).1]
      refine ⟨fun y => by omega, fun _ => ⟨w4.1, w4.1, ⟨rfl, by omega, by omega⟩, ⟨rfl, by omega, by omega⟩, ?_⟩⟩
      rintro _ rfl _ rfl
      rw [w32_id (by omega) (by omega)]
      have e : txW P j i = P (7 * j + i) := if_pos ⟨j0, hj, i0, hi⟩
      have b5 := b4.put (k := j) (i := i) (v := P (7 * j + i)) j0 hj i0 (by omega) (by rw [← e]; exact bW j i)
      refine hk2 _ ⟨by omega, m4.tr (Md.zS _ _ _ _), b5.congr (fun b x => ?_)⟩
      by_cases q : b = j
      · rw [if_pos q]
        by_cases q2 : x = i
        · rw [if_pos q2, if_pos (by omega), q, q2, e]
        · rw [if_neg q2, q]
          by_cases q3 : x < i
          · rw [if_pos (by omega), if_pos (by omega)]
          · rw [if_neg (by omega), if_neg (by omega)]
      · rw [if_neg q]
        by_cases q3 : b < j
        · rw [if_pos (by omega), if_pos (by omega)]
        · rw [if_neg (by omega), if_neg (by omega)]
    · rintro S4 ⟨-, m4, b4⟩
      apply w_Model_element_49
      refine ⟨fun _ => ?_, fun y => absurd (Int.le_refl 7) y⟩
      rintro _ rfl
      rw [w32_id (by omega) (by omega)]
      refine hk _ ⟨by omega, m4, b4.congr (fun b x => ?_)⟩
      by_cases q : b < j + 1
      · rw [if_pos q]
        by_cases q2 : b < j ∨ (b = j ∧ x < 7)
        · rw [if_pos q2]
        · rw [if_neg q2]
          exact (if_neg (by omega)).symm
      · rw [if_neg q, if_neg (by omega)]
    · by_cases q : b < j
      · rw [if_pos q, if_pos (Or.inl q)]
      · rw [if_neg q]
        by_cases q2 : b < j ∨ (b = j ∧ x < 0)
        · rw [if_pos q2]
          exact (if_neg (by omega)).symm
        · rw [if_neg q2]
    · split
      · exact if_neg (by omega)
      · rfl
    · split
      · exact bW b x
      · omega
  · rintro S3 ⟨-, m3, b3⟩
    have w3 : DW S3 D := w1.md m3 (by omega)
    have p3 : zG S3 D 0 = p := (m3.G (by omega) 0).trans ((f1.2.2 0 (by omega)).trans hp)
    have n3 : zG S3 D 1 = n := (m3.G (by omega) 1).trans ((f1.2.2 1 (by omega)).trans hN)
    have b3' : BR S3 (D + 41) 100 7 p (txW P) := b3.re (fun b x b0 b1 => by rw [if_pos b1]) (fun b x hx => if_neg (by omega)) bW
    have tz : ∀ b x, 6 < x → txW P b x = 0 := fun b x hx => if_neg (by omega)
    have tb : ∀ b x, 6 < b → txW P b x = 0 := fun b x hx => if_neg (by omega)
    have twt : ∀ b x, 6 * (7 - n) - (7 - n) * b < x → txW P b x = 0 := fun b x hx => by
      by_cases q : 0 ≤ b ∧ b < 7 ∧ 0 ≤ x ∧ x < 7
      · rw [show txW P b x = P (7 * b + x) from if_pos q]
        refine d6 _ (by omega) (by omega) ?_
        unfold dgS
        rw [show (7 * b + x) % 7 = x by omega, show (7 * b + x) / 7 = b by omega]
        refine Decidable.byContradiction (fun y => ?_)
        have hw : 3 ≤ 7 - n := by omega
        have : (7 - n) * b ≤ (7 - n) * (6 - x) := Int.mul_le_mul_of_nonneg_left (by omega) (by omega)
        have e2 : (7 - n) * (6 - x) = 6 * (7 - n) - (7 - n) * x := by rw [Int.mul_sub]; omega
        have e3 : x ≤ (7 - n) * x := by
          have : 1 * x ≤ (7 - n) * x := Int.mul_le_mul_of_nonneg_right (by omega) (by omega)
          omega
        omega
      · exact if_neg q
    apply w_Model_element_40
    refine ⟨fun _ => ⟨w3.1, m_lowersWork (C := C) (W := txW P) (t := 6) (dg := 6) w3 p3 h2 n3 hn rfl (fun k k0 k1 => by rw [m3.G (by omega), f1.1.G (by omega)]; exact hC k k0 k1) bC sC zC b3' (by omega) (fun b x hx => tz b x hx) (fun S4 m4 b4 => ⟨rfl, by rw [m4.K]; exact w3.1, ?_⟩)⟩, fun y => absurd (Int.le_refl 7) y⟩
    rw [show (6 + 1 - n).toNat = (7 - n).toNat by omega] at b4
    have w4 : DW S4 D := w3.md m4 (by omega)
    rintro _ rfl
    refine ⟨w4.1, ?_⟩
    rintro _ rfl
    have f5 : nfR D S1 (zS (zS S4 D 58 0) D 59 0) := ⟨(((m3.wide (fun x hx => Or.inr hx)).tr (m4.wide (fun x hx => Or.inr hx))).tr ((Md.zS _ _ _ _).wide (fun x hx => Or.inl hx))).tr ((Md.zS _ _ _ _).wide (fun x hx => Or.inl hx)), (w4.sc (by decide)).sc (by decide), fun i a b => by rw [zG_zS_ne _ (Or.inr b), zG_zS_ne _ (Or.inr a), m4.G (by omega), m3.G (by omega)]⟩
    have p1 : zG S1 D 0 = p := (f1.2.2 0 (by omega)).trans hp
    have n1 : zG S1 D 1 = n := (f1.2.2 1 (by omega)).trans hN
    have b5 : BR (zS (zS S4 D 58 0) D 59 0) (D + 41) 100 7 p (lwN p n C 6 (7 - n).toNat (txW P)) := (b4.keep (Md.zS _ _ _ _) (by omega)).keep (Md.zS _ _ _ _) (by omega)
    have z5 : ∀ b x, n ≤ b → lwN p n C 6 (7 - n).toNat (txW P) b x = 0 := fun b x hx => lwN_zero tb _ b x (by omega)
    refine ⟨w4.1, m_settlesF (c := 0) (m := 0) h2 hn (by omega) hs (by omega) f5.2.1 ((f5.2.2 0 (by omega) (by omega)).trans p1) ((f5.2.2 1 (by omega) (by omega)).trans n1) (by rw [zG_zS_ne _ (Or.inr (by omega)), zG_zS_at]) (zG_zS_at _ _ _ _) b5 z5 f5 ⟨fun ft S' r => ⟨_, rfl, H1 bW S1 S' c1 r⟩, fun ft => absurd ⟨by show ((0 : Nat) : Int) ≤ 20; decide, fun j j0 j1 i hi => ?_⟩ ft⟩⟩
    show lwN p n C 6 (7 - n).toNat (txW P) j i = 0
    refine lwN_wt (w := 7 - n) (K := 6 * (7 - n)) (by omega) wC twt _ j i ?_
    have : 0 ≤ (7 - n) * j := Int.mul_nonneg (by omega) j0
    omega
  · by_cases q : b < 0
    · omega
    · rw [if_neg q]
  · split
    · exact if_neg (by omega)
    · rfl
  · split
    · exact bW b x
    · omega
