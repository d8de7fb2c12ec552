/-! Algebra: products in the radical. -/
/-- c_j c_l in front of b_i, by the table t -/
def rcS (p n : Int) (nb t : Int → Int) (j l i : Int) : Int := sm n.toNat (fun a => sm n.toNat (fun b => nb (4 * j + a) * nb (4 * l + b) % p * t ((4 * a + b) * 4 + i))) % p
/-- what is in front of t b_a, as the c_i with b_i in front are taken off, from above -/
def rcT (p n : Int) (nb nil : Int → Int) (T : Int → Int) : Nat → Int → Int
  | 0 => T
  | s + 1 => fun a => if 0 ≤ a ∧ a < n - 1 - s ∧ nil (n - 1 - s) ≠ 0 then (rcT p n nb nil T s a + (p - nb (4 * (n - 1 - s) + a)) % p * rcT p n nb nil T s (n - 1 - s)) % p else rcT p n nb nil T s a
def rcF (p n : Int) (nb nil low high : Int → Int) (j l i : Int) : Int := if nil i = 0 then rcT p n nb nil (rcS p n nb high j l) (n - 1 - i).toNat i else rcS p n nb low j l i
theorem rcS_bd {p n j l i : Int} {nb t : Int → Int} (hp : 2 ≤ p) : 0 ≤ rcS p n nb t j l i ∧ rcS p n nb t j l i < p := ⟨Int.emod_nonneg _ (by omega), Int.emod_lt_of_pos _ (by omega)⟩
theorem rcT_bd {p n : Int} {nb nil T : Int → Int} (hp : 2 ≤ p) (hT : ∀ i, 0 ≤ T i ∧ T i < p) : ∀ (s : Nat) (a : Int), 0 ≤ rcT p n nb nil T s a ∧ rcT p n nb nil T s a < p
  | 0, a => hT a
  | s + 1, a => by
    show 0 ≤ (if 0 ≤ a ∧ a < n - 1 - s ∧ nil (n - 1 - s) ≠ 0 then (rcT p n nb nil T s a + (p - nb (4 * (n - 1 - s) + a)) % p * rcT p n nb nil T s (n - 1 - s)) % p else rcT p n nb nil T s a) ∧ (if 0 ≤ a ∧ a < n - 1 - s ∧ nil (n - 1 - s) ≠ 0 then (rcT p n nb nil T s a + (p - nb (4 * (n - 1 - s) + a)) % p * rcT p n nb nil T s (n - 1 - s)) % p else rcT p n nb nil T s a) < p
    split
    · exact ⟨Int.emod_nonneg _ (by omega), Int.emod_lt_of_pos _ (by omega)⟩
    · exact rcT_bd hp hT s a
theorem rcF_bd {p n j l i : Int} {nb nil low high : Int → Int} (hp : 2 ≤ p) : 0 ≤ rcF p n nb nil low high j l i ∧ rcF p n nb nil low high j l i < p := by
  unfold rcF
  split
  · exact rcT_bd hp (fun i => rcS_bd hp) _ _
  · exact rcS_bd hp
set_option maxHeartbeats 2000000 in
theorem s_multiplyRadical {d : Nat} {G n p j l : Int} {S : Hp} {Q : Vl → Hp → Prop} (h : HW S G) (hu : Hu S G n p) (hn : 2 ≤ n ∧ n ≤ 4) (hp : 2 ≤ p ∧ p ≤ 7) (hj : 0 ≤ j ∧ j < n) (hl : 0 ≤ l ∧ l < n) (hlo : ∀ x, 0 ≤ x → x < 64 → 0 ≤ zG S (G + 1) x ∧ zG S (G + 1) x < 10) (hhi : ∀ x, 0 ≤ x → x < 64 → 0 ≤ zG S (G + 2) x ∧ zG S (G + 2) x < 10) (hnb : ∀ r i, 0 ≤ r → r < n → 0 ≤ i → i < n → 0 ≤ zG S (G + 7) (4 * r + i) ∧ zG S (G + 7) (4 * r + i) < p) (H : ∀ S', Md (fun x => x = G + 13 ∨ x = G + 14) S S' → (∀ i, 0 ≤ i → i < n → zG S' (G + 13) i = rcF p n (zG S (G + 7)) (zG S (G + 8)) (zG S (G + 1)) (zG S (G + 2)) j l i) → Q (3, 0) S') : Ev d 16 [(2, G), (0, j), (0, l)] S Q := by
  apply w_Algebra_multiplyRadical_0
  generalize hNB : zG S (G + 7) = nb at *
  generalize hLO : zG S (G + 1) = lo at *
  generalize hHI : zG S (G + 2) = hg at *
  generalize hNI : zG S (G + 8) = nil at *
  refine loopU (P := fun i S' => At d 16 c16_2 [(0, (2, G)), (1, (0, j)), (2, (0, l)), (3, (0, i))] [] S' Q) (I := fun i S' => 0 ≤ i ∧ Md (fun x => x = G + 13 ∨ x = G + 14) S S' ∧ ∀ e, 0 ≤ e → e < i → zG S' (G + 13) e = rcS p n nb lo j l e ∧ zG S' (G + 14) e = rcS p n nb hg j l e) n ?_ ?_ 0 S (by omega) ⟨by omega, Md.refl _ _, fun e e0 e1 => by omega⟩
  · rintro i S1 hi ⟨i0, m1, v1⟩ hk
    have h1 : HW S1 G := h.keep m1 (by omega)
    have u1 : Hu S1 G n p := hu.keep m1 (by omega)
    apply w_Algebra_multiplyRadical_2
    rw [u1.1]
    refine ⟨h1.k, fun hc => by omega, fun _ => ?_⟩
    refine loopU2 (α := Int) (β := Int) (P := fun a v w => At d 16 c16_19 [(0, (2, G)), (1, (0, j)), (2, (0, l)), (3, (0, i)), (4, (0, v)), (5, (0, w)), (6, (0, a))] [] S1 Q) (I := fun a v w => 0 ≤ a ∧ (0 ≤ v ∧ v ≤ 400 * a) ∧ (0 ≤ w ∧ w ≤ 400 * a) ∧ v = sm a.toNat (fun a => sm n.toNat (fun b => nb (4 * j + a) * nb (4 * l + b) % p * lo ((4 * a + b) * 4 + i))) ∧ w = sm a.toNat (fun a => sm n.toNat (fun b => nb (4 * j + a) * nb (4 * l + b) % p * hg ((4 * a + b) * 4 + i)))) n ?_ ?_ 0 0 0 (by omega) ⟨by omega, by omega, by omega, rfl, rfl⟩
    · rintro a v w ha ⟨a0, hv, hw, ve, we⟩ hk2
      apply w_Algebra_multiplyRadical_19
      rw [u1.1]
      refine ⟨h1.k, fun hc => by omega, fun _ => ?_⟩
      refine loopU2 (α := Int) (β := Int) (P := fun b v w => At d 16 c16_31 [(0, (2, G)), (1, (0, j)), (2, (0, l)), (3, (0, i)), (4, (0, v)), (5, (0, w)), (6, (0, a)), (7, (0, b))] [] S1 Q) (I := fun b v' w' => 0 ≤ b ∧ (v ≤ v' ∧ v' ≤ v + 100 * b) ∧ (w ≤ w' ∧ w' ≤ w + 100 * b) ∧ v' = v + sm b.toNat (fun b => nb (4 * j + a) * nb (4 * l + b) % p * lo ((4 * a + b) * 4 + i)) ∧ w' = w + sm b.toNat (fun b => nb (4 * j + a) * nb (4 * l + b) % p * hg ((4 * a + b) * 4 + i))) n ?_ ?_ 0 v w (by omega) ⟨by omega, by omega, by omega, (Int.add_zero v).symm, (Int.add_zero w).symm⟩
      · rintro b v' w' hb ⟨b0, hv', hw', ve', we'⟩ hk3
        have n1 := hnb j a hj.1 hj.2 a0 ha
        have n2 := hnb l b hl.1 hl.2 b0 hb
        have c0 := mul_b (x := nb (4 * j + a)) (y := nb (4 * l + b)) (by omega) (by omega)
        have c1 := Int.emod_nonneg (nb (4 * j + a) * nb (4 * l + b)) (show p ≠ 0 by omega)
        have c2 := Int.emod_lt_of_pos (nb (4 * j + a) * nb (4 * l + b)) (show 0 < p by omega)
        have c3 := mul_b (x := nb (4 * j + a) * nb (4 * l + b) % p) ⟨c1, by omega⟩ (hlo ((4 * a + b) * 4 + i) (by omega) (by omega))
        have c4 := mul_b (x := nb (4 * j + a) * nb (4 * l + b) % p) ⟨c1, by omega⟩ (hhi ((4 * a + b) * 4 + i) (by omega) (by omega))
        have e7 : ∀ x, zG S1 (G + 7) x = nb x := fun x => by rw [m1.G (by omega), hNB]
        have e1 : ∀ x, zG S1 (G + 1) x = lo x := fun x => by rw [m1.G (by omega), hLO]
        have e2 : ∀ x, zG S1 (G + 2) x = hg x := fun x => by rw [m1.G (by omega), hHI]
        apply w_Algebra_multiplyRadical_31
        rw [u1.1, u1.2, h1.f6, h1.f0, h1.f1, w32_id (x := 4 * j) (by omega) (by omega), w32_id (x := 4 * j + a) (by omega) (by omega), w32_id (x := 4 * l) (by omega) (by omega), w32_id (x := 4 * l + b) (by omega) (by omega), w32_id (x := 4 * a) (by omega) (by omega), w32_id (x := 4 * a + b) (by omega) (by omega), w32_id (x := (4 * a + b) * 4) (by omega) (by omega), w32_id (x := (4 * a + b) * 4 + i) (by omega) (by omega), e7, e7, e1, e2, w32_id (x := nb (4 * j + a) * nb (4 * l + b)) (by omega) (by omega), Int.tmod_eq_emod_of_nonneg c0.1]
        refine ⟨h1.k, fun hc => by omega, fun _ => ⟨h1.k, ⟨h1.r6.1, by omega, by rw [h1.r6.2]; omega⟩, h1.k, ⟨h1.r6.1, by omega, by rw [h1.r6.2]; omega⟩, h1.k, by omega, ?_⟩⟩
        intro x2 hx2
        rw [hx2]
        clear hx2 x2
        refine ⟨h1.k, ⟨h1.r0.1, by omega, by rw [h1.r0.2]; omega⟩, ?_⟩
        intro x3 hx3
        refine ⟨h1.k, ⟨h1.r1.1, by omega, by rw [h1.r1.2]; omega⟩, ?_⟩
        rintro x4 hx4 _ rfl
        rw [w32_id (x := nb (4 * j + a) * nb (4 * l + b) % p * lo ((4 * a + b) * 4 + i)) (by omega) (by omega), w32_id (by omega) (by omega)] at hx3
        rw [w32_id (x := nb (4 * j + a) * nb (4 * l + b) % p * hg ((4 * a + b) * 4 + i)) (by omega) (by omega), w32_id (by omega) (by omega)] at hx4
        rw [w32_id (by omega) (by omega)]
        refine hk3 _ _ ⟨by omega, by omega, by omega, ?_, ?_⟩
        · rw [show (b + 1).toNat = b.toNat + 1 by omega, sm_succ, show ((b.toNat : Nat) : Int) = b by omega, hx3, ve']
          omega
        · rw [show (b + 1).toNat = b.toNat + 1 by omega, sm_succ, show ((b.toNat : Nat) : Int) = b by omega, hx4, we']
          omega
      · rintro v' w' ⟨-, hv', hw', ve', we'⟩
        apply w_Algebra_multiplyRadical_31
        rw [u1.1]
        refine ⟨h1.k, fun _ => ?_, fun hc => absurd (Int.le_refl n) hc⟩
        rintro _ rfl
        rw [w32_id (by omega) (by omega)]
        refine hk2 _ _ ⟨by omega, by omega, by omega, ?_, ?_⟩
        · rw [show (a + 1).toNat = a.toNat + 1 by omega, sm_succ, show ((a.toNat : Nat) : Int) = a by omega, ve', ve]
        · rw [show (a + 1).toNat = a.toNat + 1 by omega, sm_succ, show ((a.toNat : Nat) : Int) = a by omega, we', we]
    · rintro v w ⟨-, hv, hw, ve, we⟩
      apply w_Algebra_multiplyRadical_19
      rw [u1.1, u1.2, h1.f12]
      refine ⟨h1.k, fun _ => ⟨h1.k, h1.k, by omega, ⟨h1.r12.1, i0, by rw [h1.r12.2]; omega⟩, ?_⟩, fun hc => absurd (Int.le_refl n) hc⟩
      rintro _ rfl
      have m2 : Md (fun x => x = G + 13 ∨ x = G + 14) S1 (zS S1 (G + 13) i (v.tmod p)) := (Md.zS _ _ _ _).wide (fun x hx => Or.inl hx)
      have h2 : HW (zS S1 (G + 13) i (v.tmod p)) G := h1.keep m2 (by omega)
      have u2 : Hu (zS S1 (G + 13) i (v.tmod p)) G n p := u1.keep m2 (by omega)
      rw [u2.2, h2.f13]
      refine ⟨h2.k, h2.k, by omega, ⟨h2.r13.1, i0, by rw [h2.r13.2]; omega⟩, ?_⟩
      rintro _ rfl _ rfl
      rw [w32_id (by omega) (by omega)]
      refine hk _ ⟨by omega, (m1.tr m2).tr ((Md.zS _ _ _ _).wide (fun x hx => Or.inr hx)), fun e e0 e1 => ?_⟩
      by_cases q : e = i
      · rw [q, zG_zS_ne _ (Or.inl (by omega)), zG_zS_at, zG_zS_at]
        unfold rcS
        rw [← ve, ← we]
        exact ⟨Int.tmod_eq_emod_of_nonneg hv.1, Int.tmod_eq_emod_of_nonneg hw.1⟩
      · rw [zG_zS_ne _ (Or.inl (by omega)), zG_zS_ne _ (Or.inr q), zG_zS_ne _ (Or.inr q), zG_zS_ne _ (Or.inl (by omega))]
        exact v1 e e0 (by omega)
  · rintro S1 ⟨-, m1, v1⟩
    have h1 : HW S1 G := h.keep m1 (by omega)
    have u1 : Hu S1 G n p := hu.keep m1 (by omega)
    have tb := rcT_bd (p := p) (n := n) (nb := nb) (nil := nil) hp.1 (fun i => rcS_bd (p := p) (n := n) (nb := nb) (t := hg) (j := j) (l := l) (i := i) hp.1)
    apply w_Algebra_multiplyRadical_2
    rw [u1.1]
    refine ⟨h1.k, fun _ => ⟨h1.k, ?_⟩, fun hc => absurd (Int.le_refl n) hc⟩
    rintro _ rfl
    rw [w32_id (by omega) (by omega)]
    refine loopD (P := fun i S' => At d 16 c16_169 [(0, (2, G)), (3, (0, i))] [] S' Q) (I := fun i S' => i ≤ n - 1 ∧ Md (fun x => x = G + 13 ∨ x = G + 14) S S' ∧ (∀ e, 0 ≤ e → e < n → zG S' (G + 13) e = if i < e then rcF p n nb nil lo hg j l e else rcS p n nb lo j l e) ∧ ∀ e, 0 ≤ e → e < n → zG S' (G + 14) e = rcT p n nb nil (rcS p n nb hg j l) (n - 1 - i).toNat e) 0 ?_ ?_ (n - 1) S1 (by omega) ⟨by omega, m1, fun e e0 e1 => by rw [if_neg (by omega)]; exact (v1 e e0 e1).1, fun e e0 e1 => by rw [show (n - 1 - (n - 1)).toNat = 0 by omega]; exact (v1 e e0 e1).2⟩
    · rintro i S2 hi ⟨i1, m2, p2, t2⟩ hk
      have h2 : HW S2 G := h.keep m2 (by omega)
      have e8 : ∀ x, zG S2 (G + 8) x = nil x := fun x => by rw [m2.G (by omega), hNI]
      have et : (n - 1 - (i - 1)).toNat = (n - 1 - i).toNat + 1 := by omega
      have ei : n - 1 - ((n - 1 - i).toNat : Int) = i := by omega
      apply w_Algebra_multiplyRadical_169
      rw [h2.f7, h2.f12, h2.f13, e8]
      refine ⟨fun hc => by omega, fun _ => ⟨h2.k, ⟨h2.r7.1, hi, by rw [h2.r7.2]; omega⟩, fun hq => ?_, fun hq => ⟨h2.k, h2.k, ⟨h2.r13.1, hi, by rw [h2.r13.2]; omega⟩, ⟨h2.r12.1, hi, by rw [h2.r12.2]; omega⟩, ?_⟩⟩⟩
      · refine loopU (P := fun a S' => At d 16 c16_200 [(0, (2, G)), (3, (0, i)), (4, (0, a))] [] S' Q) (I := fun a S' => 0 ≤ a ∧ Md (fun x => x = G + 14) S2 S' ∧ ∀ e, 0 ≤ e → e < n → zG S' (G + 14) e = if e < a then rcT p n nb nil (rcS p n nb hg j l) (n - 1 - (i - 1)).toNat e else rcT p n nb nil (rcS p n nb hg j l) (n - 1 - i).toNat e) i ?_ ?_ 0 S2 (by omega) ⟨by omega, Md.refl _ _, fun e e0 e1 => by rw [if_neg (by omega)]; exact t2 e e0 e1⟩
        · rintro a S3 ha ⟨a0, m3, t3⟩ hk2
          have h3 : HW S3 G := h2.keep m3 (by omega)
          have u3 : Hu S3 G n p := (hu.keep m2 (by omega)).keep m3 (by omega)
          have e7 : ∀ x, zG S3 (G + 7) x = nb x := fun x => by rw [m3.G (by omega), m2.G (by omega), hNB]
          have ta := t3 a a0 (by omega)
          rw [if_neg (by omega)] at ta
          have ti := t3 i hi (by omega)
          rw [if_neg (by omega)] at ti
          have b1 := tb (n - 1 - i).toNat a
          have b2 := tb (n - 1 - i).toNat i
          have b3 := hnb i a hi (by omega) a0 (by omega)
          have b4 := Int.emod_nonneg (p - nb (4 * i + a)) (show p ≠ 0 by omega)
          have b5 := Int.emod_lt_of_pos (p - nb (4 * i + a)) (show 0 < p by omega)
          have b6 := mul_b (x := (p - nb (4 * i + a)) % p) (y := rcT p n nb nil (rcS p n nb hg j l) (n - 1 - i).toNat i) (by omega) (by omega)
          apply w_Algebra_multiplyRadical_200
          rw [u3.2, h3.f6, h3.f13, w32_id (x := 4 * i) (by omega) (by omega), w32_id (x := 4 * i + a) (by omega) (by omega), e7, ta, ti]
          refine ⟨fun hc => by omega, fun _ => ⟨h3.k, h3.k, ⟨h3.r6.1, by omega, by rw [h3.r6.2]; omega⟩, h3.k, by omega, ?_⟩⟩
          intro x1 hx1
          rw [w32_id (by omega) (by omega), Int.tmod_eq_emod_of_nonneg (by omega)] at hx1
          subst hx1
          rw [w32_id (x := (p - nb (4 * i + a)) % p * rcT p n nb nil (rcS p n nb hg j l) (n - 1 - i).toNat i) (by omega) (by omega), w32_id (x := rcT p n nb nil (rcS p n nb hg j l) (n - 1 - i).toNat a + (p - nb (4 * i + a)) % p * rcT p n nb nil (rcS p n nb hg j l) (n - 1 - i).toNat i) (by omega) (by omega), Int.tmod_eq_emod_of_nonneg (by omega)]
          refine ⟨h3.k, h3.k, ⟨h3.r13.1, a0, by rw [h3.r13.2]; omega⟩, h3.k, ⟨h3.r13.1, hi, by rw [h3.r13.2]; omega⟩, h3.k, by omega, ⟨h3.r13.1, a0, by rw [h3.r13.2]; omega⟩, ?_⟩
          rintro _ rfl _ rfl
          rw [w32_id (by omega) (by omega)]
          refine hk2 _ ⟨by omega, m3.tr (Md.zS _ _ _ _), fun e e0 e1 => ?_⟩
          by_cases q : e = a
          · rw [q, zG_zS_at, if_pos (by omega), et]
            show _ = (if 0 ≤ a ∧ a < n - 1 - ((n - 1 - i).toNat : Int) ∧ nil (n - 1 - ((n - 1 - i).toNat : Int)) ≠ 0 then (rcT p n nb nil (rcS p n nb hg j l) (n - 1 - i).toNat a + (p - nb (4 * (n - 1 - ((n - 1 - i).toNat : Int)) + a)) % p * rcT p n nb nil (rcS p n nb hg j l) (n - 1 - i).toNat (n - 1 - ((n - 1 - i).toNat : Int))) % p else rcT p n nb nil (rcS p n nb hg j l) (n - 1 - i).toNat a)
            rw [ei, if_pos ⟨a0, ha, hq⟩]
          · rw [zG_zS_ne _ (Or.inr q), t3 e e0 e1]
            by_cases q2 : e < a
            · rw [if_pos q2, if_pos (by omega)]
            · rw [if_neg q2, if_neg (by omega)]
        · rintro S3 ⟨-, m3, t3⟩
          apply w_Algebra_multiplyRadical_200
          refine ⟨fun _ => ?_, fun hc => absurd (Int.le_refl i) hc⟩
          apply w_Algebra_multiplyRadical_264
          rintro _ rfl
          rw [w32_id (by omega) (by omega)]
          refine hk _ ⟨by omega, m2.tr (m3.wide (fun x hx => Or.inr hx)), fun e e0 e1 => ?_, fun e e0 e1 => ?_⟩
          · rw [m3.G (by omega), p2 e e0 e1]
            by_cases q : e = i
            · rw [if_neg (by omega), if_pos (by omega), q]
              unfold rcF
              rw [if_neg hq]
            · by_cases q2 : i < e
              · rw [if_pos q2, if_pos (by omega)]
              · rw [if_neg q2, if_neg (by omega)]
          · rw [t3 e e0 e1]
            by_cases q : e < i
            · rw [if_pos q]
            · rw [if_neg q, et]
              show _ = (if 0 ≤ e ∧ e < n - 1 - ((n - 1 - i).toNat : Int) ∧ nil (n - 1 - ((n - 1 - i).toNat : Int)) ≠ 0 then _ else _)
              rw [if_neg (by omega)]
      · rintro _ rfl
        apply w_Algebra_multiplyRadical_264
        rintro _ rfl
        rw [w32_id (by omega) (by omega)]
        have hq : nil i = 0 := Classical.not_not.mp hq
        refine hk _ ⟨by omega, m2.tr ((Md.zS _ _ _ _).wide (fun x hx => Or.inl hx)), fun e e0 e1 => ?_, fun e e0 e1 => ?_⟩
        · by_cases q : e = i
          · rw [q, zG_zS_at, t2 i hi (by omega), if_pos (by omega)]
            unfold rcF
            rw [if_pos hq]
          · rw [zG_zS_ne _ (Or.inr q), p2 e e0 e1]
            by_cases q2 : i < e
            · rw [if_pos q2, if_pos (by omega)]
            · rw [if_neg q2, if_neg (by omega)]
        · rw [zG_zS_ne _ (Or.inl (by omega)), t2 e e0 e1, et]
          show _ = (if 0 ≤ e ∧ e < n - 1 - ((n - 1 - i).toNat : Int) ∧ nil (n - 1 - ((n - 1 - i).toNat : Int)) ≠ 0 then _ else _)
          rw [if_neg (fun z => z.2.2 (by rw [ei]; exact hq))]
    · rintro S2 ⟨-, m2, p2, t2⟩
      apply w_Algebra_multiplyRadical_169
      refine ⟨fun _ => H S2 m2 (fun i i0 i1 => ?_), fun hc => absurd (show (0 : Int) - 1 < 0 by omega) hc⟩
      rw [p2 i i0 i1, if_pos (by omega)]
