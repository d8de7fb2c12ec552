/-! The model: findsEquation. -/
def bkQ (p : Int) (E : Int → Int → Int) : Nat → Int → Int → Int
  | 0 => fun i x => if i = 0 ∧ x = 0 then 1 else 0
  | r + 1 => fun i x => if 0 ≤ i ∧ i ≤ (r : Int) + 1 then sm (min i r + 1).toNat (fun k => cnv (bkH p r E (i - k)) (bkQ p E r k) x) % p else 0
theorem bkH_deg {p r e : Int} {E : Int → Int → Int} (dE : ∀ i l x, 0 ≤ i → i < 4 → 0 ≤ l → l < 4 → 30 + 6 * i < x → E (4 * i + l) x = 0) (hr : 0 ≤ r ∧ r ≤ 3) (he : 0 ≤ e ∧ 30 + 6 * r ≤ 42 + e) (h x : Int) (hx : 42 * h + e < x) : bkH p r E h x = 0 := by
  unfold bkH
  by_cases q : h < 0 ∨ r + 1 < h
  · rw [if_pos q]
  · rw [if_neg q]
    by_cases q0 : h = 0
    · rw [if_pos q0, if_neg (by omega)]
    · rw [if_neg q0]
      by_cases q1 : h = 1
      · rw [if_pos q1, dE r r x hr.1 (by omega) (by omega) (by omega) (by omega)]
        rfl
      · rw [if_neg q1, sm_zeros (fun i i0 i1 => cnv_deg (da := 30 + 6 * r) (db := 42 + 42 * ((h - 2).toNat : Int)) (dE r i · hr.1 (by omega) (by omega) (by omega)) (fun x hx => bkC_deg dE hr.2 _ i x hx) x (by omega))]
        rfl
theorem bkQ_deg {p : Int} {E : Int → Int → Int} (dE : ∀ i l x, 0 ≤ i → i < 4 → 0 ≤ l → l < 4 → 30 + 6 * i < x → E (4 * i + l) x = 0) : ∀ (r : Nat), r ≤ 3 → ∀ i x, 42 * i < x → bkQ p E r i x = 0
  | 0, _, i, x, hx => by
    show (if i = 0 ∧ x = 0 then (1 : Int) else 0) = 0
    rw [if_neg (by omega)]
  | r + 1, hr, i, x, hx => by
    show (if 0 ≤ i ∧ i ≤ (r : Int) + 1 then sm (min i r + 1).toNat (fun k => cnv (bkH p r E (i - k)) (bkQ p E r k) x) % p else 0) = 0
    by_cases q : 0 ≤ i ∧ i ≤ (r : Int) + 1
    · rw [if_pos q, sm_zeros (fun k k0 k1 => cnv_deg (da := 42 * (i - k)) (db := 42 * k) (fun x hx => bkH_deg (e := 0) dE (by omega) (by omega) _ x (by omega)) (fun x hx => bkQ_deg dE r (by omega) k x hx) x (by omega))]
      rfl
    · rw [if_neg q]
set_option maxHeartbeats 2000000 in
theorem m_findsEquation {d : Nat} {D p n : Int} {S : Hp} {E : Int → Int → Int} {Q : Vl → Hp → Prop} (h : DW S D) (hp : zG S D 0 = p) (h2 : 2 ≤ p ∧ p ≤ 7) (hn : 0 ≤ n ∧ n ≤ 4) (hE : BR S (D + 23) 60 16 p E) (dE : ∀ i l x, 0 ≤ i → i < 4 → 0 ≤ l → l < 4 → 30 + 6 * i < x → E (4 * i + l) x = 0) (H : ∀ S', Md (fun x => D + 24 ≤ x ∧ x ≤ D + 28) S S' → BR S' (D + 25) 200 5 p (bkQ p E n.toNat) → Q (3, 0) S') : Ev (d + 3) 195 [(2, D), (0, n)] S Q := by
  apply w_Model_findsEquation_0
  rw [h.x_equation.1]
  refine ⟨h.1, h.1, m_zeroB (w := 200) (n := 5) (p := p) h.x_equation.2.1 h.x_equation.2.2 (by omega) (by omega) (by omega) (by omega) (fun S1 m1 b1 => ⟨rfl, ?_⟩)⟩
  have w1 : DW S1 D := h.md m1 (by omega)
  rw [w1.x_equation.1, w1.x_equation.2.1, w1.x_equation.2.2]
  refine ⟨w1.1, ⟨rfl, by omega, by omega⟩, ?_⟩
  rintro _ rfl
  have M2 : Md (fun x => D + 24 ≤ x ∧ x ≤ D + 28) S (zS S1 (D + 25) 0 1) := (m1.wide (fun x hx => by omega)).tr ((Md.zS S1 (D + 25) 0 1).wide (fun x hx => by omega))
  have b2 : BR (zS S1 (D + 25) 0 1) (D + 25) 200 5 p (bkQ p E 0) := (b1.put0 (by omega) h2.1 (fun _ => rfl)).congr (fun b x => by
    show _ = if b = 0 ∧ x = 0 then (1 : Int) else 0
    by_cases q : b = 0
    · rw [if_pos q]
      by_cases q2 : x = 0
      · rw [if_pos q2, if_pos ⟨q, q2⟩]
      · rw [if_neg q2, if_neg (fun z => q2 z.2)]
    · rw [if_neg q, if_neg (fun z => q z.1)])
  generalize zS S1 (D + 25) 0 1 = S2 at *
  clear m1 b1 w1
  refine loopU (P := fun r S' => At (d + 3) 195 c195_17 [(0, (2, D)), (1, (0, n)), (2, (0, r))] [] S' Q) (I := fun r S' => 0 ≤ r ∧ Md (fun x => D + 24 ≤ x ∧ x ≤ D + 28) S S' ∧ BR S' (D + 25) 200 5 p (bkQ p E r.toNat)) n ?_ ?_ 0 S2 (by omega) ⟨by omega, M2, b2⟩
  · rintro r S3 hr ⟨r0, M3, b3⟩ hk
    have w3 : DW S3 D := h.md M3 (by omega)
    have p3 : zG S3 D 0 = p := (M3.G (by omega) 0).trans hp
    apply w_Model_findsEquation_17
    refine ⟨fun hc => by omega, fun _ => ⟨w3.1, m_findsHeads w3 p3 h2 (by omega) (hE.keep M3 (by omega)) dE (fun S4 m4 c4 => ⟨rfl, ?_⟩)⟩⟩
    have w4 : DW S4 D := w3.md m4 (by omega)
    rw [w4.x_longer.1]
    refine ⟨w4.1, w4.1, m_zeroB (w := 200) (n := 5) (p := p) w4.x_longer.2.1 w4.x_longer.2.2 (by omega) (by omega) (by omega) (by omega) (fun S5 m5 l5 => ⟨rfl, ?_⟩)⟩
    have M5 : Md (fun x => D + 24 ≤ x ∧ x ≤ D + 28) S S5 := (M3.tr (m4.wide (fun x hx => by omega))).tr (m5.wide (fun x hx => by omega))
    have b5 := (b3.keep m4 (by omega)).keep m5 (by omega)
    have c5 := c4.keep m5 (by omega)
    have w5 : DW S5 D := w4.md m5 (by omega)
    have p5 : zG S5 D 0 = p := (M5.G (by omega) 0).trans hp
    have dH := fun g x hx => bkH_deg (p := p) (r := r) (e := 6) dE (by omega) (by omega) g x hx
    have dQ := fun i x hx => bkQ_deg (p := p) dE r.toNat (by omega) i x hx
    have eQ : ∀ i x, bkQ p E (r + 1).toNat i x = if 0 ≤ i ∧ i ≤ r + 1 then sm (min i r + 1).toNat (fun k => cnv (bkH p r E (i - k)) (bkQ p E r.toNat k) x) % p else 0 := fun i x => by
      rw [show (r + 1).toNat = r.toNat + 1 by omega]
      show (if 0 ≤ i ∧ i ≤ (r.toNat : Int) + 1 then sm (min i (r.toNat : Int) + 1).toNat (fun k => cnv (bkH p (r.toNat : Int) E (i - k)) (bkQ p E r.toNat k) x) % p else 0) = _
      rw [show ((r.toNat : Nat) : Int) = r by omega]
    generalize bkH p r E = Hd at *
    generalize bkQ p E r.toNat = Qr at *
    generalize bkQ p E (r + 1).toNat = Qn at *
    clear M3 b3 w3 p3 m4 c4 w4 m5
    refine loopU (P := fun i S' => At (d + 3) 195 c195_37 [(0, (2, D)), (1, (0, n)), (2, (0, r)), (3, (0, i))] [] S' Q) (I := fun i S' => 0 ≤ i ∧ Md (fun x => x = D + 26) S5 S' ∧ BR S' (D + 26) 200 5 p (fun b x => if b < i then Qn b x else 0)) (r + 2) ?_ ?_ 0 S5 (by omega) ⟨by omega, Md.refl _ _, l5.congr (fun b x => by
      by_cases q : b < 0
      · rw [if_pos q, eQ, if_neg (by omega)]
      · rw [if_neg q])⟩
    · rintro i S6 hi ⟨i0, m6, l6⟩ hk1
      apply w_Model_findsEquation_37
      rw [w32_id (by omega) (by omega)]
      refine ⟨fun hc => by omega, fun _ => ?_⟩
      refine loopU (P := fun k S' => At (d + 3) 195 c195_47 [(0, (2, D)), (1, (0, n)), (2, (0, r)), (3, (0, i)), (4, (0, k))] [] S' Q) (I := fun k S' => 0 ≤ k ∧ Md (fun x => x = D + 26) S5 S' ∧ BR S' (D + 26) 200 5 p (fun b x => if b < i then Qn b x else if b = i then sm k.toNat (fun k => cnv (Hd (i - k)) (Qr k) x) % p else 0)) (min i r + 1) ?_ ?_ 0 S6 (by omega) ⟨by omega, m6, l6.congr (fun b x => by
        by_cases q : b < i
        · rw [if_pos q, if_pos q]
        · rw [if_neg q, if_neg q]
          by_cases q2 : b = i
          · rw [if_pos q2]
            rfl
          · rw [if_neg q2])⟩
      · rintro k S7 hk' ⟨k0, m7, l7⟩ hk2
        have w7 : DW S7 D := w5.md m7 (by omega)
        apply w_Model_findsEquation_47
        rw [w7.x_head.1, w7.x_equation.1, w7.x_longer.1, w32_id (x := i - k) (by omega) (by omega), w32_id (x := 200 * (i - k)) (by omega) (by omega), w32_id (x := 200 * k) (by omega) (by omega), w32_id (x := 200 * i) (by omega) (by omega)]
        refine ⟨fun hc => by omega, fun _ => ⟨w7.1, w7.1, w7.1, w7.1, ?_⟩⟩
        refine m_ppB (wa := 200) (na := 5) (i := i - k) (da := 42 * (i - k) + 6) (wb := 200) (nb := 5) (j := k) (db := 42 * k) (wt := 200) (nt := 5) (k := i) w7.1 ((m7.G (by omega) 0).trans p5) h2 (by omega) (by omega) (by omega) (c5.keep m7 (by omega)) (b5.keep m7 (by omega)) l7 (by omega) (by omega) k0 (by omega) i0 (by omega) rfl rfl rfl (by omega) (by omega) (by omega) (by omega) (by omega) (by omega) (by omega) (by omega) (fun x hx => dH _ x hx) (fun x hx => dQ k x hx) (by omega) (by omega) (by omega) (fun S8 m8 l8 => ⟨rfl, ?_⟩)
        rintro _ rfl
        rw [w32_id (by omega) (by omega)]
        refine hk2 _ ⟨by omega, m7.tr m8, l8.congr (fun b x => ?_)⟩
        by_cases q : b = i
        · rw [if_pos q, q, if_neg (Int.lt_irrefl i), if_pos rfl, if_neg (Int.lt_irrefl i), if_pos rfl, show (k + 1).toNat = k.toNat + 1 by omega, sm_succ, show ((k.toNat : Nat) : Int) = k by omega, Int.emod_add_emod]
        · rw [if_neg q, if_neg q, if_neg q]
      · rintro S7 ⟨-, m7, l7⟩
        apply w_Model_findsEquation_47
        refine ⟨fun _ => ?_, fun hc => absurd (show i < min i r + 1 ∨ r < min i r + 1 by omega) hc⟩
        apply w_Model_findsEquation_106
        rintro _ rfl
        rw [w32_id (by omega) (by omega)]
        refine hk1 _ ⟨by omega, m7, l7.congr (fun b x => ?_)⟩
        by_cases q : b < i
        · rw [if_pos q, if_pos (by omega)]
        · rw [if_neg q]
          by_cases q2 : b = i
          · rw [if_pos q2, if_pos (by omega), q2, eQ, if_pos (by omega)]
          · rw [if_neg q2, if_neg (by omega)]
    · rintro S6 ⟨-, m6, l6⟩
      apply w_Model_findsEquation_37
      rw [w32_id (by omega) (by omega)]
      refine ⟨fun _ => ?_, fun hc => absurd (show r + 1 < r + 2 by omega) hc⟩
      have l6 : BR S6 (D + 26) 200 5 p Qn := l6.congr (fun b x => by
        by_cases q : b < r + 2
        · rw [if_pos q]
        · rw [if_neg q, eQ, if_neg (by omega)])
      have w6 : DW S6 D := w5.md m6 (by omega)
      refine loopU (P := fun k S' => At (d + 3) 195 c195_114 [(0, (2, D)), (1, (0, n)), (2, (0, r)), (3, (0, k))] [] S' Q) (I := fun k S' => 0 ≤ k ∧ Md (fun x => x = D + 25) S6 S' ∧ ∀ e, 0 ≤ e → e < k → zG S' (D + 25) e = zG S6 (D + 26) e) 1000 ?_ ?_ 0 S6 (by omega) ⟨by omega, Md.refl _ _, fun e e0 e1 => by omega⟩
      · rintro k S7 hk' ⟨k0, m7, g7⟩ hk2
        have w7 : DW S7 D := w6.md m7 (by omega)
        apply w_Model_findsEquation_114
        rw [w7.x_longer.1, w7.x_equation.1, w7.x_longer.2.1, w7.x_equation.2.1, w7.x_longer.2.2, w7.x_equation.2.2]
        refine ⟨fun hc => by omega, fun _ => ⟨w7.1, w7.1, ⟨rfl, k0, hk'⟩, ⟨rfl, k0, hk'⟩, ?_⟩⟩
        rintro _ rfl _ rfl
        rw [w32_id (by omega) (by omega)]
        refine hk2 _ ⟨by omega, m7.tr (Md.zS _ _ _ _), fun e e0 e1 => ?_⟩
        by_cases q : e = k
        · rw [q, zG_zS_at]
          exact m7.G (by omega) k
        · rw [zG_zS_ne _ (Or.inr q)]
          exact g7 e e0 (by omega)
      · rintro S7 ⟨-, m7, g7⟩
        apply w_Model_findsEquation_114
        refine ⟨fun _ => ?_, fun hc => absurd (Int.le_refl 1000) hc⟩
        rintro _ rfl
        rw [w32_id (by omega) (by omega)]
        exact hk _ ⟨by omega, (M5.tr (m6.wide (fun x hx => by omega))).tr (m7.wide (fun x hx => by omega)), l6.copy m7 w6.x_equation.2.1 w6.x_equation.2.2 (fun e e0 e1 => g7 e e0 e1)⟩
  · rintro S3 ⟨-, M3, b3⟩
    apply w_Model_findsEquation_17
    exact ⟨fun _ => H S3 M3 b3, fun hc => absurd (Int.le_refl n) hc⟩
