/-! The model: columns and heads of one minor more. -/
def bkS (p r : Int) (E C : Int → Int → Int) : Int → Int → Int := fun i x => if 0 ≤ i ∧ i < r then sm r.toNat (fun l => cnv (E (4 * i + l)) (C l) x) % p else 0
def bkC (p r : Int) (E : Int → Int → Int) : Nat → Int → Int → Int
  | 0 => fun i x => if 0 ≤ i ∧ i < r then E (4 * i + r) x else 0
  | k + 1 => bkS p r E (bkC p r E k)
/-- a row copied, as far as that -/
theorem BR.copy {M : Int → Prop} {S S' : Hp} {a a' w n p : Int} {F : Int → Int → Int} (h : BR S a w n p F) (hm : Md M S S') (k : zK S a' = 101) (l : zL S a' = w * n) (hc : ∀ e, 0 ≤ e → e < w * n → zG S' a' e = zG S a e) : BR S' a' w n p F := ⟨(hm.K _).trans k, (hm.L _).trans l, fun b i b0 b1 i0 i1 => by
  have := blk b0 b1 i0 i1
  rw [hc _ (by omega) (by omega)]
  exact h.2.2.1 b i b0 b1 i0 i1, h.2.2.2⟩
set_option maxHeartbeats 1000000 in
theorem m_turnsColumn {d : Nat} {D p r dc : Int} {S : Hp} {E C : Int → Int → Int} {Q : Vl → Hp → Prop} (h : DW S D) (hp : zG S D 0 = p) (h2 : 2 ≤ p ∧ p ≤ 7) (hr : 0 ≤ r ∧ r ≤ 3) (hE : BR S (D + 23) 60 16 p E) (hC : BR S (D + 27) 200 3 p C) (dE : ∀ i l x, 0 ≤ i → i < 4 → 0 ≤ l → l < 4 → 30 + 6 * i < x → E (4 * i + l) x = 0) (dC : ∀ i x, dc < x → C i x = 0) (hdc : 0 ≤ dc ∧ dc < 140) (H : ∀ S', Md (fun x => x = D + 27 ∨ x = D + 28) S S' → BR S' (D + 27) 200 3 p (bkS p r E C) → Q (3, 0) S') : Ev (d + 1) 194 [(2, D), (0, r)] S Q := by
  obtain ⟨e1, e2, e3⟩ := h.x_entry
  obtain ⟨c1, c2, c3⟩ := h.x_column
  obtain ⟨k1, k2, k3⟩ := h.x_column2
  apply w_Model_turnsColumn_0
  rw [k1]
  refine ⟨h.1, h.1, m_zeroB (w := 200) (n := 3) (p := p) k2 k3 (by omega) (by omega) (by omega) (by omega) (fun S1 m1 b1 => ⟨rfl, ?_⟩)⟩
  refine loopU (P := fun i S' => At (d + 1) 194 c194_10 [(0, (2, D)), (1, (0, r)), (2, (0, i))] [] S' Q) (I := fun i S' => 0 ≤ i ∧ Md (fun x => x = D + 28) S S' ∧ BR S' (D + 28) 200 3 p (fun b x => if b < i then bkS p r E C b x else 0)) r ?_ ?_ 0 S1 (by omega) ⟨by omega, m1, b1.congr (fun b x => by
    by_cases q : b < 0
    · rw [if_pos q]
      unfold bkS
      rw [if_neg (by omega)]
    · rw [if_neg q])⟩
  · rintro i S2 hi ⟨i0, m2, b2⟩ hk
    apply w_Model_turnsColumn_10
    refine ⟨fun hc => by omega, fun _ => ?_⟩
    refine loopU (P := fun l S' => At (d + 1) 194 c194_17 [(0, (2, D)), (1, (0, r)), (2, (0, i)), (3, (0, l))] [] S' Q) (I := fun l S' => 0 ≤ l ∧ Md (fun x => x = D + 28) S S' ∧ BR S' (D + 28) 200 3 p (fun b x => if b < i then bkS p r E C b x else if b = i then sm l.toNat (fun l => cnv (E (4 * i + l)) (C l) x) % p else 0)) r ?_ ?_ 0 S2 (by omega) ⟨by omega, m2, b2.congr (fun b x => by
      by_cases q : b < i
      · rw [if_pos q, if_pos q]
      · rw [if_neg q, if_neg q]
        by_cases q2 : b = i
        · rw [if_pos q2]
          rfl
        · rw [if_neg q2])⟩
    · rintro l S3 hl ⟨l0, m3, b3⟩ hk2
      have w3 : DW S3 D := h.md m3 (by omega)
      apply w_Model_turnsColumn_17
      refine ⟨fun hc => by omega, fun _ => ⟨w3.1, w3.1, m_entryAt (by omega) (by omega) ⟨_, rfl, w3.1, w3.1, w3.1, ?_⟩⟩⟩
      rw [w3.x_entry.1, w3.x_column.1, w3.x_column2.1, w32_id (x := 200 * l) (by omega) (by omega), w32_id (x := 200 * i) (by omega) (by omega)]
      refine m_ppB (wa := 60) (na := 16) (i := 4 * i + l) (da := 30 + 6 * i) (wb := 200) (nb := 3) (j := l) (db := dc) (wt := 200) (nt := 3) (k := i) w3.1 ((m3.G (by omega) 0).trans hp) h2 (by omega) (by omega) (by omega) (hE.keep m3 (by omega)) (hC.keep m3 (by omega)) b3 (by omega) (by omega) l0 (by omega) i0 (by omega) rfl rfl rfl (by omega) (by omega) (by omega) (by omega) (by omega) (by omega) (by omega) (by omega) (fun x hx => dE i l x i0 (by omega) (by omega) (by omega) hx) (fun x hx => dC l x hx) (by omega) (by omega) (by omega) (fun S4 m4 b4 => ⟨rfl, ?_⟩)
      rintro _ rfl
      rw [w32_id (by omega) (by omega)]
      refine hk2 _ ⟨by omega, m3.tr m4, b4.congr (fun b x => ?_)⟩
      by_cases q : b = i
      · rw [if_pos q, q, if_neg (Int.lt_irrefl i), if_pos rfl, if_neg (Int.lt_irrefl i), if_pos rfl, show (l + 1).toNat = l.toNat + 1 by omega, sm_succ, show ((l.toNat : Nat) : Int) = l by omega, Int.emod_add_emod]
      · rw [if_neg q, if_neg q, if_neg q]
    · rintro S3 ⟨-, m3, b3⟩
      apply w_Model_turnsColumn_17
      refine ⟨fun _ => ?_, fun hc => absurd (Int.le_refl r) hc⟩
      rintro _ rfl
      rw [w32_id (by omega) (by omega)]
      refine hk _ ⟨by omega, m3, b3.congr (fun b x => ?_)⟩
      by_cases q : b < i
      · rw [if_pos q, if_pos (by omega)]
      · rw [if_neg q]
        by_cases q2 : b = i
        · rw [if_pos q2, if_pos (by omega), q2]
          unfold bkS
          rw [if_pos ⟨i0, hi⟩]
        · rw [if_neg q2, if_neg (by omega)]
  · rintro S2 ⟨-, m2, b2⟩
    apply w_Model_turnsColumn_10
    refine ⟨fun _ => ?_, fun hc => absurd (Int.le_refl r) hc⟩
    have b2 : BR S2 (D + 28) 200 3 p (bkS p r E C) := b2.congr (fun b x => by
      by_cases q : b < r
      · rw [if_pos q]
      · rw [if_neg q]
        unfold bkS
        rw [if_neg (by omega)])
    have w2 : DW S2 D := h.md m2 (by omega)
    refine loopU (P := fun i S' => At (d + 1) 194 c194_73 [(0, (2, D)), (2, (0, i))] [] S' Q) (I := fun i S' => 0 ≤ i ∧ Md (fun x => x = D + 27) S2 S' ∧ ∀ e, 0 ≤ e → e < i → zG S' (D + 27) e = zG S2 (D + 28) e) 600 ?_ ?_ 0 S2 (by omega) ⟨by omega, Md.refl _ _, fun e e0 e1 => by omega⟩
    · rintro i S3 hi ⟨i0, m3, g3⟩ hk
      have w3 : DW S3 D := w2.md m3 (by omega)
      apply w_Model_turnsColumn_73
      rw [w3.x_column.1, w3.x_column2.1, w3.x_column.2.1, w3.x_column2.2.1, w3.x_column.2.2, w3.x_column2.2.2]
      refine ⟨fun hc => by omega, fun _ => ⟨w3.1, w3.1, ⟨rfl, i0, hi⟩, ⟨rfl, i0, hi⟩, ?_⟩⟩
      rintro _ rfl _ rfl
      rw [w32_id (by omega) (by omega)]
      refine hk _ ⟨by omega, m3.tr (Md.zS _ _ _ _), fun e e0 e1 => ?_⟩
      by_cases q : e = i
      · rw [q, zG_zS_at]
        exact m3.G (by omega) i
      · rw [zG_zS_ne _ (Or.inr q)]
        exact g3 e e0 (by omega)
    · rintro S3 ⟨-, m3, g3⟩
      apply w_Model_turnsColumn_73
      exact ⟨fun _ => H S3 ((m2.wide (fun x hx => Or.inr hx)).tr (m3.wide (fun x hx => Or.inl hx))) (b2.copy m3 w2.x_column.2.1 w2.x_column.2.2 (fun e e0 e1 => g3 e e0 e1)), fun hc => absurd (Int.le_refl 600) hc⟩
def bkH (p r : Int) (E : Int → Int → Int) (h : Int) : Int → Int := fun x => if h < 0 ∨ r + 1 < h then 0 else if h = 0 then (if x = 0 then 1 else 0) else if h = 1 then (-1 * E (4 * r + r) x) % p else (-1 * (sm r.toNat (fun i => cnv (E (4 * r + i)) (bkC p r E (h - 2).toNat i) x) % p)) % p
theorem bkS_deg {p r dc : Int} {E C : Int → Int → Int} (dE : ∀ i l x, 0 ≤ i → i < 4 → 0 ≤ l → l < 4 → 30 + 6 * i < x → E (4 * i + l) x = 0) (dC : ∀ i x, dc < x → C i x = 0) (hr : r ≤ 3) (i x : Int) (hx : 42 + dc < x) : bkS p r E C i x = 0 := by
  unfold bkS
  by_cases q : 0 ≤ i ∧ i < r
  · rw [if_pos q, sm_zeros (fun l l0 l1 => cnv_deg (dE i l · q.1 (by omega) (by omega) (by omega)) (dC l) x (by omega))]
    rfl
  · rw [if_neg q]
theorem bkC_deg {p r : Int} {E : Int → Int → Int} (dE : ∀ i l x, 0 ≤ i → i < 4 → 0 ≤ l → l < 4 → 30 + 6 * i < x → E (4 * i + l) x = 0) (hr : r ≤ 3) : ∀ (k : Nat) (i x : Int), 42 + 42 * (k : Int) < x → bkC p r E k i x = 0
  | 0, i, x, hx => by
    show (if 0 ≤ i ∧ i < r then E (4 * i + r) x else 0) = 0
    by_cases q : 0 ≤ i ∧ i < r
    · rw [if_pos q]
      exact dE i r x q.1 (by omega) (by omega) (by omega) (by omega)
    · rw [if_neg q]
  | k + 1, i, x, hx => bkS_deg dE (fun i x hx => bkC_deg dE hr k i x hx) hr i x (by omega)
