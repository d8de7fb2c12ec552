/-! The model: findsHeads. -/
theorem BR.put0 {S : Hp} {a n p : Int} {F : Int → Int → Int} (h : BR S a 200 n p F) (hn : 0 < n) (hp : 2 ≤ p) (hF : ∀ x, F 0 x = 0) : BR (zS S a 0 1) a 200 n p (fun b => if b = 0 then fun x => if x = 0 then 1 else 0 else F b) := by
  rw [zS_as_zR]
  refine h.set (G := fun x => if x = 0 then 1 else 0) (by omega) hn (fun i i0 i1 => ?_) (fun b i b0 b1 hb i0 i1 => ?_) (fun i hi => ?_) (fun i => ?_)
  · have e := h.2.2.1 0 i (by omega) hn i0 i1
    rw [hF] at e
    by_cases q : i = 0
    · rw [if_pos (by omega), if_pos q]
    · rw [if_neg (by omega), if_neg q]
      exact e
  · rw [if_neg (by omega)]
  · exact if_neg (by omega)
  · (try dsimp only)
    split <;> omega
set_option maxHeartbeats 2000000 in
theorem m_findsHeads {d : Nat} {D p r : Int} {S : Hp} {E : Int → Int → Int} {Q : Vl → Hp → Prop} (h : DW S D) (hp : zG S D 0 = p) (h2 : 2 ≤ p ∧ p ≤ 7) (hr : 0 ≤ r ∧ r ≤ 3) (hE : BR S (D + 23) 60 16 p E) (dE : ∀ i l x, 0 ≤ i → i < 4 → 0 ≤ l → l < 4 → 30 + 6 * i < x → E (4 * i + l) x = 0) (H : ∀ S', Md (fun x => x = D + 24 ∨ x = D + 27 ∨ x = D + 28) S S' → BR S' (D + 24) 200 5 p (bkH p r E) → Q (3, 0) S') : Ev (d + 2) 193 [(2, D), (0, r)] S Q := by
  apply w_Model_findsHeads_0
  rw [h.x_head.1]
  refine ⟨h.1, h.1, m_zeroB (w := 200) (n := 5) (p := p) h.x_head.2.1 h.x_head.2.2 (by omega) (by omega) (by omega) (by omega) (fun S1 m1 b1 => ⟨rfl, ?_⟩)⟩
  have w1 : DW S1 D := h.md m1 (by omega)
  rw [w1.x_column.1]
  refine ⟨w1.1, w1.1, m_zeroB (w := 200) (n := 3) (p := p) w1.x_column.2.1 w1.x_column.2.2 (by omega) (by omega) (by omega) (by omega) (fun S2 m2 c2 => ⟨rfl, ?_⟩)⟩
  have w2 : DW S2 D := w1.md m2 (by omega)
  rw [w2.x_head.1, w2.x_head.2.1, w2.x_head.2.2]
  refine ⟨w2.1, ⟨rfl, by omega, by omega⟩, ?_⟩
  rintro _ rfl
  have M3 : Md (fun x => x = D + 24 ∨ x = D + 27 ∨ x = D + 28) S (zS S2 (D + 24) 0 1) := ((m1.wide (fun x hx => Or.inl hx)).tr (m2.wide (fun x hx => Or.inr (Or.inl hx)))).tr ((Md.zS S2 (D + 24) 0 1).wide (fun x hx => Or.inl hx))
  have b3 := (b1.keep m2 (by omega)).put0 (by omega) h2.1 (fun _ => rfl)
  have c3 := c2.keep (Md.zS S2 (D + 24) 0 1) (by omega)
  have w3 : DW (zS S2 (D + 24) 0 1) D := w2.zSr (by omega)
  generalize zS S2 (D + 24) 0 1 = S3 at *
  clear m1 b1 w1 m2 c2 w2
  have hE3 : BR S3 (D + 23) 60 16 p E := hE.keep M3 (by omega)
  -- the corner
  refine loopU (P := fun i S' => At (d + 2) 193 c193_25 [(0, (2, D)), (1, (0, r)), (2, (0, i))] [] S' Q) (I := fun i S' => 0 ≤ i ∧ S' = zR S3 (D + 24) (fun e => if 200 ≤ e ∧ e < 200 + i then E (4 * r + r) (e - 200) else zG S3 (D + 24) e)) 60 ?_ ?_ 0 S3 (by omega) ⟨by omega, (zR_self S3 (D + 24)).symm.trans (zR_congr _ _ (fun e => by rw [if_neg (by omega)]))⟩
  · rintro i _ hi ⟨i0, rfl⟩ hk
    have w4 : DW (zR S3 (D + 24) (fun e => if 200 ≤ e ∧ e < 200 + i then E (4 * r + r) (e - 200) else zG S3 (D + 24) e)) D := w3.zR (by omega)
    have v := hE3.2.2.1 (4 * r + r) i (by omega) (by omega) i0 hi
    apply w_Model_findsHeads_25
    refine ⟨fun hc => by omega, fun _ => ⟨w4.1, w4.1, w4.1, m_entryAt (by omega) (by omega) ⟨_, rfl, ?_⟩⟩⟩
    rw [w4.x_entry.1, w4.x_head.1, w32_id (x := _ + i) (by omega) (by omega), w32_id (x := 200 + i) (by omega) (by omega), w4.x_entry.2.1, w4.x_head.2.1, w4.x_entry.2.2, w4.x_head.2.2, zG_zR_ne _ (by omega), v]
    refine ⟨⟨rfl, by omega, by omega⟩, ⟨rfl, by omega, by omega⟩, ?_⟩
    rintro _ rfl _ rfl
    rw [w32_id (by omega) (by omega)]
    refine hk _ ⟨by omega, ?_⟩
    rw [zS_zR]
    refine zR_congr _ _ (fun e => ?_)
    by_cases q : e = 200 + i
    · rw [if_pos q, if_pos (by omega), show e - 200 = i by omega]
    · rw [if_neg q]
      by_cases q2 : 200 ≤ e ∧ e < 200 + i
      · rw [if_pos q2, if_pos (by omega)]
      · rw [if_neg q2, if_neg (by omega)]
  rintro _ ⟨-, rfl⟩
  have b4 := b3.set (k := 1) (G := E (4 * r + r)) (f := fun e => if 200 ≤ e ∧ e < 200 + 60 then E (4 * r + r) (e - 200) else zG S3 (D + 24) e) (by omega) (by omega) (fun i i0 i1 => by
    (try dsimp only)
    by_cases q : i < 60
    · rw [if_pos (by omega), show 200 * 1 + i - 200 = i by omega]
    · rw [if_neg (by omega), b3.2.2.1 1 i (by omega) (by omega) i0 i1]
      (try dsimp only)
      rw [if_neg (by omega)]
      exact (hE3.2.2.2.1 _ _ (Or.inr (by omega))).symm) (fun b i b0 b1 hb i0 i1 => by
    (try dsimp only)
    rw [if_neg (by omega)]) (fun i hi => by
    rcases hi with hi | hi
    · exact hE3.2.2.2.1 _ _ (Or.inl hi)
    · exact hE3.2.2.2.1 _ _ (Or.inr (by omega))) (fun i => hE3.2.2.2.2 _ _)
  have M4 : Md (fun x => x = D + 24 ∨ x = D + 27 ∨ x = D + 28) S (zR S3 (D + 24) (fun e => if 200 ≤ e ∧ e < 200 + 60 then E (4 * r + r) (e - 200) else zG S3 (D + 24) e)) := M3.tr ((Md.zR S3 (D + 24) _).wide (fun x hx => Or.inl hx))
  have c4 := c3.keep (Md.zR S3 (D + 24) (fun e => if 200 ≤ e ∧ e < 200 + 60 then E (4 * r + r) (e - 200) else zG S3 (D + 24) e)) (by omega)
  generalize zR S3 (D + 24) (fun e => if 200 ≤ e ∧ e < 200 + 60 then E (4 * r + r) (e - 200) else zG S3 (D + 24) e) = S4 at *
  clear b3 c3 w3 M3 hE3
  have w4 : DW S4 D := h.md M4 (by omega)
  apply w_Model_findsHeads_25
  refine ⟨fun _ => ⟨w4.1, w4.1, ?_⟩, fun hc => absurd (Int.le_refl 60) hc⟩
  rw [w4.x_head.1]
  refine m_negB (n := 5) (k := 1) w4.1 ((M4.G (by omega) 0).trans hp) h2 (by omega) b4 (by omega) (by omega) (by omega) rfl (fun S5 m5 b5 => ⟨rfl, ?_⟩)
  have M5 : Md (fun x => x = D + 24 ∨ x = D + 27 ∨ x = D + 28) S S5 := M4.tr (m5.wide (fun x hx => Or.inl hx))
  have c5 := c4.keep m5 (by omega)
  have b5 : BR S5 (D + 24) 200 5 p (fun b x => if b < 2 then bkH p r E b x else 0) := b5.congr (fun b x => by
    by_cases q1 : b = 1
    · rw [if_pos q1, if_pos rfl, if_pos (by omega), q1]
      unfold bkH
      rw [if_neg (by omega), if_neg (by omega), if_pos rfl]
    · rw [if_neg q1, if_neg q1]
      by_cases q0 : b = 0
      · rw [if_pos q0, if_pos (show b < 2 by omega), q0]
        unfold bkH
        rw [if_neg (show ¬ ((0 : Int) < 0 ∨ r + 1 < 0) by omega), if_pos (show (0 : Int) = 0 from rfl)]
      · rw [if_neg q0]
        by_cases q2 : b < 2
        · rw [if_pos q2]
          unfold bkH
          rw [if_pos (by omega)]
        · rw [if_neg q2])
  clear b4 c4 w4 M4 m5
  have w5 : DW S5 D := h.md M5 (by omega)
  have hE5 : BR S5 (D + 23) 60 16 p E := hE.keep M5 (by omega)
  -- the column
  refine loopU (P := fun i S' => At (d + 2) 193 c193_73 [(0, (2, D)), (1, (0, r)), (2, (0, i))] [] S' Q) (I := fun i S' => 0 ≤ i ∧ Md (fun x => x = D + 27) S5 S' ∧ BR S' (D + 27) 200 3 p (fun b x => if b < i then bkC p r E 0 b x else 0)) r ?_ ?_ 0 S5 (by omega) ⟨by omega, Md.refl _ _, c5.congr (fun b x => by
    by_cases q : b < 0
    · rw [if_pos q]
      show 0 = if 0 ≤ b ∧ b < r then E (4 * b + r) x else 0
      rw [if_neg (by omega)]
    · rw [if_neg q])⟩
  · rintro i S6 hi ⟨i0, m6, c6⟩ hk
    have w6 : DW S6 D := w5.md m6 (by omega)
    have hE6 : BR S6 (D + 23) 60 16 p E := hE5.keep m6 (by omega)
    apply w_Model_findsHeads_73
    refine ⟨fun hc => by omega, fun _ => ?_⟩
    refine loopU (P := fun k S' => At (d + 2) 193 c193_80 [(0, (2, D)), (1, (0, r)), (2, (0, i)), (3, (0, k))] [] S' Q) (I := fun k S' => 0 ≤ k ∧ S' = zR S6 (D + 27) (fun e => if 200 * i ≤ e ∧ e < 200 * i + k then E (4 * i + r) (e - 200 * i) else zG S6 (D + 27) e)) 60 ?_ ?_ 0 S6 (by omega) ⟨by omega, (zR_self S6 (D + 27)).symm.trans (zR_congr _ _ (fun e => by rw [if_neg (by omega)]))⟩
    · rintro k _ hk' ⟨k0, rfl⟩ hk2
      have w7 : DW (zR S6 (D + 27) (fun e => if 200 * i ≤ e ∧ e < 200 * i + k then E (4 * i + r) (e - 200 * i) else zG S6 (D + 27) e)) D := w6.zR (by omega)
      have v := hE6.2.2.1 (4 * i + r) k (by omega) (by omega) k0 hk'
      apply w_Model_findsHeads_80
      refine ⟨fun hc => by omega, fun _ => ⟨w7.1, w7.1, w7.1, m_entryAt (by omega) (by omega) ⟨_, rfl, ?_⟩⟩⟩
      rw [w7.x_entry.1, w7.x_column.1, w32_id (x := 200 * i) (by omega) (by omega), w32_id (x := 60 * (4 * i + r) + k) (by omega) (by omega), w32_id (x := 200 * i + k) (by omega) (by omega), w7.x_entry.2.1, w7.x_column.2.1, w7.x_entry.2.2, w7.x_column.2.2, zG_zR_ne _ (by omega), v]
      refine ⟨⟨rfl, by omega, by omega⟩, ⟨rfl, by omega, by omega⟩, ?_⟩
      rintro _ rfl _ rfl
      rw [w32_id (by omega) (by omega)]
      refine hk2 _ ⟨by omega, ?_⟩
      rw [zS_zR]
      refine zR_congr _ _ (fun e => ?_)
      by_cases q : e = 200 * i + k
      · rw [if_pos q, if_pos (by omega), show e - 200 * i = k by omega]
      · rw [if_neg q]
        by_cases q2 : 200 * i ≤ e ∧ e < 200 * i + k
        · rw [if_pos q2, if_pos (by omega)]
        · rw [if_neg q2, if_neg (by omega)]
    · rintro _ ⟨-, rfl⟩
      apply w_Model_findsHeads_80
      refine ⟨fun _ => ?_, fun hc => absurd (Int.le_refl 60) hc⟩
      rintro _ rfl
      rw [w32_id (by omega) (by omega)]
      have c7 := c6.set (k := i) (G := E (4 * i + r)) (f := fun e => if 200 * i ≤ e ∧ e < 200 * i + 60 then E (4 * i + r) (e - 200 * i) else zG S6 (D + 27) e) i0 (by omega) (fun x x0 x1 => by
        (try dsimp only)
        by_cases q : x < 60
        · rw [if_pos (by omega), show 200 * i + x - 200 * i = x by omega]
        · rw [if_neg (by omega), c6.2.2.1 i x i0 (by omega) x0 x1]
          (try dsimp only)
          rw [if_neg (by omega)]
          exact (hE6.2.2.2.1 _ _ (Or.inr (by omega))).symm) (fun b x b0 b1 hb x0 x1 => by
        (try dsimp only)
        rw [if_neg (by omega)]) (fun x hx => by
        rcases hx with hx | hx
        · exact hE6.2.2.2.1 _ _ (Or.inl hx)
        · exact hE6.2.2.2.1 _ _ (Or.inr (by omega))) (fun x => hE6.2.2.2.2 _ _)
      refine hk _ ⟨by omega, m6.tr (Md.zR S6 (D + 27) _), c7.congr (fun b x => ?_)⟩
      by_cases q : b = i
      · rw [if_pos q, if_pos (by omega), q]
        show _ = if 0 ≤ i ∧ i < r then E (4 * i + r) x else 0
        rw [if_pos ⟨i0, hi⟩]
      · rw [if_neg q]
        by_cases q2 : b < i
        · rw [if_pos q2, if_pos (by omega)]
        · rw [if_neg q2, if_neg (by omega)]
  rintro S6 ⟨-, m6, c6⟩
  apply w_Model_findsHeads_73
  refine ⟨fun _ => ?_, fun hc => absurd (Int.le_refl r) hc⟩
  have c6 : BR S6 (D + 27) 200 3 p (bkC p r E 0) := c6.congr (fun b x => by
    by_cases q : b < r
    · rw [if_pos q]
    · rw [if_neg q]
      show 0 = if 0 ≤ b ∧ b < r then E (4 * b + r) x else 0
      rw [if_neg (by omega)])
  have M6 : Md (fun x => x = D + 24 ∨ x = D + 27 ∨ x = D + 28) S S6 := M5.tr (m6.wide (fun x hx => Or.inr (Or.inl hx)))
  have b6 := b5.keep m6 (by omega)
  clear b5 c5 w5 M5 m6 hE5
  -- the heads
  refine loopU (P := fun g S' => At (d + 2) 193 c193_125 [(0, (2, D)), (1, (0, r)), (2, (0, g))] [] S' Q) (I := fun g S' => 2 ≤ g ∧ Md (fun x => x = D + 24 ∨ x = D + 27 ∨ x = D + 28) S S' ∧ BR S' (D + 24) 200 5 p (fun b x => if b < g then bkH p r E b x else 0) ∧ BR S' (D + 27) 200 3 p (bkC p r E (g - 2).toNat)) (max 2 (r + 2)) ?_ ?_ 2 S6 (by omega) ⟨by omega, M6, b6, c6⟩
  · rintro g S7 hg ⟨g0, M7, b7, c7⟩ hk
    have p7 : zG S7 D 0 = p := (M7.G (by omega) 0).trans hp
    have w7 : DW S7 D := h.md M7 (by omega)
    have dC := fun i x hx => bkC_deg (p := p) dE hr.2 (g - 2).toNat i x hx
    generalize hCg : bkC p r E (g - 2).toNat = C at *
    apply w_Model_findsHeads_125
    rw [w32_id (by omega) (by omega)]
    refine ⟨fun hc => by omega, fun _ => ?_⟩
    refine loopU (P := fun i S' => At (d + 2) 193 c193_134 [(0, (2, D)), (1, (0, r)), (2, (0, g)), (3, (0, i))] [] S' Q) (I := fun i S' => 0 ≤ i ∧ Md (fun x => x = D + 24) S7 S' ∧ BR S' (D + 24) 200 5 p (fun b x => if b < g then bkH p r E b x else if b = g then sm i.toNat (fun i => cnv (E (4 * r + i)) (C i) x) % p else 0)) r ?_ ?_ 0 S7 (by omega) ⟨by omega, Md.refl _ _, b7.congr (fun b x => by
      by_cases q : b < g
      · rw [if_pos q, if_pos q]
      · rw [if_neg q, if_neg q]
        by_cases q2 : b = g
        · rw [if_pos q2]
          rfl
        · rw [if_neg q2])⟩
    · rintro i S8 hi ⟨i0, m8, b8⟩ hk2
      have w8 : DW S8 D := w7.md m8 (by omega)
      apply w_Model_findsHeads_134
      refine ⟨fun hc => by omega, fun _ => ⟨w8.1, w8.1, m_entryAt (by omega) (by omega) ⟨_, rfl, w8.1, w8.1, w8.1, ?_⟩⟩⟩
      rw [w8.x_entry.1, w8.x_column.1, w8.x_head.1, w32_id (x := 200 * i) (by omega) (by omega), w32_id (x := 200 * g) (by omega) (by omega)]
      refine m_ppB (wa := 60) (na := 16) (i := 4 * r + i) (da := 30 + 6 * r) (wb := 200) (nb := 3) (j := i) (db := 42 + 42 * ((g - 2).toNat : Int)) (wt := 200) (nt := 5) (k := g) w8.1 ((m8.G (by omega) 0).trans p7) h2 (by omega) (by omega) (by omega) ((hE.keep M7 (by omega)).keep m8 (by omega)) (c7.keep m8 (by omega)) b8 (by omega) (by omega) i0 (by omega) (by omega) (by omega) rfl rfl rfl (by omega) (by omega) (by omega) (by omega) (by omega) (by omega) (by omega) (by omega) (fun x hx => dE r i x hr.1 (by omega) (by omega) (by omega) hx) (fun x hx => dC i x hx) (by omega) (by omega) (by omega) (fun S9 m9 b9 => ⟨rfl, ?_⟩)
      rintro _ rfl
      rw [w32_id (by omega) (by omega)]
      refine hk2 _ ⟨by omega, m8.tr m9, b9.congr (fun b x => ?_)⟩
      by_cases q : b = g
      · rw [if_pos q, q, if_neg (Int.lt_irrefl g), if_pos rfl, if_neg (Int.lt_irrefl g), if_pos rfl, show (i + 1).toNat = i.toNat + 1 by omega, sm_succ, show ((i.toNat : Nat) : Int) = i by omega, Int.emod_add_emod]
      · rw [if_neg q, if_neg q, if_neg q]
    · rintro S8 ⟨-, m8, b8⟩
      have w8 : DW S8 D := w7.md m8 (by omega)
      apply w_Model_findsHeads_134
      rw [w8.x_head.1, w32_id (x := 200 * g) (by omega) (by omega)]
      refine ⟨fun _ => ⟨w8.1, w8.1, ?_⟩, fun hc => absurd (Int.le_refl r) hc⟩
      refine m_negB (n := 5) (k := g) w8.1 ((m8.G (by omega) 0).trans p7) h2 (by omega) b8 (by omega) (by omega) (by omega) rfl (fun S9 m9 b9 => ⟨rfl, ?_⟩)
      have w9 : DW S9 D := w8.md m9 (by omega)
      refine ⟨w9.1, m_turnsColumn (C := C) w9 ((m9.G (by omega) 0).trans ((m8.G (by omega) 0).trans p7)) h2 hr (((hE.keep M7 (by omega)).keep m8 (by omega)).keep m9 (by omega)) ((c7.keep m8 (by omega)).keep m9 (by omega)) dE dC (by omega) (fun S10 m10 c10 => ⟨rfl, ?_⟩)⟩
      rintro _ rfl
      rw [w32_id (by omega) (by omega)]
      refine hk _ ⟨by omega, ((M7.tr (m8.wide (fun x hx => Or.inl hx))).tr (m9.wide (fun x hx => Or.inl hx))).tr (m10.wide (fun x hx => Or.inr hx)), (b9.keep m10 (by omega)).congr (fun b x => ?_), ?_⟩
      · by_cases q : b = g
        · rw [if_pos q, if_neg (Int.lt_irrefl g), if_pos rfl, if_pos (by omega), q]
          unfold bkH
          rw [if_neg (by omega), if_neg (by omega), if_neg (by omega), hCg]
        · rw [if_neg q]
          by_cases q2 : b < g
          · rw [if_pos q2, if_pos (by omega)]
          · rw [if_neg q2, if_neg q, if_neg (by omega)]
      · rw [show (g + 1 - 2).toNat = (g - 2).toNat + 1 by omega]
        show BR S10 (D + 27) 200 3 p (bkS p r E (bkC p r E (g - 2).toNat))
        rw [hCg]
        exact c10
  · rintro S7 ⟨g0, M7, b7, c7⟩
    apply w_Model_findsHeads_125
    rw [w32_id (by omega) (by omega)]
    refine ⟨fun _ => H S7 M7 (b7.congr (fun b x => ?_)), fun hc => absurd (show r + 1 < max 2 (r + 2) by omega) hc⟩
    by_cases q : b < max 2 (r + 2)
    · rw [if_pos q]
    · rw [if_neg q]
      unfold bkH
      rw [if_pos (by omega)]
