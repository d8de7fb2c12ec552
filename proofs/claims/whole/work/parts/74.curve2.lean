/-! Curve, second part: copies, moving. -/
/-- a line takes what another one of the same room holds -/
theorem w_take {d : Nat} {a b n : Int} {S : Hp} {Q : Vl → Hp → Prop} (h : LW S a n) (h' : LW S b n) (hne : a ≠ b) (H : ∀ S', Md (ML a) S S' → LW S' a n → (∀ p P, LN S b n p P → LN S' a n p P) → Q (3, 0) S') : Ev d 41 [(2, a), (2, b)] S Q := by
  obtain ⟨t, P, h⟩ := h
  obtain ⟨u, R, h'⟩ := h'
  refine s_take h h' hne h'.2.2.2.1 (fun S' m1 l1 => H S' m1 ⟨_, _, l1⟩ (fun p P' hl => ?_))
  obtain ⟨v, v1, v2, v3⟩ := hl
  have e1 : v = u := by rw [← v1.2.1, h'.2.1]
  subst e1
  refine ⟨v, l1.congr fun i => ?_, v2, v3⟩
  by_cases hi : 0 ≤ i ∧ i < n
  · rw [← h'.2.2.2.2.1 i hi.1 hi.2, v1.2.2.2.2.1 i hi.1 hi.2]
  · by_cases h0 : i < 0
    · rw [h'.2.2.2.2.2.2 i h0, v1.2.2.2.2.2.2 i h0]
    · have := v1.2.2.2.1
      rw [h'.2.2.2.2.2.1 i (by omega), v1.2.2.2.2.2.1 i (by omega)]
set_option maxHeartbeats 1000000 in
theorem s_copyFrom {d : Nat} {V U : Int} {S : Hp} {Q : Vl → Hp → Prop} (h : VW S V) (h' : VW S U) (hd : V + 14 < U ∨ U + 14 < V)
    (H : ∀ S', Md (MV V) S S' → VW S' V → (∀ k, 0 ≤ k → k < 3 → zG S' V k = zG S U k) → (∀ e, 0 ≤ e → e < 49 → zG S' (V + 1) e = zG S (U + 1) e) → (∀ e, 0 ≤ e → e < 7 → zG S' (V + 13) e = zG S (U + 13) e) → (∀ p P, LN S (U + 11) 64 p P → LN S' (V + 11) 64 p P) → (∀ p C, LAN S (U + 2) 4 (fun _ => 7) p C → LAN S' (V + 2) 4 (fun _ => 7) p C) → Q (3, 0) S') : Ev (d + 1) 20 [(2, V), (2, U)] S Q := by
  apply w_Curve_copyFrom_0
  refine ⟨h'.1, h.1, ?_⟩
  rintro _ rfl
  refine ⟨h'.1, h.1, ?_⟩
  rintro _ rfl
  refine ⟨h'.1, h.1, ?_⟩
  rintro _ rfl
  rw [zG_zS_ne (zS S V 0 (zG S U 0)) (b := U) (Or.inl (by omega)), zG_zS_ne S (b := U) (Or.inl (by omega)), zG_zS_ne S (b := U) (Or.inl (by omega))]
  have w3 : VW (zS (zS (zS S V 0 (zG S U 0)) V 1 (zG S U 1)) V 2 (zG S U 2)) V := ((h.put (Or.inl ⟨rfl, by omega⟩)).put (Or.inl ⟨rfl, by omega⟩)).put (Or.inl ⟨rfl, by omega⟩)
  have m3 : Md (fun x => x = V) S (zS (zS (zS S V 0 (zG S U 0)) V 1 (zG S U 1)) V 2 (zG S U 2)) := ((Md.zS _ _ _ _).tr (Md.zS _ _ _ _)).tr (Md.zS _ _ _ _)
  have k0 : ∀ k, 0 ≤ k → k < 3 → zG (zS (zS (zS S V 0 (zG S U 0)) V 1 (zG S U 1)) V 2 (zG S U 2)) V k = zG S U k := by
    intro k k0 k1
    rcases (show k = 0 ∨ k = 1 ∨ k = 2 by omega) with rfl | rfl | rfl
    · rw [zG_zS_ne _ (Or.inr (by omega)), zG_zS_ne _ (Or.inr (by omega)), zG_zS_at]
    · rw [zG_zS_ne _ (Or.inr (by omega)), zG_zS_at]
    · rw [zG_zS_at]
  generalize zS (zS (zS S V 0 (zG S U 0)) V 1 (zG S U 1)) V 2 (zG S U 2) = S3 at *
  have u3 : VW S3 U := h'.keep m3 (fun x x1 x2 => by omega)
  refine ⟨u3.1, w3.1, ?_⟩
  rw [u3.2.1, w3.2.1]
  refine ⟨⟨⟨u3.2.2.2.2.2.2.1.1, w3.2.2.2.2.2.2.1.1⟩, ⟨by omega, by omega, by omega⟩, by rw [u3.2.2.2.2.2.2.1.2]; omega, by rw [w3.2.2.2.2.2.2.1.2]; omega⟩, ?_⟩
  rintro _ rfl
  have m4 : Md (fun x => x = V + 1) S3 (zC S3 (U + 1) 0 (V + 1) 0 49) := ⟨rfl, rfl, fun a i q => by rw [zG_zC, if_neg (fun z => q z.1)]⟩
  have f4 : ∀ e, 0 ≤ e → e < 49 → zG (zC S3 (U + 1) 0 (V + 1) 0 49) (V + 1) e = zG S (U + 1) e := fun e h0 h1 => by
    rw [zG_zC, if_pos ⟨rfl, by omega, by omega⟩, show 0 + (e - 0) = e by omega, m3.G (by omega)]
  have w4 : VW (zC S3 (U + 1) 0 (V + 1) 0 49) V := ⟨w3.1, by rw [m4.G (by omega)]; exact w3.2.1, by rw [m4.G (by omega)]; exact w3.2.2.1, by rw [m4.G (by omega)]; exact w3.2.2.2.1, by rw [m4.G (by omega)]; exact w3.2.2.2.2.1, by rw [m4.G (by omega)]; exact w3.2.2.2.2.2.1, w3.2.2.2.2.2.2.1.keep m4, w3.2.2.2.2.2.2.2.1.keep m4 (fun x x1 x2 => by omega) (by omega), w3.2.2.2.2.2.2.2.2.1.keep m4 (by omega) (by omega), w3.2.2.2.2.2.2.2.2.2.1.keep m4, w3.2.2.2.2.2.2.2.2.2.2.keep m4⟩
  have u4 : VW (zC S3 (U + 1) 0 (V + 1) 0 49) U := u3.keep m4 (fun x x1 x2 => by omega)
  have mm4 : Md (fun x => x = V ∨ x = V + 1) S (zC S3 (U + 1) 0 (V + 1) 0 49) := m3.trans m4
  have k4 : ∀ k, 0 ≤ k → k < 3 → zG (zC S3 (U + 1) 0 (V + 1) 0 49) V k = zG S U k := fun k h0 h1 => by rw [m4.G (by omega)]; exact k0 k h0 h1
  generalize zC S3 (U + 1) 0 (V + 1) 0 49 = S4 at *
  refine ⟨u4.1, w4.1, ?_⟩
  rw [u4.2.2.2.2.1, w4.2.2.2.2.1]
  refine ⟨⟨⟨u4.2.2.2.2.2.2.2.2.2.1.1, w4.2.2.2.2.2.2.2.2.2.1.1⟩, ⟨by omega, by omega, by omega⟩, by rw [u4.2.2.2.2.2.2.2.2.2.1.2]; omega, by rw [w4.2.2.2.2.2.2.2.2.2.1.2]; omega⟩, ?_⟩
  rintro _ rfl
  have m5 : Md (fun x => x = V + 13) S4 (zC S4 (U + 13) 0 (V + 13) 0 7) := ⟨rfl, rfl, fun a i q => by rw [zG_zC, if_neg (fun z => q z.1)]⟩
  have f5 : ∀ e, 0 ≤ e → e < 7 → zG (zC S4 (U + 13) 0 (V + 13) 0 7) (V + 13) e = zG S (U + 13) e := fun e h0 h1 => by
    rw [zG_zC, if_pos ⟨rfl, by omega, by omega⟩, show 0 + (e - 0) = e by omega, mm4.G (by omega)]
  have w5 : VW (zC S4 (U + 13) 0 (V + 13) 0 7) V := w4.keep m5 (fun x x1 x2 => by omega)
  have u5 : VW (zC S4 (U + 13) 0 (V + 13) 0 7) U := u4.keep m5 (fun x x1 x2 => by omega)
  have mm5 : Md (fun x => (x = V ∨ x = V + 1) ∨ x = V + 13) S (zC S4 (U + 13) 0 (V + 13) 0 7) := mm4.trans m5
  have k5 : ∀ k, 0 ≤ k → k < 3 → zG (zC S4 (U + 13) 0 (V + 13) 0 7) V k = zG S U k := fun k h0 h1 => by rw [m5.G (by omega)]; exact k4 k h0 h1
  have g5 : ∀ e, 0 ≤ e → e < 49 → zG (zC S4 (U + 13) 0 (V + 13) 0 7) (V + 1) e = zG S (U + 1) e := fun e h0 h1 => by rw [m5.G (by omega)]; exact f4 e h0 h1
  generalize zC S4 (U + 13) 0 (V + 13) 0 7 = S5 at *
  refine ⟨w5.1, u5.1, ?_⟩
  rw [w5.2.2.2.1, u5.2.2.2.1]
  refine ⟨w5.2.2.2.2.2.2.2.2.1.ln.1, w_take w5.2.2.2.2.2.2.2.2.1 u5.2.2.2.2.2.2.2.2.1 (by omega) (fun S6 m6 l6 t6 => ⟨rfl, ?_⟩)⟩
  have n6 : ∀ y, y ≠ V + 11 → y ≠ V + 12 → ¬ ML (V + 11) y := fun y h1 h2 => by unfold ML; omega
  have w6 : VW S6 V := ⟨by rw [m6.K]; exact w5.1, by rw [m6.G (n6 _ (by omega) (by omega))]; exact w5.2.1, by rw [m6.G (n6 _ (by omega) (by omega))]; exact w5.2.2.1, by rw [m6.G (n6 _ (by omega) (by omega))]; exact w5.2.2.2.1, by rw [m6.G (n6 _ (by omega) (by omega))]; exact w5.2.2.2.2.1, by rw [m6.G (n6 _ (by omega) (by omega))]; exact w5.2.2.2.2.2.1, w5.2.2.2.2.2.2.1.keep m6, w5.2.2.2.2.2.2.2.1.keep m6 (fun x x1 x2 => n6 x (by omega) (by omega)) (by omega), l6, w5.2.2.2.2.2.2.2.2.2.1.keep m6, w5.2.2.2.2.2.2.2.2.2.2.keep m6⟩
  have u6 : VW S6 U := u5.keep m6 (fun x x1 x2 => n6 x (by omega) (by omega))
  have mm6 : Md (fun x => ((x = V ∨ x = V + 1) ∨ x = V + 13) ∨ ML (V + 11) x) S S6 := mm5.trans m6
  have keepU : ∀ x, U ≤ x → x ≤ U + 14 → ¬ (((x = V ∨ x = V + 1) ∨ x = V + 13) ∨ ML (V + 11) x) := fun x x1 x2 => by unfold ML; omega
  refine loopU (P := fun j S' => At (d + 1) 20 c20_67 [(0, (2, V)), (1, (2, U)), (2, (0, j))] [] S' Q) (I := fun j S' => 0 ≤ j ∧ Md (MA (V + 2) 4) S6 S' ∧ VW S' V ∧ ∀ i, 0 ≤ i → i < j → ∀ p P, LN S6 (U + 2 + 1 + 2 * i) 7 p P → LN S' (V + 2 + 1 + 2 * i) 7 p P) 4 ?_ ?_ 0 S6 (by omega) ⟨by omega, Md.refl _ _, w6, fun i i0 i1 => by omega⟩
  · rintro j S7 hj ⟨j0, jm, jw, jl⟩ hk
    have ju : VW S7 U := u6.keep jm (fun x x1 x2 => by unfold MA; omega)
    apply w_Curve_copyFrom_67
    rw [jw.2.2.1, ju.2.2.1, jw.2.2.2.2.2.2.2.1.ptr j0 hj, ju.2.2.2.2.2.2.2.1.ptr j0 hj]
    refine ⟨fun hc => by omega, fun _ => ⟨jw.1, ⟨jw.2.2.2.2.2.2.2.1.1, j0, by rw [jw.2.2.2.2.2.2.2.1.2.1]; exact hj⟩, ju.1, ⟨ju.2.2.2.2.2.2.2.1.1, j0, by rw [ju.2.2.2.2.2.2.2.1.2.1]; exact hj⟩, (jw.2.2.2.2.2.2.2.1.2.2 j j0 hj).2.ln.1, ?_⟩⟩
    refine w_take (n := 7) (jw.2.2.2.2.2.2.2.1.2.2 j j0 hj).2 (ju.2.2.2.2.2.2.2.1.2.2 j j0 hj).2 (by omega) (fun S8 m8 l8 t8 => ⟨rfl, ?_⟩)
    rintro _ rfl
    rw [w32_id (by omega) (by omega)]
    refine hk _ ⟨by omega, jm.tr (m8.wide (fun x hx => by unfold ML at hx; unfold MA; omega)), jw.cf m8 j0 hj l8, fun i i0 i1 p P hl => ?_⟩
    by_cases q : i = j
    · subst q
      exact t8 p P (hl.keep jm (by unfold MA; omega) (by unfold MA; omega))
    · exact (jl i i0 (by omega) p P hl).keep m8 (by unfold ML; omega) (by unfold ML; omega)
  · rintro S7 ⟨j0, jm, jw, jl⟩
    have nn : ∀ y, y ≤ V + 2 ∨ V + 11 ≤ y → ¬ MA (V + 2) 4 y := fun y hy => by unfold MA; omega
    apply w_Curve_copyFrom_67
    refine ⟨fun _ => H S7 ((mm6.wide (fun x hx => by unfold ML at hx; unfold MV; omega)).tr (jm.wide (fun x hx => by unfold MA at hx; unfold MV; omega))) jw (fun k h0 h1 => ?_) (fun e h0 h1 => ?_) (fun e h0 h1 => ?_) (fun p P hl => ?_) (fun p C hl => ?_), fun hc => absurd (show (4 : Int) ≤ 4 by omega) hc⟩
    · rw [jm.G (nn _ (by omega)), m6.G (n6 _ (by omega) (by omega))]
      exact k5 k h0 h1
    · rw [jm.G (nn _ (by omega)), m6.G (n6 _ (by omega) (by omega))]
      exact g5 e h0 h1
    · rw [jm.G (nn _ (by omega)), m6.G (n6 _ (by omega) (by omega))]
      exact f5 e h0 h1
    · exact (t6 p P (hl.keep mm5 (by omega) (by omega))).keep jm (nn _ (by omega)) (nn _ (by omega))
    · have hl6 := hl.keep mm6 (fun x x1 x2 => keepU x (by omega) (by omega)) (by omega)
      exact ⟨jw.2.2.2.2.2.2.2.1.1, jw.2.2.2.2.2.2.2.1.2.1, fun i i0 i1 => ⟨jw.2.2.2.2.2.2.2.1.ptr i0 i1, jl i i0 i1 p (C i) (hl6.at i0 i1)⟩⟩
/-- a row of seven that lies so far apart, moved -/
def mv7 (p c : Int) (F : Int → Int) : Int → Int := mvN p c 6 6 F
set_option maxHeartbeats 1000000 in
theorem s_move {d : Nat} {V p fr sd by' : Int} {S : Hp} {G : Int → Int} {Q : Vl → Hp → Prop} (h : VW S V) (h0 : zG S V 0 = p) (hp : 2 ≤ p ∧ p ≤ 7) (hb : 0 ≤ by' ∧ by' < p) (hs : (sd = 1 ∧ 0 ≤ fr ∧ fr ≤ 42) ∨ (sd = 7 ∧ 0 ≤ fr ∧ fr < 7)) (hG : ∀ i, 0 ≤ i → i < 7 → zG S (V + 14) (fr + i * sd) = G i) (hGb : ∀ i, 0 ≤ G i ∧ G i < p) (hGh : ∀ i, 6 < i → G i = 0)
    (H : ∀ S', Md (fun x => x = V + 14) S S' → VW S' V → (∀ i, 0 ≤ i → i < 7 → zG S' (V + 14) (fr + i * sd) = mv7 p by' G i) → (∀ e, (∀ i, 0 ≤ i → i < 7 → e ≠ fr + i * sd) → zG S' (V + 14) e = zG S (V + 14) e) → Q (3, 0) S') : Ev d 26 [(2, V), (0, fr), (0, sd), (0, by')] S Q := by
  have inj : ∀ i j, fr + i * sd = fr + j * sd → i = j := by
    intro i j hij
    rcases hs with ⟨rfl, -, -⟩ | ⟨rfl, -, -⟩ <;> omega
  have rng : ∀ i, 0 ≤ i → i < 7 → 0 ≤ i * sd ∧ i * sd ≤ 42 ∧ 0 ≤ fr + i * sd ∧ fr + i * sd < 49 := by
    intro i h1 h2
    rcases hs with ⟨rfl, a1, a2⟩ | ⟨rfl, a1, a2⟩ <;> omega
  have sd1 : ∀ i, fr + i * sd + sd = fr + (i + 1) * sd := fun i => by
    rcases hs with ⟨rfl, -, -⟩ | ⟨rfl, -, -⟩ <;> omega
  have sdb : 0 ≤ sd ∧ sd ≤ 7 := by omega
  apply w_Curve_move_0
  refine loopU (P := fun k S' => At d 26 c26_3 [(0, (2, V)), (1, (0, fr)), (2, (0, sd)), (3, (0, by')), (4, (0, k))] [] S' Q) (I := fun k S' => 0 ≤ k ∧ Md (fun x => x = V + 14) S S' ∧ VW S' V ∧ (∀ i, 0 ≤ i → i < 7 → zG S' (V + 14) (fr + i * sd) = mvN p by' 6 k.toNat G i) ∧ ∀ e, (∀ i, 0 ≤ i → i < 7 → e ≠ fr + i * sd) → zG S' (V + 14) e = zG S (V + 14) e) 6 ?_ ?_ 0 S (by omega) ⟨by omega, Md.refl _ _, h, hG, fun e he => rfl⟩
  · rintro k S1 hk ⟨k0, km, kw, kg, ke⟩ hnext
    have hb9 := fun i => mvN_bd (c := by') (T := 6) (show 0 < p by omega) hGb k.toNat i
    have ht9 := fun i hi => mvN_top (p := p) (c := by') (T := 6) hGh k.toNat i hi (by omega)
    generalize hM : mvN p by' 6 k.toNat G = M at *
    apply w_Curve_move_3
    refine ⟨fun hc => by omega, fun _ => ?_⟩
    refine loopD (P := fun i S' => At d 26 c26_13 [(0, (2, V)), (1, (0, fr)), (2, (0, sd)), (3, (0, by')), (4, (0, k)), (5, (0, i))] [] S' Q) (I := fun i S' => i ≤ 5 ∧ Md (fun x => x = V + 14) S S' ∧ VW S' V ∧ (∀ j, 0 ≤ j → j < 7 → zG S' (V + 14) (fr + j * sd) = if i < j then qr p by' M 6 (j - 1) else M j) ∧ ∀ e, (∀ i, 0 ≤ i → i < 7 → e ≠ fr + i * sd) → zG S' (V + 14) e = zG S (V + 14) e) k ?_ ?_ 5 S1 (by omega) ⟨by omega, km, kw, fun j j0 j1 => ?_, ke⟩
    · rintro i S2 hi ⟨i1, im, iw, ig, ie⟩ hk2
      have p0 : zG S2 V 0 = p := by rw [im.G (by omega)]; exact h0
      have r1 := rng i (by omega) (by omega)
      have r2 := rng (i + 1) (by omega) (by omega)
      have v1 := ig i (by omega) (by omega)
      have v2 := ig (i + 1) (by omega) (by omega)
      rw [if_neg (by omega)] at v1
      rw [if_pos (by omega), show i + 1 - 1 = i by omega] at v2
      have b1 := hb9 i
      have b2 := qr_bd (p := p) (c := by') (P := M) (T := 6) (by omega) i
      have b3 := mul_B (x := by') (y := qr p by' M 6 i) (by omega) (by omega)
      apply w_Curve_move_13
      refine ⟨fun hc => by omega, fun _ => ?_⟩
      rw [w32_id (x := i * sd) (by omega) (by omega), w32_id (x := fr + i * sd) (by omega) (by omega)]
      rintro _ rfl
      rw [iw.2.2.2.2.2.1, p0, sd1, w32_id (x := fr + (i + 1) * sd) (by omega) (by omega), v1, v2]
      refine ⟨iw.1, iw.1, ⟨iw.2.2.2.2.2.2.2.2.2.2.1, by omega, by rw [iw.2.2.2.2.2.2.2.2.2.2.2]; omega⟩, iw.1, ⟨iw.2.2.2.2.2.2.2.2.2.2.1, by omega, by rw [iw.2.2.2.2.2.2.2.2.2.2.2]; omega⟩, iw.1, by omega, ⟨iw.2.2.2.2.2.2.2.2.2.2.1, by omega, by rw [iw.2.2.2.2.2.2.2.2.2.2.2]; omega⟩, ?_⟩
      rintro _ rfl
      rw [w32_id (x := by' * qr p by' M 6 i) (by omega) (by omega), w32_id (x := M i + by' * qr p by' M 6 i) (by omega) (by omega), tm_nn (by omega)]
      rintro _ rfl
      rw [w32_id (by omega) (by omega)]
      refine hk2 _ ⟨by omega, im.tr (Md.zS _ _ _ _), iw.put (Or.inr (Or.inr (Or.inr rfl))), fun j j0 j1 => ?_, fun e he => ?_⟩
      · by_cases q : j = i
        · rw [q, zG_zS_at, if_pos (by omega), qr_step (by omega)]
        · rw [zG_zS_ne _ (Or.inr (fun z => q (inj _ _ z))), ig j j0 j1]
          by_cases q2 : i < j
          · rw [if_pos q2, if_pos (by omega)]
          · rw [if_neg q2, if_neg (by omega)]
      · rw [zG_zS_ne _ (Or.inr (he i (by omega) (by omega)))]
        exact ie e he
    · rintro S2 ⟨i1, im, iw, ig, ie⟩
      apply w_Curve_move_13
      refine ⟨fun _ => ?_, fun hc => absurd (show k - 1 < k by omega) hc⟩
      rintro _ rfl
      rw [w32_id (by omega) (by omega)]
      refine hnext _ ⟨by omega, im, iw, fun j j0 j1 => ?_, ie⟩
      rw [ig j j0 j1, show (k + 1).toNat = k.toNat + 1 by omega]
      show _ = mvp p by' 6 (k.toNat : Int) (mvN p by' 6 k.toNat G) j
      rw [hM]
      unfold mvp
      rw [show ((k.toNat : Nat) : Int) = k by omega]
      by_cases q : j < k
      · rw [if_neg (by omega), if_pos q]
      · rw [if_pos (by omega), if_neg q]
    · rw [kg j j0 j1]
      by_cases q : 5 < j
      · rw [if_pos q, show j = 6 by omega, qr_step (by omega), qr_top (by omega), Int.mul_zero, Int.add_zero, em_id (hb9 6).1 (hb9 6).2]
      · rw [if_neg q]
  · rintro S1 ⟨k0, km, kw, kg, ke⟩
    apply w_Curve_move_3
    exact ⟨fun _ => H S1 km kw kg ke, fun hc => absurd (show (6 : Int) ≤ 6 by omega) hc⟩
/-- the curve's numbers by x - c and y - d -/
def mvC (p c : Int) (F : Int → Int) : Int → Int := fun e => mv7 p c (fun i => if 0 ≤ i ∧ i < 7 then F (7 * (e / 7) + i) else 0) (e % 7)
def mvD (p d : Int) (M : Int → Int) : Int → Int := fun e => mv7 p d (fun j => if 0 ≤ j ∧ j < 7 then M (7 * j + e % 7) else 0) (e / 7)
def mnN (F g : Int → Int) : Nat → Int
  | 0 => 12
  | e + 1 => if F e = 0 then mnN F g e else min (mnN F g e) (g e)
def lowV (p c d : Int) (F : Int → Int) : Int := mnN (mvD p d (mvC p c F)) (fun e => e / 7 + e % 7) 49
theorem mv7_bd {p c : Int} {F : Int → Int} (hp : 0 < p) (hF : ∀ i, 0 ≤ F i ∧ F i < p) (i : Int) : 0 ≤ mv7 p c F i ∧ mv7 p c F i < p := mvN_bd hp hF 6 i
theorem mvC_bd {p c : Int} {F : Int → Int} (hp : 0 < p) (hF : ∀ i, 0 ≤ F i ∧ F i < p) (e : Int) : 0 ≤ mvC p c F e ∧ mvC p c F e < p := mv7_bd hp (fun i => by (try dsimp only); split; exact hF _; omega) _
theorem mvD_bd {p c : Int} {F : Int → Int} (hp : 0 < p) (hF : ∀ i, 0 ≤ F i ∧ F i < p) (e : Int) : 0 ≤ mvD p c F e ∧ mvD p c F e < p := mv7_bd hp (fun i => by (try dsimp only); split; exact hF _; omega) _
set_option maxHeartbeats 1000000 in
theorem s_lowestAt {d : Nat} {V p c dd : Int} {S : Hp} {F : Int → Int} {Q : Vl → Hp → Prop} (h : VW S V) (h0 : zG S V 0 = p) (hp : 2 ≤ p ∧ p ≤ 7) (hc : 0 ≤ c ∧ c < p) (hd : 0 ≤ dd ∧ dd < p) (hF : ∀ e, 0 ≤ e → e < 49 → zG S (V + 1) e = F e) (hFb : ∀ e, 0 ≤ F e ∧ F e < p) (H : ∀ S', Md (fun x => x = V + 14) S S' → VW S' V → Q (0, lowV p c dd F) S') : Ev (d + 1) 25 [(2, V), (0, c), (0, dd)] S Q := by
  have hM1 := fun e => mvC_bd (c := c) (show 0 < p by omega) hFb e
  apply w_Curve_lowestAt_0
  rw [h.2.1, h.2.2.2.2.2.1]
  refine ⟨h.1, h.1, ⟨⟨h.2.2.2.2.2.2.1.1, h.2.2.2.2.2.2.2.2.2.2.1⟩, ⟨by omega, by omega, by omega⟩, by rw [h.2.2.2.2.2.2.1.2]; omega, by rw [h.2.2.2.2.2.2.2.2.2.2.2]; omega⟩, ?_⟩
  rintro _ rfl
  have m1 : Md (fun x => x = V + 14) S (zC S (V + 1) 0 (V + 14) 0 49) := ⟨rfl, rfl, fun a i q => by rw [zG_zC, if_neg (fun z => q z.1)]⟩
  have w1 : VW (zC S (V + 1) 0 (V + 14) 0 49) V := h.keep m1 (fun x x1 x2 => by omega)
  have f1 : ∀ e, 0 ≤ e → e < 49 → zG (zC S (V + 1) 0 (V + 14) 0 49) (V + 14) e = F e := fun e e0 e1 => by
    rw [zG_zC, if_pos ⟨rfl, by omega, by omega⟩, show 0 + (e - 0) = e by omega]
    exact hF e e0 e1
  generalize zC S (V + 1) 0 (V + 14) 0 49 = S1 at *
  refine loopU (P := fun j S' => At (d + 1) 25 c25_17 [(0, (2, V)), (1, (0, c)), (2, (0, dd)), (3, (0, j))] [] S' Q) (I := fun j S' => 0 ≤ j ∧ Md (fun x => x = V + 14) S S' ∧ VW S' V ∧ ∀ e, 0 ≤ e → e < 49 → zG S' (V + 14) e = if e / 7 < j then mvC p c F e else F e) 7 ?_ ?_ 0 S1 (by omega) ⟨by omega, m1, w1, fun e e0 e1 => by rw [if_neg (by omega)]; exact f1 e e0 e1⟩
  · rintro j S2 hj ⟨j0, jm, jw, jg⟩ hk
    apply w_Curve_lowestAt_17
    simp (disch := omega) only [w32_id]
    refine ⟨fun hc => by omega, fun _ => ⟨jw.1, ?_⟩⟩
    refine s_move (G := fun i => if 0 ≤ i ∧ i < 7 then F (7 * j + i) else 0) jw (by rw [jm.G (by omega)]; exact h0) hp hc (Or.inl ⟨rfl, by omega, by omega⟩) (fun i i0 i1 => ?_) (fun i => by (try dsimp only); split; exact hFb _; omega) (fun i hi => by (try dsimp only); rw [if_neg (by omega)]) (fun S3 m3 w3 g3 e3 => ⟨rfl, ?_⟩)
    · (try dsimp only)
      rw [if_pos ⟨i0, i1⟩, jg _ (by omega) (by omega), if_neg (by omega), show 7 * j + i * 1 = 7 * j + i by omega]
    · rintro _ rfl
      refine hk _ ⟨by omega, jm.tr m3, w3, fun e e0 e1 => ?_⟩
      by_cases q : e / 7 = j
      · have := g3 (e % 7) (by omega) (by omega)
        rw [show 7 * j + e % 7 * 1 = e by omega] at this
        rw [this, if_pos (by omega)]
        unfold mvC
        rw [q]
      · rw [e3 e (fun i i0 i1 => by omega), jg e e0 e1]
        by_cases q2 : e / 7 < j
        · rw [if_pos q2, if_pos (by omega)]
        · rw [if_neg q2, if_neg (by omega)]
  · rintro S2 ⟨j0, jm, jw, jg⟩
    apply w_Curve_lowestAt_17
    refine ⟨fun _ => ?_, fun hc => absurd (show (7 : Int) ≤ 7 by omega) hc⟩
    refine loopU (P := fun i S' => At (d + 1) 25 c25_41 [(0, (2, V)), (2, (0, dd)), (3, (0, i))] [] S' Q) (I := fun i S' => 0 ≤ i ∧ Md (fun x => x = V + 14) S S' ∧ VW S' V ∧ ∀ e, 0 ≤ e → e < 49 → zG S' (V + 14) e = if e % 7 < i then mvD p dd (mvC p c F) e else mvC p c F e) 7 ?_ ?_ 0 S2 (by omega) ⟨by omega, jm, jw, fun e e0 e1 => by rw [if_neg (by omega), jg e e0 e1, if_pos (by omega)]⟩
    · rintro i S3 hi ⟨i0, im, iw, ig⟩ hk
      apply w_Curve_lowestAt_41
      refine ⟨fun hc => by omega, fun _ => ⟨iw.1, ?_⟩⟩
      refine s_move (G := fun j => if 0 ≤ j ∧ j < 7 then mvC p c F (7 * j + i) else 0) iw (by rw [im.G (by omega)]; exact h0) hp hd (Or.inr ⟨rfl, by omega, by omega⟩) (fun j j0 j1 => ?_) (fun j => by (try dsimp only); split; exact hM1 _; omega) (fun j hj => by (try dsimp only); rw [if_neg (by omega)]) (fun S4 m4 w4 g4 e4 => ⟨rfl, ?_⟩)
      · (try dsimp only)
        rw [if_pos ⟨j0, j1⟩, ig _ (by omega) (by omega), if_neg (by omega), show i + j * 7 = 7 * j + i by omega]
      · rintro _ rfl
        rw [w32_id (by omega) (by omega)]
        refine hk _ ⟨by omega, im.tr m4, w4, fun e e0 e1 => ?_⟩
        by_cases q : e % 7 = i
        · have := g4 (e / 7) (by omega) (by omega)
          rw [show i + e / 7 * 7 = e by omega] at this
          rw [this, if_pos (by omega)]
          unfold mvD
          rw [q]
        · rw [e4 e (fun j j0 j1 => by omega), ig e e0 e1]
          by_cases q2 : e % 7 < i
          · rw [if_pos q2, if_pos (by omega)]
          · rw [if_neg q2, if_neg (by omega)]
    · rintro S3 ⟨i0, im, iw, ig⟩
      apply w_Curve_lowestAt_41
      refine ⟨fun _ => ?_, fun hc => absurd (show (7 : Int) ≤ 7 by omega) hc⟩
      have hg : ∀ e, 0 ≤ e → e < 49 → zG S3 (V + 14) e = mvD p dd (mvC p c F) e := fun e e0 e1 => by rw [ig e e0 e1, if_pos (by omega)]
      generalize hM : mvD p dd (mvC p c F) = M at hg
      refine loopU (α := Int) (P := fun e v => At (d + 1) 25 c25_67 [(0, (2, V)), (3, (0, v)), (4, (0, e))] [] S3 Q) (I := fun e v => 0 ≤ e ∧ v = mnN M (fun e => e / 7 + e % 7) e.toNat) 49 ?_ ?_ 0 12 (by omega) ⟨by omega, rfl⟩
      · rintro e v he ⟨e0, ev⟩ hk
        have st : mnN M (fun e => e / 7 + e % 7) (e + 1).toNat = if M e = 0 then mnN M (fun e => e / 7 + e % 7) e.toNat else min (mnN M (fun e => e / 7 + e % 7) e.toNat) (e / 7 + e % 7) := by
          rw [show (e + 1).toNat = e.toNat + 1 by omega]
          show (if M (e.toNat : Int) = 0 then mnN M (fun e => e / 7 + e % 7) e.toNat else min (mnN M (fun e => e / 7 + e % 7) e.toNat) ((e.toNat : Int) / 7 + (e.toNat : Int) % 7)) = _
          rw [show ((e.toNat : Nat) : Int) = e by omega]
        have nxt : ∀ v', v' = mnN M (fun e => e / 7 + e % 7) (e + 1).toNat → At (d + 1) 25 c25_100 [(0, (2, V)), (3, (0, v')), (4, (0, e))] [] S3 Q := by
          intro v' hv
          apply w_Curve_lowestAt_100
          rintro _ rfl
          rw [w32_id (by omega) (by omega)]
          exact hk _ ⟨by omega, hv⟩
        apply w_Curve_lowestAt_67
        rw [iw.2.2.2.2.2.1, hg e e0 he, show e.tdiv 7 = e / 7 from Int.tdiv_eq_ediv_of_nonneg e0, show e.tmod 7 = e % 7 from tm_nn e0]
        simp (disch := omega) only [w32_id]
        exact ⟨fun hc => by omega, fun _ => ⟨iw.1, ⟨iw.2.2.2.2.2.2.2.2.2.2.1, e0, by rw [iw.2.2.2.2.2.2.2.2.2.2.2]; exact he⟩, fun hz => nxt _ (by rw [st, if_pos hz, ev]), fun hz => ⟨by omega, by omega, s_min ⟨_, rfl, nxt _ (by rw [st, if_neg hz, ev])⟩⟩⟩⟩
      · rintro v ⟨e0, ev⟩
        apply w_Curve_lowestAt_67
        refine ⟨fun _ => ?_, fun hc => absurd (show (49 : Int) ≤ 49 by omega) hc⟩
        have : v = lowV p c dd F := by
          rw [ev, ← hM]
          rfl
        rw [this]
        exact H S3 im iw
