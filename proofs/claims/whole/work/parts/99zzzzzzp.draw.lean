/-! draw. -/
theorem drF_dg {p n s : Int} (hn : 2 ≤ n ∧ n ≤ 4) : dg6 (drF p n s) := fun x x0 x1 hx => by
  unfold dgS at hx
  unfold drF
  rw [if_neg (by omega), if_neg (by omega)]
theorem mxN_le {F g : Int → Int} {B : Int} (hB : 0 ≤ B) : ∀ k : Nat, (∀ e : Int, 0 ≤ e → e < k → F e ≠ 0 → g e ≤ B) → mxN F g k ≤ B
  | 0, _ => hB
  | k + 1, h => by
    have ih := mxN_le (F := F) (g := g) hB k (fun e e0 e1 => h e e0 (by omega))
    show (if F k = 0 then mxN F g k else max (mxN F g k) (g k)) ≤ B
    by_cases q : F k = 0
    · rw [if_pos q]
      exact ih
    · rw [if_neg q]
      have := h k (by omega) (by omega) q
      omega
theorem mxN_ge {F g : Int → Int} {e : Int} (e0 : 0 ≤ e) (he : F e ≠ 0) : ∀ k : Nat, e < k → g e ≤ mxN F g k
  | 0, h => by omega
  | k + 1, h => by
    show g e ≤ (if F k = 0 then mxN F g k else max (mxN F g k) (g k))
    by_cases q : e = k
    · rw [← q, if_neg he]
      omega
    · have ih := mxN_ge (g := g) e0 he k (by omega)
      split
      · exact ih
      · omega
theorem drF_hg {p n s : Int} (hn : 2 ≤ n ∧ n ≤ 4) : hgt (drF p n s) = n ∧ isCv (drF p n s) := by
  have z : ∀ e, 7 * n < e → drF p n s e = 0 := fun e he => by
    unfold drF
    rw [if_neg (by omega), if_neg (by omega)]
  have o : drF p n s (7 * n) = 1 := by
    unfold drF
    rw [if_pos rfl]
  have h : hgt (drF p n s) = n := by
    have a : hgt (drF p n s) ≤ n := mxN_le (by omega) 49 (fun e e0 e1 ne => by
      (try dsimp only)
      by_cases q : 7 * n < e
      · exact absurd (z e q) ne
      · omega)
    have b := mxN_ge (F := drF p n s) (g := fun e => e / 7) (e := 7 * n) (by omega) (by rw [o]; decide) 49 (by omega)
    (try dsimp only at b)
    have c : mxN (drF p n s) (fun e => e / 7) 49 = hgt (drF p n s) := rfl
    omega
  refine ⟨h, by rw [h]; exact hn.1, by rw [h]; exact hn.2, by rw [h]; exact o, fun i i0 i1 => ?_⟩
  rw [h]
  exact z _ (by omega)
theorem r_draw {d : Nat} {S : Hp} {D s N : Int} (hD : 485 ≤ D) (R : Rel S D) : TW (d + 40) 102 201 [(0, s), (0, N)] S D := by
  obtain ⟨v, u, p, n, g, F, Δ, kn, cl, md, re⟩ := R
  have id0 := rel_id kn cl md re
  have h2 := kn.1.two
  have vw := cl.vw
  have vu := cl.1.2.2.2.2.1
  have vwu : VW S u := by
    rcases vu with w | w
    · rw [w.2]
      exact cl.2.1.2.2.1
    · rw [w.2]
      exact cl.2.1.2.1
  unfold TW
  apply w_Crc_draw_0
  refine ⟨fun z => ⟨_, rfl, id0.1, m_draw md.1 md.2.1 h2 (fun _ => ⟨rfl, id0⟩) (fun a b => by omega) (fun a b => by omega)⟩, fun z => ?_⟩
  have hn : 2 ≤ N ∧ N ≤ 4 := by omega
  have rd := cl.rd
  rw [cl.1.2.1]
  refine ⟨cl.1.1, rd.1, ?_⟩
  apply w_Reader_result_0
  have p4 : zG S (2 + 2) 0 = 5 := rd.2.2.2.2.2.2.2.1 0 (by omega) (by omega)
  have r5 : zK S 5 = 101 ∧ zL S 5 = 49 := rd.2.2.2.2.2.2.2.2 0 (by omega) (by omega)
  rw [rd.2.2.1, p4]
  refine ⟨rd.1, ⟨rd.2.2.2.2.2.2.1.1, by omega, by rw [rd.2.2.2.2.2.2.1.2]; omega⟩, _, rfl, ?_⟩
  -- the row, filled
  have done : ∀ z S3, Md (fun x => x = 5) S S3 → (∀ e, 0 ≤ e → e < 49 → zG S3 5 e = drF p N s e) → At (d + 39 + 1) 102 c102_54 [(0, (2, 1)), (2, (0, N)), (3, (2, 5)), (4, (0, z)), (5, (0, N))] [] S3 (fun r S1 => ∃ x, r = (0, x) ∧ MID S S1 D ∧ Ev (d + 40) 201 [(2, D), (0, s), (0, N)] S1 (fun r' S2 => r' = (0, x) ∧ MID S1 S2 D ∧ Rel S2 D)) := fun z S3 m3 v3 => by
    obtain ⟨hg, cvd⟩ := drF_hg (p := p) (s := s) hn
    have bF : ∀ e, 0 ≤ drF p N s e ∧ drF p N s e < p := fun e => drF_bd h2.1 e
    have dg : dg6 (drF p N s) := drF_dg hn
    have cp3 : CP S3 v u := cl.1.keep m3 (by omega) (by omega) (by omega) (by omega)
    have rd3 : RDW S3 2 := rd.keep m3 (fun i _ => m3.G (by omega) i) (by omega)
    have co3 : CO S3 := by
      obtain ⟨a1, a2, a3, a4, a5, a6, a7, a8, a9, a10, a11, a12, a13⟩ := cl.2.1
      exact ⟨rd3, a2.keep m3 (fun x x0 x1 => by omega), a3.keep m3 (fun x x0 x1 => by omega), a4.keep m3 (fun x x0 x1 => by omega), a5.keep m3 (fun x x0 x1 => by omega), a6.keep m3 (fun x x0 x1 => by omega), a7.keep m3 (fun x x0 x1 => by omega), a8.keep m3 (fun x x0 x1 => by omega), a9.keep m3 (fun x hx => by omega), a10.keep m3 (by omega), fun c c0 c1 => (a11 c c0 c1).keep m3 (by omega), fun s s0 s1 => (a12 s s0 s1).keep m3 (fun x x0 x1 => by omega), fun k k0 k1 => (a13 k k0 k1).keep m3 (fun x x0 x1 => by omega)⟩
    have vu3 : VW S3 u := vwu.keep m3 (fun x x0 x1 => by omega)
    have g3 : zG S3 v 0 = p := (m3.G (by omega) _).trans cl.c0
    apply w_Crc_draw_54
    rw [cp3.a1, g3, cp3.2.2.2.1]
    refine ⟨fun _ => ⟨cp3.1, cp3.1, by rw [m3.K]; exact vw.1, vu3.1, ?_⟩, fun w => absurd (Int.le_refl _) w⟩
    rintro _ rfl
    have M4 := Md.zS S3 u 0 p
    have vu4 : VW (zS S3 u 0 p) u := vu3.put (Or.inl ⟨rfl, by omega⟩)
    have g4 : zG (zS S3 u 0 p) u 0 = p := zG_zS_at _ _ _ _
    generalize zS S3 u 0 p = S4 at M4 vu4 g4 ⊢
    have cp4 : CP S4 v u := cp3.keep M4 (by omega) (by omega) (by omega) (by omega)
    have co4 : CO S4 := co_tr co3 vu M4 (fun x hx h4 hu => by omega) vu4 (co3.2.2.2.2.2.2.1.keep M4 (fun x x0 x1 => by omega)) (co3.2.2.2.2.2.2.2.1.keep M4 (fun x x0 x1 => by omega))
    rw [cp4.2.2.2.1]
    refine ⟨cp4.1, vu4.1, s_ctake vu4 (by unfold rowI; rw [M4.K, M4.L, m3.K, m3.L]; exact r5) (by omega) (fun e e0 e1 => by rw [M4.G (by omega)]; exact v3 e e0 e1) h2 bF (fun cv S5 m5 vu5 k0 k1 k2 ka kl => ⟨_, rfl, fun w => absurd w (by decide), fun _ => ⟨?_, ?_⟩⟩) (fun ncv => absurd cvd ncv)⟩
    · rw [m5.K]
      exact cp4.1
    rw [hg] at k1 kl
    unfold MV at m5
    have cp5 : CP S5 v u := cp4.keep m5 (by omega) (by omega) (by omega) (by omega)
    have co5 : CO S5 := co_tr co4 vu m5 (fun x hx h4 hu => by omega) vu5 (co4.2.2.2.2.2.2.1.keep m5 (fun x x0 x1 => by omega)) (co4.2.2.2.2.2.2.2.1.keep m5 (fun x x0 x1 => by omega))
    have m05 : Md (fun x => TRM u x ∨ x = 2 ∨ (5 ≤ x ∧ x ≤ 21)) S S5 := (m3.wide (fun x hx => by omega)).tr ((M4.wide (fun x hx => by unfold TRM; omega)).tr (m5.wide (fun x hx => by unfold TRM; omega)))
    have f5 : ∀ i, zG S5 1 i = zG S 1 i := fun i => by
      rw [m5.G (by omega), M4.G (by omega)]
      exact m3.G (by omega) _
    have nT : ∀ x, ((2 ≤ x ∧ x ≤ 21) ∨ 239 ≤ x ∨ x < 1) → ¬ TRM u x := fun x hx => by
      unfold TRM
      omega
    have z5 : ∀ i, zG S5 2 i = zG S 2 i := fun i => by
      rw [m5.G (by omega), M4.G (by omega), m3.G (by omega)]
    have nS : ∀ x, (x < 1 ∨ 485 ≤ x) → ¬ (TRM u x ∨ x = 2 ∨ (5 ≤ x ∧ x ≤ 21)) := fun x hx => by
      unfold TRM
      omega
    refine s_enterTrial (F := drF p N s) cp5 co5 kn.1 hn vu5 (k0.trans g4) k1 k2 ka kl bF (cf_wt2 hn dg) (fun S6 P' m6 f6 f14 cp6 co6 nw dz => ⟨_, rfl, _, rfl, ?_⟩) (fun S6 S7 P' m6 m7 f6 f7 cp7 co7 cu7 cq => ⟨_, rfl, _, rfl, ?_⟩)
    · have m06 := m05.tr (m6.wide (fun x hx => Or.inl hx))
      have mi : MID S S6 D := mid_md m06 cl.1.1 md.1.1 (nS _ (by omega))
      have o6 : ∀ x i, 485 ≤ x → zG S6 x i = zG S x i := fun x i hx => m06.G (nS x (by omega)) i
      refine ⟨mi, m_draw (md.1.md m06 (nS _ (by omega))) ((o6 _ _ (by omega)).trans md.2.1) h2 (fun w => absurd hn w) (fun _ _ T2 P'' t2 dwT nw' _ _ => ?_) (fun _ _ T1 T2 c b => ?_)⟩
      · have t2' : Md (fun x => D + 22 ≤ x ∧ x ≤ D + 29) S6 T2 := t2
        have oD : ∀ j, zG T2 D j = zG S D j := fun j => (t2'.G (by omega) j).trans (o6 _ _ (by omega))
        have zz : ∀ i, zG T2 2 i = zG S 2 i := fun i => by
          rw [t2'.G (by omega), m6.G (nT _ (by omega))]
          exact z5 i
        have mA : Md (fun x => TRM u x ∨ x = 2 ∨ (5 ≤ x ∧ x ≤ 21) ∨ x = D ∨ (D + 14 ≤ x ∧ x ≤ D + 29)) S T2 := (m06.wide (fun x hx => hx.elim Or.inl (fun w => Or.inr (w.elim Or.inl (fun w => Or.inr (Or.inl w)))))).tr (t2'.wide (fun x hx => Or.inr (Or.inr (Or.inr (by omega)))))
        have n3 : ∀ x, (x = 3 ∨ x = D + 13) → ¬ (TRM u x ∨ x = 2 ∨ (5 ≤ x ∧ x ≤ 21) ∨ x = D ∨ (D + 14 ≤ x ∧ x ≤ D + 29)) := fun x hx => by
          unfold TRM
          omega
        obtain ⟨e1, e2, e3⟩ := re.1
        refine ⟨rfl, mid_md t2' mi.1 mi.2.1 (by omega), rel_tried hD kn cl md re mA (cp6.keep t2' (by omega) (by omega) (by omega) (by omega)) (co6.far t2' (fun x x0 x1 => by omega)) (fun i hi => ?_) ⟨by rw [zz, oD]; exact e1, by rw [oD]; exact e2, fun i i0 i1 => ?_⟩ (Or.inl ?_) dwT (fun j hj => oD j)⟩
        · rw [t2'.G (by omega), f6 i (by omega)]
          exact f5 i
        · rw [oD] at i1
          rw [mA.G (n3 _ (Or.inl rfl)), mA.G (n3 _ (Or.inr rfl))]
          exact e3 i i0 i1
        · rw [t2'.G (by omega)]
          exact f14
      · obtain ⟨b1, b2, b3, b4, b5, b6, b7, b8, b9, P'', b10, b11, b12, x, b13⟩ := b
        exfalso
        apply b13
        by_cases x0 : 0 ≤ x
        · rw [← nw_ds (nwX_ok nw) b10 x]
          exact dz x x0
        · exact dsM_neg (by omega)
    · have m06 := m05.tr (m6.wide (fun x hx => Or.inl hx))
      have nF : ∀ x, (x < 301 ∨ 404 ≤ x) → x ≠ 1 → ¬ FGM x := fun x hx h1 => by
        unfold FGM
        omega
      have o7 : ∀ x i, 485 ≤ x → zG S7 x i = zG S x i := fun x i hx => (m7.G (nF x (by omega) (by omega)) i).trans (m06.G (nS x (by omega)) i)
      have mi6 : MID S S6 D := mid_md m06 cl.1.1 md.1.1 (nS _ (by omega))
      have mi : MID S S7 D := mid_tr mi6 (mid_md m7 mi6.1 mi6.2.1 (nF _ (by omega) (by omega)))
      have dw7 : DW S7 D := (md.1.md m06 (nS _ (by omega))).md m7 (nF _ (by omega) (by omega))
      refine ⟨mi, m_draw dw7 ((o7 _ _ (by omega)).trans md.2.1) h2 (fun w => absurd hn w) (fun _ _ T2 P'' t2 dwT nw' _ dz => ?_) (fun _ _ T1 T2 c b => ?_)⟩
      · have nwq := cq.2.2.2.1
        obtain ⟨x, x0, xn⟩ := cq.2.2.2.2.2.2.2
        refine absurd (dz x) ?_
        rw [← nw_ds nwq nw' x]
        exact xn
      · have b' := b
        obtain ⟨b1, b2, b3, b4, b5, b6, b7, b8, b9, -⟩ := b'
        have oD : zG T2 D 18 = zG S D 18 := by
          rw [b8 18 (by omega) (by omega) (by omega) (by omega), c.G (by omega)]
          exact o7 _ _ (by omega)
        have zz : ∀ i, zG T2 2 i = zG S 2 i := fun i => by
          rw [b1.G (by omega), c.G (by omega), m7.G (nF _ (by omega) (by omega)), m6.G (nT _ (by omega))]
          exact z5 i
        have y3 : ∀ i, zG T2 3 i = zG S 3 i := fun i => by
          rw [b1.G (by omega), c.G (by omega), m7.G (nF _ (by omega) (by omega)), m06.G (by unfold TRM; omega)]
        have y13 : ∀ i, zG T2 (D + 13) i = zG S (D + 13) i := fun i => by
          rw [b1.G (by omega), c.G (by omega)]
          exact o7 _ _ (by omega)
        obtain ⟨e1, e2, e3⟩ := re.1
        refine ⟨rfl, mid_md ((c.wide (N := fun x => D ≤ x) (fun x hx => by omega)).tr (b1.wide (fun x hx => by omega))) mi.1 mi.2.1 (by omega), rel_new hD cl md re m06 m7 (fun i h1 h2 h14 => (f6 i h1 h2 h14).trans (f5 i)) f7 cp7 co7 cu7 cq dg (c.wide (fun x hx => by omega)) (fun j _ => c.G (by omega) j) b ⟨by rw [zz, oD]; exact e1, by rw [oD]; exact e2, fun i i0 i1 => ?_⟩⟩
        rw [oD] at i1
        rw [y3, y13]
        exact e3 i i0 i1
  refine loopU (P := fun e S' => At (d + 39 + 1) 102 c102_23 [(0, (2, 1)), (1, (0, s)), (2, (0, N)), (3, (2, 5)), (4, (0, e))] [] S' (fun r S1 => ∃ x, r = (0, x) ∧ MID S S1 D ∧ Ev (d + 40) 201 [(2, D), (0, s), (0, N)] S1 (fun r' S2 => r' = (0, x) ∧ MID S1 S2 D ∧ Rel S2 D))) (I := fun e S' => 0 ≤ e ∧ Md (fun x => x = 5) S S' ∧ ∀ x, 0 ≤ x → x < e → zG S' 5 x = 0) 49 ?_ ?_ 0 S (by omega) ⟨by omega, Md.refl _ _, fun x x0 x1 => by omega⟩
  · rintro e S1 he ⟨e0, m1, v1⟩ next
    apply w_Crc_draw_23
    refine ⟨fun w => by omega, fun _ => ⟨⟨by rw [m1.K]; exact r5.1, e0, by rw [m1.L, r5.2]; omega⟩, ?_⟩⟩
    rintro _ rfl
    rintro _ rfl
    rw [w32_id (by omega) (by omega)]
    refine next _ ⟨by omega, m1.tr (Md.zS _ _ _ _), fun x x0 x1 => ?_⟩
    rw [zG_zS]
    by_cases q : x = e
    · rw [if_pos ⟨rfl, q⟩]
    · rw [if_neg (fun w => q w.2)]
      exact v1 x x0 (by omega)
  · rintro S1 ⟨-, m1, v1⟩
    apply w_Crc_draw_23
    rw [w32_id (x := 7 * N) (by omega) (by omega)]
    refine ⟨fun _ => ⟨⟨by rw [m1.K]; exact r5.1, by omega, by rw [m1.L, r5.2]; omega⟩, ?_⟩, fun w => absurd (Int.le_refl _) w⟩
    rintro _ rfl
    have M2 : Md (fun x => x = 5) S (zS S1 5 (7 * N) 1) := m1.tr (Md.zS _ _ _ _)
    have v2 : ∀ e, 0 ≤ e → e < 49 → zG (zS S1 5 (7 * N) 1) 5 e = if e = 7 * N then 1 else 0 := fun e e0 e1 => by
      rw [zG_zS]
      by_cases q : e = 7 * N
      · rw [if_pos ⟨rfl, q⟩, if_pos q]
      · rw [if_neg (fun w => q w.2), if_neg q]
        exact v1 e e0 e1
    generalize zS S1 5 (7 * N) 1 = S2 at M2 v2 ⊢
    refine loopU2 (α := Int) (β := Hp) (P := fun j z S' => At (d + 39 + 1) 102 c102_54 [(0, (2, 1)), (2, (0, N)), (3, (2, 5)), (4, (0, z)), (5, (0, j))] [] S' (fun r S1 => ∃ x, r = (0, x) ∧ MID S S1 D ∧ Ev (d + 40) 201 [(2, D), (0, s), (0, N)] S1 (fun r' S2 => r' = (0, x) ∧ MID S1 S2 D ∧ Rel S2 D))) (I := fun j z S' => 0 ≤ j ∧ z = drZ s (drI N j).toNat ∧ Md (fun x => x = 5) S S' ∧ ∀ e, 0 ≤ e → e < 49 → zG S' 5 e = if e / 7 < j ∨ e = 7 * N then drF p N s e else 0) N ?_ ?_ 0 s S2 (by omega) ⟨by omega, rfl, M2, fun e e0 e1 => ?_⟩
    · rintro j z S3 hj ⟨j0, rfl, M3, v3⟩ hk
      apply w_Crc_draw_54
      refine ⟨fun hc => by omega, fun _ => ?_⟩
      have dI : drI N (j + 1) = drI N j + (N + 2 - j) := by
        unfold drI
        have : j = 0 ∨ j = 1 ∨ j = 2 ∨ j = 3 := by omega
        rcases this with rfl | rfl | rfl | rfl <;> simp <;> omega
      have dI0 : 0 ≤ drI N j := by
        unfold drI
        have : j = 0 ∨ j = 1 ∨ j = 2 ∨ j = 3 := by omega
        rcases this with rfl | rfl | rfl | rfl <;> simp <;> omega
      refine loopU2 (α := Int) (β := Hp) (P := fun i z S' => At (d + 39 + 1) 102 c102_63 [(0, (2, 1)), (2, (0, N)), (3, (2, 5)), (4, (0, z)), (5, (0, j)), (6, (0, i))] [] S' (fun r S1 => ∃ x, r = (0, x) ∧ MID S S1 D ∧ Ev (d + 40) 201 [(2, D), (0, s), (0, N)] S1 (fun r' S2 => r' = (0, x) ∧ MID S1 S2 D ∧ Rel S2 D))) (I := fun i z S' => 0 ≤ i ∧ z = drZ s (drI N j + i).toNat ∧ Md (fun x => x = 5) S S' ∧ ∀ e, 0 ≤ e → e < 49 → zG S' 5 e = if e / 7 < j ∨ e = 7 * N ∨ (e / 7 = j ∧ e % 7 < i) then drF p N s e else 0) (N + 2 - j) ?_ ?_ 0 _ S3 (by omega) ⟨by omega, by rw [show drI N j + 0 = drI N j by omega], M3, fun e e0 e1 => ?_⟩
      · rintro i z S4 hi ⟨i0, rfl, M4, v4⟩ hk2
        have a1 : zG S4 1 1 = v := (M4.G (by omega) 1).trans cl.1.a1
        have c0 : zG S4 v 0 = p := (M4.G (by omega) 0).trans cl.c0
        apply w_Crc_draw_63
        rw [w32_id (x := N + 1) (by omega) (by omega), w32_id (x := N + 1 - j) (by omega) (by omega)]
        refine ⟨fun hc => by omega, fun _ => ?_⟩
        have ez : w32 (w32 (drZ s (drI N j + i).toNat * 1103515245) + 12345) = drZ s (drI N j + (i + 1)).toNat := by
          rw [show (drI N j + (i + 1)).toNat = (drI N j + i).toNat + 1 by omega]
          rfl
        rw [ez]
        rintro _ rfl
        have u := bUsh_9 (drZ s (drI N j + (i + 1)).toNat)
        rw [a1, c0, w32_id (x := 7 * j) (by omega) (by omega), w32_id (x := i + 7 * j) (by omega) (by omega), tm_nn u.1]
        refine ⟨by rw [M4.K]; exact cl.1.1, by rw [M4.K]; exact vw.1, by omega, ⟨by rw [M4.K]; exact r5.1, by omega, by rw [M4.L, r5.2]; omega⟩, ?_⟩
        rintro _ rfl _ rfl
        rw [w32_id (x := i + 1) (by omega) (by omega)]
        refine hk2 _ _ ⟨by omega, rfl, M4.tr (Md.zS _ _ _ _), fun e e0 e1 => ?_⟩
        by_cases q : e = i + 7 * j
        · rw [q, zG_zS_at, if_pos (by omega)]
          unfold drF
          rw [if_neg (by omega), if_pos (by omega), show (i + 7 * j) / 7 = j by omega, show (i + 7 * j) % 7 = i by omega, show drI N j + i + 1 = drI N j + (i + 1) by omega]
        · rw [zG_zS_ne _ (Or.inr q), v4 e e0 e1]
          by_cases q2 : e / 7 < j ∨ e = 7 * N ∨ (e / 7 = j ∧ e % 7 < i)
          · rw [if_pos q2, if_pos (by omega)]
          · rw [if_neg q2, if_neg (by omega)]
      · rintro z S4 ⟨i0, rfl, M4, v4⟩
        apply w_Crc_draw_63
        rw [w32_id (x := N + 1) (by omega) (by omega), w32_id (x := N + 1 - j) (by omega) (by omega)]
        refine ⟨fun _ => ?_, fun hc => absurd (show N + 1 - j < N + 2 - j by omega) hc⟩
        rintro _ rfl
        rw [w32_id (x := j + 1) (by omega) (by omega)]
        refine hk _ _ ⟨by omega, by rw [dI], M4, fun e e0 e1 => ?_⟩
        rw [v4 e e0 e1]
        by_cases q2 : e / 7 < j ∨ e = 7 * N ∨ (e / 7 = j ∧ e % 7 < N + 2 - j)
        · rw [if_pos q2, if_pos (by omega)]
        · rw [if_neg q2]
          by_cases q3 : e / 7 < j + 1 ∨ e = 7 * N
          · rw [if_pos q3]
            unfold drF
            rw [if_neg (by omega), if_neg (by omega)]
          · rw [if_neg q3]
      · rw [v3 e e0 e1]
        by_cases q : e / 7 < j ∨ e = 7 * N
        · rw [if_pos q, if_pos (by omega)]
        · rw [if_neg q, if_neg (by omega)]
    · rintro z S3 ⟨-, rfl, M3, v3⟩
      refine done _ S3 M3 (fun e e0 e1 => ?_)
      rw [v3 e e0 e1]
      by_cases q : e / 7 < N ∨ e = 7 * N
      · rw [if_pos q]
      · rw [if_neg q]
        unfold drF
        rw [if_neg (by omega), if_neg (by omega)]
    · rw [v2 e e0 e1]
      by_cases q : e = 7 * N
      · rw [if_pos q, if_pos (by omega)]
        unfold drF
        rw [if_pos q]
      · rw [if_neg q, if_neg (by omega)]
