/-! An element comes to a shelf; the reference goes through its rings before it. -/
theorem cls_wr2 {M : Int → Prop} {S S' : Hp} {v u p n g : Int} {F Δ : Int → Int} (kn : KNO p n g F Δ) (cl : CLS S v u p n g F Δ) (m : Md M S S') (nM : ∀ x, (x = 0 ∨ (4 ≤ x ∧ x ≤ 51) ∨ (67 ≤ x ∧ x ≤ 69) ∨ (90 ≤ x ∧ x ≤ 342)) → ¬ M x) (h1 : ∀ i, i ≠ 4 → i ≠ 8 → i ≠ 14 → i ≠ 15 → zG S' 1 i = zG S 1 i) (rd : RDW S' 2) (v5 : VW S' 52) (q7 : QW S' 70 128) (q8 : QW S' 80 128) (sw : ∀ s, 0 ≤ s → s < 6 → SW S' (343 + 12 * s)) (bw : ∀ k, 0 ≤ k → k < 7 → QW S' (415 + 10 * k) 31) : CLS S' v u p n g F Δ := by
  obtain ⟨a, b, c, d, e⟩ := cl
  have vu := a.2.2.2.2.1
  obtain ⟨b1, b2, b3, b4, b5, b6, b7, b8, b9, b10, b11, b12, b13⟩ := b
  refine ⟨a.same m h1 (nM _ (by omega)) (nM _ (by omega)) (nM _ (by omega)), ⟨rd, b2.keep m (fun x x0 x1 => nM x (by omega)), b3.keep m (fun x x0 x1 => nM x (by omega)), v5, q7, q8, b7.keep m (fun x x0 x1 => nM x (by omega)), b8.keep m (fun x x0 x1 => nM x (by omega)), b9.keep m (fun x hx => nM x (by omega)), b10.keep m (nM _ (by omega)), fun c c0 c1 => (b11 c c0 c1).keep m (nM _ (by omega)), sw, bw⟩, c.keep m (fun x x0 x1 => nM x (by omega)), d.keep kn.n4 m (fun x x0 x1 => nM x (by omega)), e.keep m (fun x hx => nM x (by omega))⟩
theorem rel_hold2 {S S' : Hp} {D v u p n g s M c : Int} {F Δ : Int → Int} {G : Int → Int → Int} (hD : 485 ≤ D) (kn : KNO p n g F Δ) (cl : CLS S v u p n g F Δ) (md' : MDL S' D p n g F Δ) (re : RES S D p n F) (hs : 0 ≤ s ∧ s < 6) (n0 : n ≠ 0) (m : Md (fun x => x = 1 ∨ (70 ≤ x ∧ x ≤ 89) ∨ (343 + 12 * s ≤ x ∧ x ≤ 353 + 12 * s) ∨ x = D ∨ (D + 3 ≤ x ∧ x ≤ D + 6) ∨ (D + 14 ≤ x ∧ x ≤ D + 42)) S S') (h : HLD p s M c G S S') (q7 : QW S' 70 128) (q8 : QW S' 80 128) (o : ∀ i, i = 16 ∨ i = 18 ∨ i = 61 ∨ i = 62 ∨ i = 63 → zG S' D i = zG S D i) (h3 : zG S' (D + 3) s = 1) (h5 : zG S' (D + 5) s = M) (h6 : zG S' (D + 6) s = c) (hM : 0 ≤ M ∧ M ≤ 20) (hc : 0 ≤ c ∧ c < p) (hz : LOW p M c G) (el : elW S' D s n p G) (e : ∀ t, 0 ≤ t → t < 6 → t ≠ s → zG S' (D + 3) t = zG S (D + 3) t ∧ zG S' (D + 5) t = zG S (D + 5) t ∧ zG S' (D + 6) t = zG S (D + 6) t ∧ ∀ i, 0 ≤ i → i < 124 → zG S' (D + 4) (124 * t + i) = zG S (D + 4) (124 * t + i)) : Rel S' D := by
  obtain ⟨j1, j14, jsw, j0, jh, jq⟩ := h
  obtain ⟨tp, sh, bk, im, tl⟩ := re
  have gg : ∀ x i, (x = D + 7 ∨ x = D + 8 ∨ x = D + 9) → zG S' x i = zG S x i := fun x i hx => m.G (by omega) i
  refine ⟨v, u, p, n, g, F, Δ, kn, cls_wr2 kn cl m (fun x hx => by omega) (fun i _ _ h14 _ => j1 i h14) (cl.rd.keep m (fun i _ => m.G (by omega) i) (by omega)) (cl.2.1.2.2.2.1.keep m (fun x x0 x1 => by omega)) q7 q8 (fun t t0 t1 => ?_) (fun k k0 k1 => (cl.bw k0 k1).keep m (fun x x0 x1 => by omega)), md', tp.keep m (by omega) (by omega) (by omega) (o _ (by omega)), fun t t0 t1 => ?_, bk.keep m (j1 _ (by omega)) (fun x x0 x1 => by omega) (by omega) (by omega) (by omega) (o _ (by omega)), im.keep m (j1 _ (by omega)) (fun x x0 x1 => by omega) (by omega) (by omega) (fun i hi => o i (by omega)), ?_⟩
  · by_cases q : t = s
    · rw [q]
      exact jsw
    · exact (cl.sw t0 t1).keep m (fun x x0 x1 => by omega)
  · by_cases q : t = s
    · subst q
      obtain ⟨a1, a2, a3, a4, a5, a6, a7, -⟩ := sh t t0 t1
      refine ⟨?_, ?_, ?_, ?_, ?_, ?_, fun h2 i i0 i1 => ?_, fun _ => ⟨n0, G, ?_⟩⟩
      · rw [j0, h3]
      · rw [h3]
        omega
      · rw [jh _ (by omega), gg _ _ (by omega)]
        exact a3
      · rw [gg _ _ (by omega)]
        exact a4
      · rw [jh _ (by omega), gg _ _ (by omega)]
        exact a5
      · rw [gg _ _ (by omega)]
        exact a6
      · rw [h3] at h2
        omega
      · unfold ELE
        rw [h5, h6]
        exact ⟨jq, el, hM, hc, hz⟩
    · obtain ⟨e3, e5, e6, e4⟩ := e t t0 t1 q
      exact (sh t t0 t1).keep m (fun x x0 x1 => by omega) ⟨e3, e5, e6, gg _ _ (by omega), gg _ _ (by omega), fun i _ _ => gg _ _ (by omega), e4⟩
  · by_cases q : zG S 1 14 = s
    · rw [if_pos q] at j14
      exact Or.inl j14
    · rw [if_neg q] at j14
      refine tl.keep kn.n4 m (fun x hx => by omega) (fun i hi => ?_) (fun t t0 t1 ht z => ?_)
      · rcases hi with hi | hi
        · rw [hi]
          exact j14
        · exact j1 i (by omega)
      · have ts : t ≠ s := fun w => q (ht.trans w)
        obtain ⟨e3, e5, e6, e4⟩ := e t t0 t1 ts
        rw [e3] at z
        exact ⟨z, e5, e6, e4⟩
theorem s_storeB {d : Nat} {S : Hp} {D v u p n g s m c : Int} {F Δ : Int → Int} {W : Int → Int → Int} {Q : Vl → Hp → Prop} (hD : 485 ≤ D) (kn : KNO p n g F Δ) (cl : CLS S v u p n g F Δ) (md : MDL S D p n g F Δ) (re : RES S D p n F) (hs : 0 ≤ s ∧ s < 6) (n0 : n ≠ 0) (hq : QN S 70 128 p m c W) (hc : 0 ≤ c ∧ c < p) (hm : 0 ≤ m ∧ m < 1000) (hT : ∀ j, 0 ≤ j → j < 4 → ∀ i, 99 < i → W j i = 0) (bW' : ∀ j i, 0 ≤ W j i ∧ W j i < p) (nW' : ∀ j i, i < 0 → W j i = 0) (zW' : ∀ j i, j < 0 ∨ n ≤ j → W j i = 0) (H : ∀ x S1, Md (fun x => x = 1 ∨ (70 ≤ x ∧ x ≤ 89) ∨ (343 + 12 * s ≤ x ∧ x ≤ 353 + 12 * s)) S S1 → MID S S1 D → (∀ S2, opR D S1 S2 → MC S2 D p n F → stP D p s m c W S2 (fun r' S3 => r' = (0, x) ∧ MID S1 S3 D ∧ Rel S3 D)) → Q (0, x) S1) : Ev (d + 3) 154 [(2, 1), (0, s)] S Q := by
  have h2 := kn.1.two
  have m0 : Md (fun x => 70 ≤ x ∧ x ≤ 89) S S := Md.refl _ _
  have q8 : QW S 80 128 := cl.2.1.2.2.2.2.2.1
  have bW := lwF_bd (p := p) (c := c) (T := 99) (by omega) m.toNat bW'
  have nW : ∀ j i, i < 0 → lwF p c 99 m.toNat W j i = 0 := fun j i hi => lwF_neg _ nW' j i hi
  have zW : ∀ j i, j < 0 ∨ n ≤ j → lwF p c 99 m.toNat W j i = 0 := fun j i hj => lwF_zero _ (fun i => zW' j i hj) i
  have cp : CP S v u := cl.1.keep m0 (by omega) (by omega) (by omega) (by omega)
  have vu := cp.2.2.2.2.1
  have vw : VW S v := cl.vw.keep m0 (fun x x0 x1 => by omega)
  have c0 : zG S v 0 = p := by
    rw [m0.G (by omega)]
    exact cl.c0
  apply w_Crc_store_0
  rw [cp.a9, cp.a1, c0]
  refine ⟨cp.1, cp.1, vw.1, hq.1, ?_⟩
  apply w_Quotient_lower_e
  refine s_lower (T := 99) hc ⟨by omega, by omega⟩ (by omega) m.toNat S W (by omega) (by rw [show ((m.toNat : Nat) : Int) = m by omega]; exact hq) hT (fun S1 m1 q1 => ⟨rfl, ?_⟩)
  unfold MQ' at m1
  have cp1 : CP S1 v u := cp.keep m1 (by omega) (by omega) (by omega) (by omega)
  have mm1 : Md (fun x => 70 ≤ x ∧ x ≤ 89) S S1 := m0.tr (m1.wide (fun x hx => by omega))
  have q81 : QW S1 80 128 := q8.keep m1 (fun x x0 x1 => by omega)
  rw [cp1.a9]
  refine ⟨cp1.1, q1.1, s_hasRoom q1 (fun fit => ⟨_, rfl, fun _ => ?_, fun z => absurd (by decide) z⟩) (fun nofit => ⟨_, rfl, fun z => absurd rfl z, fun _ => ?_⟩)⟩
  · have sw1 : SW S1 (343 + 12 * s) := (cl.sw hs.1 hs.2).keep mm1 (fun x x0 x1 => by omega)
    refine ⟨cp1.1, cp1.1, ?_⟩
    rw [cp1.a9]
    refine s_hold cp1 sw1 hs q1 (by omega) (fun j j0 j1 i hi => fit.2 j j0 j1 i (by omega)) (fun S2 m2 h => ⟨rfl, ?_⟩)
    have mm2 : Md (fun x => x = 1 ∨ (70 ≤ x ∧ x ≤ 89) ∨ (343 + 12 * s ≤ x ∧ x ≤ 353 + 12 * s)) S S2 := (mm1.wide (fun x hx => by omega)).tr (m2.wide (fun x hx => by omega))
    have k1 : zK S2 1 = 11 := by
      rw [m2.K]
      exact cp1.1
    have a9 : zG S2 1 9 = 70 := by
      rw [h.1 9 (by omega)]
      exact cp1.a9
    have q2 : QN S2 70 128 p _ _ _ := q1.keep m2 (fun x x0 x1 => by omega)
    rw [a9, q2.2.2.1]
    refine ⟨k1, q2.1, H _ S2 mm2 (mid_md mm2 cl.1.1 md.1.1 (by omega)) (fun SP op mcP => ⟨fun _ S3 r => ?_, fun f => absurd fit f⟩)⟩
    obtain ⟨r1', r2, r3', r4', r5, r6, r7, r8, r9'⟩ := r
    have oM : ∀ x, (x < D ∨ (D < x ∧ x < D + 31) ∨ D + 40 < x) → ¬ opM D x := fun x hx => by
      unfold opM
      omega
    have r1 : Md (fun x => (x = D ∨ x = D + 3 ∨ x = D + 4 ∨ x = D + 5 ∨ x = D + 6 ∨ x = D + 41) ∨ opM D x) S2 S3 := (op.1.wide (fun x hx => Or.inr hx)).tr (r1'.wide (fun x hx => Or.inl hx))
    have nr : ∀ x, (x < D ∨ x = D + 1 ∨ x = D + 2 ∨ (D + 7 ≤ x ∧ x ≤ D + 30) ∨ D + 41 < x) → ¬ ((x = D ∨ x = D + 3 ∨ x = D + 4 ∨ x = D + 5 ∨ x = D + 6 ∨ x = D + 41) ∨ opM D x) := fun x hx => by
      unfold opM
      omega
    have r3 : ∀ i, i = 16 ∨ i = 18 ∨ i = 61 ∨ i = 62 ∨ i = 63 → zG S3 D i = zG S2 D i := fun i hi => (r3' i (by omega) (by omega)).trans (op.2 i (by omega) (by omega) (by omega))
    have r4 : ∀ i, i ≠ s → zG S3 (D + 3) i = zG S2 (D + 3) i ∧ zG S3 (D + 5) i = zG S2 (D + 5) i ∧ zG S3 (D + 6) i = zG S2 (D + 6) i := fun i hi => ⟨(r4' i hi).1.trans (op.1.G (oM _ (by omega)) _), (r4' i hi).2.1.trans (op.1.G (oM _ (by omega)) _), (r4' i hi).2.2.trans (op.1.G (oM _ (by omega)) _)⟩
    have r9 : ∀ x, x < 124 * s ∨ 124 * s + 124 ≤ x → zG S3 (D + 4) x = zG S2 (D + 4) x := fun x hx => (r9' x hx).trans (op.1.G (oM _ (by omega)) _)
    have md2 : MDL S2 D p n g F Δ := md.far mm2 (fun x x0 => by omega)
    have mdP : MDL SP D p n g F Δ := md2.op n0 op mcP
    have md3 : MDL S3 D p n g F Δ := mdl_wr hD mdP (r1'.wide (fun x hx => by unfold WRM; omega)) r2 (fun i hi => r3' i (by omega) (by omega))
    have mi2 : MID S S2 D := mid_md mm2 cl.1.1 md.1.1 (by omega)
    refine ⟨rfl, mid_md r1 mi2.1 mi2.2.1 (nr _ (by omega)), ?_⟩
    have mm3 : Md (fun x => x = 1 ∨ (70 ≤ x ∧ x ≤ 89) ∨ (343 + 12 * s ≤ x ∧ x ≤ 353 + 12 * s) ∨ x = D ∨ (D + 3 ≤ x ∧ x ≤ D + 6) ∨ (D + 14 ≤ x ∧ x ≤ D + 42)) S S3 := (mm2.wide (fun x hx => by omega)).tr (r1.wide (fun x hx => by unfold opM at hx; omega))
    have lk : (if lwM p c 99 m.toNat W = 0 then (0 : Int) else c) = if ((lwM p c 99 m.toNat W : Nat) : Int) = 0 then 0 else c := by
      by_cases q : lwM p c 99 m.toNat W = 0
      · rw [if_pos q, if_pos (by omega)]
      · rw [if_neg q, if_neg (by omega)]
    refine rel_hold2 (G := lwF p c 99 m.toNat W) hD kn cl md3 re hs n0 mm3 ⟨fun i hi => ?_, ?_, h.2.2.1.keep r1 (fun x x0 x1 => nr x (by omega)), ?_, fun i hi => ?_, h.2.2.2.2.2.keep r1 (fun x x0 x1 => nr x (by omega))⟩ (q2.w.keep r1 (fun x x0 x1 => nr x (by omega))) ((q81.keep m2 (fun x x0 x1 => by omega)).keep r1 (fun x x0 x1 => nr x (by omega))) (fun i hi => ?_) r5 r6 (by rw [r7, lk]) ⟨by omega, fit.1⟩ ?_ ⟨fun z => ?_, fun z => ?_⟩ ⟨fun j i j0 j1 i0 i1 => r8 j i j0 j1 i0 i1, bW, fun j i hi => ?_, zW⟩ (fun t t0 t1 q => ⟨?_, ?_, ?_, fun i i0 i1 => ?_⟩)
    · rw [r1.G (nr _ (by omega)), h.1 i hi]
      exact mm1.G (by omega) _
    · rw [r1.G (nr _ (by omega)), h.2.1, mm1.G (by omega)]
    · rw [r1.G (nr _ (by omega))]
      exact h.2.2.2.1
    · rw [r1.G (nr _ (by omega)), h.2.2.2.2.1 i hi]
      exact mm1.G (by omega) _
    · rw [r3 i hi]
      exact mm2.G (by omega) _
    · by_cases q : lwM p c 99 m.toNat W = 0
      · rw [if_pos q]
        omega
      · rw [if_neg q]
        exact hc
    · rw [if_pos (by omega)]
    · rw [if_neg (by omega)]
      exact lw_low m.toNat (by omega)
    · rcases hi with hi | hi
      · exact nW j i hi
      · by_cases jj : 0 ≤ j ∧ j < 4
        · exact fit.2 j jj.1 jj.2 i hi
        · have := kn.n4
          exact zW j i (by omega)
    · rw [(r4 t q).1]
      exact mm2.G (by omega) _
    · rw [(r4 t q).2.1]
      exact mm2.G (by omega) _
    · rw [(r4 t q).2.2]
      exact mm2.G (by omega) _
    · rw [r9 _ (by omega)]
      exact mm2.G (by omega) _
  · have mm2 : Md (fun x => x = 1 ∨ (70 ≤ x ∧ x ≤ 89) ∨ (343 + 12 * s ≤ x ∧ x ≤ 353 + 12 * s)) S S1 := mm1.wide (fun x hx => by omega)
    have mi : MID S S1 D := mid_md mm2 cl.1.1 md.1.1 (by omega)
    refine H _ S1 mm2 mi (fun SP op mcP => ⟨fun f => absurd f nofit, fun _ S3 r => ?_⟩)
    obtain ⟨r1, r2, r3⟩ := r
    have m1' : Md (fun x => 70 ≤ x ∧ x ≤ 140) S S1 := mm1.wide (fun x hx => by omega)
    obtain ⟨cl1, md1, re1, mi1⟩ := st_q hD kn cl md re m1' q1.w q81 (cl.mw.keep mm1 (fun x x0 x1 => by omega))
    have oM : ∀ x, (x < D ∨ (D < x ∧ x < D + 31) ∨ D + 40 < x) → ¬ opM D x := fun x hx => by
      unfold opM
      omega
    have miP : MID S1 SP D := mid_md op.1 cl1.1.1 md1.1.1 (oM _ (by omega))
    have clP := cl1.far kn op.1 (fun x x0 x1 => oM x (by omega))
    have mdP := md1.op n0 op mcP
    have reP := re1.keep kn.n4 op.1 (fun x hx => oM x (by unfold REx at hx; omega)) (fun i hi => op.2 i (by omega) (by omega) (by omega))
    obtain ⟨mi3, R3⟩ := rel_own hD kn clP mdP reP r1 (fun x hx => by omega) r2 (fun i h5 h53 h58 h59 => r3 i h58 h59)
    exact ⟨rfl, mid_tr miP mi3, R3⟩
