/-! element. -/
theorem cf_wt {n : Int} {F : Int → Int} (hn : 2 ≤ n ∧ n ≤ 4) (h : dg6 F) : ∀ j e, 0 ≤ j → j < n → (7 - n) * (n - j) < e → cfF F n j e = 0 := fun j e j0 j1 he => by
  unfold cfF
  by_cases q : 0 ≤ j ∧ j < n ∧ 0 ≤ e ∧ e < 7
  · rw [if_pos q]
    refine h _ (by omega) (by omega) ?_
    unfold dgS
    have : 6 < j + e := by
      rcases (show n = 2 ∨ n = 3 ∨ n = 4 by omega) with rfl | rfl | rfl <;> omega
    omega
  · rw [if_neg q]
theorem md_cf2 {S : Hp} {D p n g : Int} {F Δ : Int → Int} (kn : KNO p n g F Δ) (md : MDL S D p n g F Δ) : ∃ C : Int → Int → Int, (∀ k, 0 ≤ k → k < 7 * n → zG S (D + 1) k = C (k / 7) (k % 7)) ∧ (∀ j e, 0 ≤ C j e ∧ C j e < p) ∧ (∀ j e, (e < 0 ∨ 6 < e) → C j e = 0) ∧ (∀ j e, n ≤ j → C j e = 0) ∧ (∀ j e, 0 ≤ j → j < n → (7 - n) * (n - j) < e → C j e = 0) ∧ (n ≠ 0 → C = cfF F n) := by
  obtain ⟨C, c1, c2, c3, c4, c5⟩ := md_cf kn md
  refine ⟨C, c1, c2, c3, fun j e hj => c4 j e (Or.inr hj), fun j e j0 j1 he => ?_, c5⟩
  have n0 : n ≠ 0 := by omega
  rw [c5 n0]
  exact cf_wt (CLS.n4 kn n0) (kn.2.2.2 n0).1.2 j e j0 j1 he
/-- the tape was read off on both sides -/
theorem rel_read {S S' : Hp} {D v u p n g : Int} {F Δ : Int → Int} (hD : 485 ≤ D) (kn : KNO p n g F Δ) (cl : CLS S v u p n g F Δ) (md : MDL S D p n g F Δ) (re : RES S D p n F) (m : Md (fun x => x = 2 ∨ (5 ≤ x ∧ x ≤ 21) ∨ (70 ≤ x ∧ x ≤ 79) ∨ (90 ≤ x ∧ x ≤ 140) ∨ x = D ∨ (D + 14 ≤ x ∧ x ≤ D + 22)) S S') (rd : RDW S' 2) (q7 : QW S' 70 128) (mw : MW S' 90) (t0 : zG S' 2 1 = 0) (dw : DW S' D) (d18 : zG S' D 18 = 0) (o : ∀ j, (j < 18 ∨ 34 < j) → zG S' D j = zG S D j) : CLS S' v u p n g F Δ ∧ MDL S' D p n g F Δ ∧ RES S' D p n F := by
  obtain ⟨cp, co, cu, pl, al⟩ := cl
  have vu := cp.2.2.2.2.1
  obtain ⟨b1, b2, b3, b4, b5, b6, b7, b8, b9, b10, b11, b12, b13⟩ := co
  obtain ⟨tp, sh, bk, im, tl⟩ := re
  refine ⟨⟨cp.keep m (by omega) (by omega) (by omega) (by omega), ⟨rd, b2.keep m (fun x x0 x1 => by omega), b3.keep m (fun x x0 x1 => by omega), b4.keep m (fun x x0 x1 => by omega), q7, b6.keep m (fun x x0 x1 => by omega), mw, b8.keep m (fun x x0 x1 => by omega), b9.keep m (fun x hx => by omega), b10.keep m (by omega), fun c c0 c1 => (b11 c c0 c1).keep m (by omega), fun s s0 s1 => (b12 s s0 s1).keep m (fun x x0 x1 => by omega), fun k k0 k1 => (b13 k k0 k1).keep m (fun x x0 x1 => by omega)⟩, cu.keep m (fun x x0 x1 => by omega), pl.keep kn.n4 m (fun x x0 x1 => by omega), al.keep m (fun x hx => by omega)⟩, ?_, ⟨?_, fun t t0 t1 => (sh t t0 t1).keep m (fun x x0 x1 => by omega) ⟨m.G (by omega) _, m.G (by omega) _, m.G (by omega) _, m.G (by omega) _, m.G (by omega) _, fun i _ _ => m.G (by omega) _, fun i _ _ => m.G (by omega) _⟩, bk.keep m (m.G (by omega) _) (fun x x0 x1 => by omega) (by omega) (by omega) (by omega) (o _ (by omega)), im.keep m (m.G (by omega) _) (fun x x0 x1 => by omega) (by omega) (by omega) (fun i hi => o _ (by omega)), tl.keep kn.n4 m (fun x hx => by omega) (fun i _ => m.G (by omega) _) (fun t t0 t1 _ z => ?_)⟩⟩

  · obtain ⟨a, b, c, e, t, f⟩ := md
    refine ⟨dw, by rw [o 0 (by omega)]; exact b, by rw [o 1 (by omega)]; exact c, by rw [o 2 (by omega)]; exact e, fun K j i x K0 K1 j0 ji i1 x0 x1 => by rw [m.G (by omega)]; exact t K j i x K0 K1 j0 ji i1 x0 x1, fun n0 => ?_⟩
    obtain ⟨mc, dd⟩ := f n0
    exact ⟨mc.keep m dw (by omega) (by omega) (by omega) (fun i hi => o i (by omega)), fun x x0 x1 => by rw [m.G (by omega)]; exact dd x x0 x1⟩
  · exact ⟨t0.trans d18.symm, by rw [d18]; omega, fun i i0 i1 => by rw [d18] at i1; omega⟩
  · rw [m.G (by omega)] at z
    exact ⟨z, m.G (by omega) _, m.G (by omega) _, fun i _ _ => m.G (by omega) _⟩
theorem cls_wr3 {M : Int → Prop} {S S' : Hp} {v u p n g : Int} {F Δ : Int → Int} (kn : KNO p n g F Δ) (cl : CLS S v u p n g F Δ) (m : Md M S S') (nM : ∀ x, (x = 0 ∨ (22 ≤ x ∧ x ≤ 51) ∨ (67 ≤ x ∧ x ≤ 69) ∨ (141 ≤ x ∧ x ≤ 342)) → ¬ M x) (h1 : ∀ i, i ≠ 4 → i ≠ 8 → i ≠ 14 → i ≠ 15 → zG S' 1 i = zG S 1 i) (rd : RDW S' 2) (v5 : VW S' 52) (q7 : QW S' 70 128) (q8 : QW S' 80 128) (mw : MW S' 90) (sw : ∀ s, 0 ≤ s → s < 6 → SW S' (343 + 12 * s)) (bw : ∀ k, 0 ≤ k → k < 7 → QW S' (415 + 10 * k) 31) : CLS S' v u p n g F Δ := by
  obtain ⟨a, b, c, d, e⟩ := cl
  have vu := a.2.2.2.2.1
  obtain ⟨b1, b2, b3, b4, b5, b6, b7, b8, b9, b10, b11, b12, b13⟩ := b
  refine ⟨a.same m h1 (nM _ (by omega)) (nM _ (by omega)) (nM _ (by omega)), ⟨rd, b2.keep m (fun x x0 x1 => nM x (by omega)), b3.keep m (fun x x0 x1 => nM x (by omega)), v5, q7, q8, mw, b8.keep m (fun x x0 x1 => nM x (by omega)), b9.keep m (fun x hx => nM x (by omega)), b10.keep m (nM _ (by omega)), fun c c0 c1 => (b11 c c0 c1).keep m (nM _ (by omega)), sw, bw⟩, c.keep m (fun x x0 x1 => nM x (by omega)), d.keep kn.n4 m (fun x x0 x1 => nM x (by omega)), e.keep m (fun x hx => nM x (by omega))⟩
theorem rel_hold3 {S S' : Hp} {D v u p n g s M c : Int} {F Δ : Int → Int} {G : Int → Int → Int} (hD : 485 ≤ D) (kn : KNO p n g F Δ) (cl : CLS S v u p n g F Δ) (md' : MDL S' D p n g F Δ) (re : RES S D p n F) (hs : 0 ≤ s ∧ s < 6) (n0 : n ≠ 0) (m : Md (fun x => x = 1 ∨ (70 ≤ x ∧ x ≤ 140) ∨ x = 2 ∨ (5 ≤ x ∧ x ≤ 21) ∨ (343 + 12 * s ≤ x ∧ x ≤ 353 + 12 * s) ∨ x = D ∨ (D + 3 ≤ x ∧ x ≤ D + 6) ∨ (D + 14 ≤ x ∧ x ≤ D + 42)) S S') (h : HLD p s M c G S S') (rd : RDW S' 2) (mw : MW S' 90) (tp' : TPE S' D) (q7 : QW S' 70 128) (q8 : QW S' 80 128) (o : ∀ i, i = 16 ∨ i = 61 ∨ i = 62 ∨ i = 63 → zG S' D i = zG S D i) (h3 : zG S' (D + 3) s = 1) (h5 : zG S' (D + 5) s = M) (h6 : zG S' (D + 6) s = c) (hM : 0 ≤ M ∧ M ≤ 20) (hc : 0 ≤ c ∧ c < p) (hz : LOW p M c G) (el : elW S' D s n p G) (e : ∀ t, 0 ≤ t → t < 6 → t ≠ s → zG S' (D + 3) t = zG S (D + 3) t ∧ zG S' (D + 5) t = zG S (D + 5) t ∧ zG S' (D + 6) t = zG S (D + 6) t ∧ ∀ i, 0 ≤ i → i < 124 → zG S' (D + 4) (124 * t + i) = zG S (D + 4) (124 * t + i)) : Rel S' D := by
  obtain ⟨j1, j14, jsw, j0, jh, jq⟩ := h
  obtain ⟨tp, sh, bk, im, tl⟩ := re
  have gg : ∀ x i, (x = D + 7 ∨ x = D + 8 ∨ x = D + 9) → zG S' x i = zG S x i := fun x i hx => m.G (by omega) i
  refine ⟨v, u, p, n, g, F, Δ, kn, cls_wr3 kn cl m (fun x hx => by omega) (fun i _ _ h14 _ => j1 i h14) rd (cl.2.1.2.2.2.1.keep m (fun x x0 x1 => by omega)) q7 q8 mw (fun t t0 t1 => ?_) (fun k k0 k1 => (cl.bw k0 k1).keep m (fun x x0 x1 => by omega)), md', tp', fun t t0 t1 => ?_, bk.keep m (j1 _ (by omega)) (fun x x0 x1 => by omega) (by omega) (by omega) (by omega) (o _ (by omega)), im.keep m (j1 _ (by omega)) (fun x x0 x1 => by omega) (by omega) (by omega) (fun i hi => o i (by omega)), ?_⟩
  · by_cases q : t = s
    · rw [q]
      exact jsw
    · exact (cl.sw t0 t1).keep m (fun x x0 x1 => by omega)
  · by_cases q : t = s
    · subst q
      obtain ⟨a1, a2, a3, a4, a5, a6, a7, -⟩ := sh t t0 t1
      refine ⟨?_, ?_, ?_, ?_, ?_, ?_, fun h2 i i0 i1 => ?_, fun _ => ⟨n0, G, ?_⟩⟩
      · rw [j0, h3]
      · rw [h3]
        omega
      · rw [jh _ (by omega), gg _ _ (by omega)]
        exact a3
      · rw [gg _ _ (by omega)]
        exact a4
      · rw [jh _ (by omega), gg _ _ (by omega)]
        exact a5
      · rw [gg _ _ (by omega)]
        exact a6
      · rw [h3] at h2
        omega
      · unfold ELE
        rw [h5, h6]
        exact ⟨jq, el, hM, hc, hz⟩
    · obtain ⟨e3, e5, e6, e4⟩ := e t t0 t1 q
      exact (sh t t0 t1).keep m (fun x x0 x1 => by omega) ⟨e3, e5, e6, gg _ _ (by omega), gg _ _ (by omega), fun i _ _ => gg _ _ (by omega), e4⟩
  · by_cases q : zG S 1 14 = s
    · rw [if_pos q] at j14
      exact Or.inl j14
    · rw [if_neg q] at j14
      refine tl.keep kn.n4 m (fun x hx => by omega) (fun i hi => ?_) (fun t t0 t1 ht z => ?_)
      · rcases hi with hi | hi
        · rw [hi]
          exact j14
        · exact j1 i (by omega)
      · have ts : t ≠ s := fun w => q (ht.trans w)
        obtain ⟨e3, e5, e6, e4⟩ := e t t0 t1 ts
        rw [e3] at z
        exact ⟨z, e5, e6, e4⟩
theorem r_element {d : Nat} {S : Hp} {D s : Int} (hD : 485 ≤ D) (R : Rel S D) : TW (d + 40) 118 252 [(0, s)] S D := by
  obtain ⟨v, u, p, n, g, F, Δ, kn, cl, md, re⟩ := R
  have id0 := rel_id kn cl md re
  have h2 := kn.1.two
  have n4 := kn.n4
  have vw := cl.vw
  have vu := cl.1.2.2.2.2.1
  obtain ⟨t1, t2, t3⟩ := re.1
  obtain ⟨C, C1, C2, C3, C4, C6, C5⟩ := md_cf2 kn md
  have hb := (rdA_bd (T := zG S 3) (n := zG S D 18) (p := p) t2).2.1
  have d6 := (rdA_bd (T := zG S 3) (n := zG S D 18) (p := p) t2).2.2
  have rf : ∀ S1, (∀ x i, 485 ≤ x → zG S1 x i = zG S x i) → DW S1 D → ∀ {Q : Vl → Hp → Prop}, (n = 0 → Q (0, -2) S1) → (n ≠ 0 → ¬ (0 ≤ s ∧ s < 6) → Q (0, -1) S1) → (n ≠ 0 → 0 ≤ s ∧ s < 6 → rdR0 (zG S 3) (zG S D 18) p ≠ 0 → ∀ S', crF D S1 S' → Q (0, rdR0 (zG S 3) (zG S D 18) p) S') → (n ≠ 0 → 0 ≤ s ∧ s < 6 → rdR0 (zG S 3) (zG S D 18) p = 0 → (∀ j i, 0 ≤ txW (rdA (zG S 3) (zG S D 18) p).2.2.2 j i ∧ txW (rdA (zG S 3) (zG S D 18) p).2.2.2 j i < p) → ∀ S2 S', crF D S1 S2 → shR D s 0 0 (lwN p n C 6 (7 - n).toNat (txW (rdA (zG S 3) (zG S D 18) p).2.2.2)) S2 S' → Q (0, 1) S') → Ev (d + 40) 252 [(2, D), (0, s)] S1 Q := fun S1 o dw Q a b c e => m_element (T := zG S 3) (C := C) h2 dw ((o _ _ (by omega)).trans md.2.1) ((o _ _ (by omega)).trans md.2.2.1) kn.2.1 (fun k k0 k1 => (o _ _ (by omega)).trans (C1 k k0 k1)) C2 C3 C4 C6 (o _ _ (by omega)) t2 (fun x x0 x1 => (o _ _ (by omega)).trans (t3 x x0 x1).1.symm) a b c e
  unfold TW
  apply w_Crc_element_0
  rw [cl.1.a1, cl.c1]
  refine ⟨cl.1.1, vw.1, fun n0 => s_isShelf ⟨_, rfl, fun z => ?_, fun z => ?_⟩, fun n0 => ?_⟩
  · have hs : 0 ≤ s ∧ s < 6 := i1 z
    have hn := CLS.n4 kn n0
    have eC := C5 n0
    subst eC
    rw [cl.1.2.1, cl.1.a1, cl.c0]
    refine ⟨cl.1.1, cl.1.1, vw.1, cl.rd.1, s_readText (T := zG S 3) h2 cl.rd t1 t2 (fun x x0 x1 => rfl) (by omega) (fun S1 m1 rd1 z1 v1 => ⟨_, rfl, fun y => ?_, fun y => ?_⟩)⟩
    · have v1 := v1 y
      have cp1 : CP S1 v u := cl.1.keep m1 (by omega) (by omega) (by omega) (by omega)
      have vw1 : VW S1 v := vw.keep m1 (fun x x0 x1 => by omega)
      have g0 : zG S1 v 0 = p := (m1.G (by omega) _).trans cl.c0
      have g1 : zG S1 v 1 = n := (m1.G (by omega) _).trans cl.c1
      have mw1 : MW S1 90 := cl.mw.keep m1 (fun x x0 x1 => by omega)
      rw [cp1.a11, cp1.a1, g0, g1, vw1.2.2.1]
      refine ⟨cp1.1, cp1.1, vw1.1, cp1.1, vw1.1, cp1.1, vw1.1, mw1.1, s_use mw1 (fun S2 m2 mw2 mu2 => ⟨rfl, ?_⟩)⟩
      have cp2 : CP S2 v u := cp1.keep m2 (by omega) (by omega) (by omega) (by omega)
      have rd2 : RDW S2 2 := rd1.keep m2 (fun i _ => m2.G (by omega) i) (by omega)
      rw [cp2.2.1, cp2.a11]
      refine ⟨cp2.1, cp2.1, rd2.1, ?_⟩
      apply w_Reader_result_0
      have p4 : zG S2 (2 + 2) 0 = 5 := rd2.2.2.2.2.2.2.2.1 0 (by omega) (by omega)
      rw [rd2.2.2.1, p4]
      refine ⟨rd2.1, ⟨rd2.2.2.2.2.2.2.1.1, by omega, by rw [rd2.2.2.2.2.2.2.1.2]; omega⟩, _, rfl, cp2.1, mw2.1, ?_⟩
      rw [cp2.a9]
      have q7 : QW S2 70 128 := (cl.2.1.2.2.2.2.1.keep m1 (fun x x0 x1 => by omega)).keep m2 (fun x x0 x1 => by omega)
      generalize hP : (rdA (zG S 3) (zG S D 18) p).2.2.2 = P at *
      have bP : ∀ e, 0 ≤ e → e < 49 → zG S2 5 e = txW P (e / 7) (e % 7) ∧ 0 ≤ P e ∧ P e < p := fun e e0 e1 => by
        have := v1 e e0 e1
        rw [show (2 : Int) + 3 = 5 by omega] at this
        rw [m2.G (by omega), this.1]
        unfold txW
        rw [if_pos (by omega), show 7 * (e / 7) + e % 7 = e by omega]
        rw [this.1] at this
        exact ⟨rfl, this.2⟩
      have bW : ∀ j i, 0 ≤ txW P j i ∧ txW P j i < p := fun j i => by
        unfold txW
        by_cases q : 0 ≤ j ∧ j < 7 ∧ 0 ≤ i ∧ i < 7
        · rw [if_pos q]
          exact (bP (7 * j + i) (by omega) (by omega)).2
        · rw [if_neg q]
          omega
      refine s_reduce (W := txW P) mw2 mu2 hn h2 (((cl.cf n0).keep m1 (fun x x0 x1 => by omega) (by omega)).keep m2 (fun x x0 x1 => by omega) (by omega)) (rd2.2.2.2.2.2.2.2.2 0 (by omega) (by omega)) (fun e e0 e1 => (bP e e0 e1).1) bW (fun j i hi => if_neg (by omega)) (fun j i hi => if_neg (by omega)) q7 (by omega) (by omega) (by omega) (by omega) (fun S3 m3 mw3 q3 => ⟨rfl, ?_⟩)
      have n3 : ∀ x, (x < 70 ∨ (80 ≤ x ∧ x ≤ 90) ∨ 140 < x) → ¬ (MM 90 x ∨ MQ' 70 x) := fun x hx => by
        unfold MM MQ'
        omega
      have cp3 : CP S3 v u := cp2.keep m3 (n3 _ (by omega)) (n3 _ (by omega)) (n3 _ (by omega)) (n3 _ (by omega))
      have sw3 : SW S3 (343 + 12 * s) := (((cl.sw hs.1 hs.2).keep m1 (fun x x0 x1 => by omega)).keep m2 (fun x x0 x1 => by omega)).keep m3 (fun x x0 x1 => n3 x (by omega))
      -- degrees
      have wt : ∀ b x, 0 ≤ b → 30 < x → lwN p n (cfF F n) 6 (7 - n).toNat (txW P) b x = 0 := fun b x b0 hx => by
        · refine lwN_wt (w := 7 - n) (K := 6 * (7 - n)) (by omega) C6 (fun b x hx => ?_) _ b x ?_
          · unfold txW
            by_cases q : 0 ≤ b ∧ b < 7 ∧ 0 ≤ x ∧ x < 7
            · rw [if_pos q]
              refine d6 _ (by omega) (by omega) ?_
              unfold dgS
              have : 6 < b + x := by
                rcases (show n = 2 ∨ n = 3 ∨ n = 4 by omega) with r | r | r <;> rw [r] at hx <;> omega
              omega
            · rw [if_neg q]
          · rcases (show n = 2 ∨ n = 3 ∨ n = 4 by omega) with r | r | r <;> rw [r] <;> omega
      have q3' : QN S3 70 128 p 0 0 (fun j => if 0 ≤ j ∧ j < n then lwN p n (cfF F n) 6 (7 - n).toNat (txW P) j else fun _ => 0) := q3.congr (fun j j0 j1 x => by
        by_cases q : 0 ≤ j ∧ j < n
        · rw [if_pos q, if_pos q]
          exact (lwN_rdN _ j x (by omega)).symm
        · rw [if_neg q, if_neg q])
      rw [cp3.a9]
      refine ⟨cp3.1, cp3.1, s_hold cp3 sw3 hs q3' (by omega) (fun j j0 j1 i hi => ?_) (fun S4 m4 h => ⟨rfl, _, rfl, ?_⟩)⟩
      · by_cases q : 0 ≤ j ∧ j < n
        · rw [if_pos q]
          exact wt j i j0 (by omega)
        · rw [if_neg q]
      · have m04 : Md (fun x => x = 1 ∨ x = 2 ∨ (5 ≤ x ∧ x ≤ 21) ∨ (70 ≤ x ∧ x ≤ 79) ∨ (90 ≤ x ∧ x ≤ 140) ∨ (343 + 12 * s ≤ x ∧ x ≤ 353 + 12 * s)) S S4 := (m1.wide (fun x hx => by omega)).tr ((m2.wide (fun x hx => by omega)).tr ((m3.wide (fun x hx => by unfold MM MQ' at hx; omega)).tr (m4.wide (fun x hx => by omega))))
        have mi : MID S S4 D := mid_md m04 cl.1.1 md.1.1 (by omega)
        have dw4 : DW S4 D := md.1.md m04 (by omega)
        have o4 : ∀ x i, 485 ≤ x → zG S4 x i = zG S x i := fun x i hx => m04.G (by omega) i
        refine ⟨mi, rf S4 o4 dw4 (fun w => absurd w n0) (fun _ w => absurd hs w) (fun _ _ w => absurd y w) (fun _ _ _ _ S5 S6 c r => ?_)⟩
        obtain ⟨c1, c2, c3, c4⟩ := c
        obtain ⟨r1, r2, r3, r4, r5, r6, r7, r8, r9⟩ := r
        have m46 : Md (fun x => x = D ∨ (D + 3 ≤ x ∧ x ≤ D + 6) ∨ (D + 14 ≤ x ∧ x ≤ D + 22) ∨ x = D + 41) S4 S6 := (c1.wide (fun x hx => by omega)).tr (r1.wide (fun x hx => by omega))
        have md4 := md.far m04 (fun x x0 => by omega)
        have md5 : MDL S5 D p n g F Δ := mdl_wr hD md4 (c1.wide (fun x hx => by unfold WRM; omega)) c2 (fun i hi => c3 i (by omega))
        have md6 : MDL S6 D p n g F Δ := mdl_wr hD md5 (r1.wide (fun x hx => by unfold WRM; omega)) r2 (fun i hi => r3 i (by omega) (by omega))
        have t6 : zG S6 2 1 = 0 := by
          rw [m46.G (by omega), m4.G (by omega), m3.G (n3 _ (by omega)), m2.G (by omega)]
          exact z1
        have d18 : zG S6 D 18 = 0 := (r3 18 (by omega) (by omega)).trans c4
        have rd6 : RDW S6 2 := ((rd2.keep m3 (fun i _ => m3.G (n3 _ (by omega)) i) (n3 _ (by omega))).keep m4 (fun i _ => m4.G (by omega) i) (by omega)).keep m46 (fun i _ => m46.G (by omega) i) (by omega)
        refine ⟨rfl, mid_md m46 mi.1 mi.2.1 (by omega), rel_hold3 (s := s) (M := 0) (c := 0) (G := fun j => if 0 ≤ j ∧ j < n then lwN p n (cfF F n) 6 (7 - n).toNat (txW P) j else fun _ => 0) hD kn cl md6 re hs n0 ((m04.wide (fun x hx => by omega)).tr (m46.wide (fun x hx => by omega))) ⟨fun i hi => ?_, ?_, h.2.2.1.keep m46 (fun x x0 x1 => by omega), ?_, fun i hi => ?_, h.2.2.2.2.2.keep m46 (fun x x0 x1 => by omega)⟩ rd6 ((mw3.keep m4 (fun x x0 x1 => by omega)).keep m46 (fun x x0 x1 => by omega)) ⟨t6.trans d18.symm, by rw [d18]; omega, fun i i0 i1 => by rw [d18] at i1; omega⟩ ((q3.w.keep m4 (fun x x0 x1 => by omega)).keep m46 (fun x x0 x1 => by omega)) ((cl.2.1.2.2.2.2.2.1.keep m04 (fun x x0 x1 => by omega)).keep m46 (fun x x0 x1 => by omega)) (fun i hi => ?_) r5 r6 r7 (by omega) (by omega) ⟨fun _ => rfl, fun w => absurd rfl w⟩ ⟨fun j i j0 j1 i0 i1 => ?_, fun j i => ?_, fun j i hi => ?_, fun j i hj => ?_⟩ (fun t t0 t1' q => ⟨?_, ?_, ?_, fun i i0 i1 => ?_⟩)⟩
        · rw [m46.G (by omega), h.1 i hi, m3.G (n3 _ (by omega)), m2.G (by omega)]
          exact m1.G (by omega) _
        · rw [m46.G (by omega), h.2.1, m3.G (n3 _ (by omega)), m2.G (by omega), m1.G (by omega)]
        · rw [m46.G (by omega)]
          exact h.2.2.2.1
        · rw [m46.G (by omega), h.2.2.2.2.1 i hi, m3.G (n3 _ (by omega)), m2.G (by omega)]
          exact m1.G (by omega) _
        · rw [r3 i (by omega) (by omega), c3 i (by omega)]
          exact o4 _ _ (by omega)
        · rw [r8 j i j0 j1 i0 i1]
          (try dsimp only)
          by_cases q : 0 ≤ j ∧ j < n
          · rw [if_pos q]
          · rw [if_neg q]
            exact lwN_zero (fun b x hb => if_neg (by omega)) _ j i (by omega)
        · (try dsimp only)
          by_cases q : 0 ≤ j ∧ j < n
          · rw [if_pos q]
            exact lwN_bd (by omega) bW _ j i
          · rw [if_neg q]
            exact ⟨Int.le_refl 0, by show (0 : Int) < p; omega⟩
        · (try dsimp only)
          by_cases q : 0 ≤ j ∧ j < n
          · rw [if_pos q]
            rcases hi with hi | hi
            · exact lwN_neg (fun b x hx => if_neg (by omega)) _ j i hi
            · exact wt j i q.1 hi
          · rw [if_neg q]
        · (try dsimp only)
          rw [if_neg (by omega)]
        · rw [(r4 t q).1, c1.G (by omega)]
          exact o4 _ _ (by omega)
        · rw [(r4 t q).2.1, c1.G (by omega)]
          exact o4 _ _ (by omega)
        · rw [(r4 t q).2.2, c1.G (by omega)]
          exact o4 _ _ (by omega)
        · rw [r9 _ (by omega), c1.G (by omega)]
          exact o4 _ _ (by omega)
    · have mi : MID S S1 D := mid_md m1 cl.1.1 md.1.1 (by omega)
      have o1 : ∀ x i, 485 ≤ x → zG S1 x i = zG S x i := fun x i hx => m1.G (by omega) i
      refine ⟨_, rfl, mi, rf S1 o1 (md.1.md m1 (by omega)) (fun w => absurd w n0) (fun _ w => absurd hs w) (fun _ _ _ S2 c => ?_) (fun _ _ w => absurd w y)⟩
      obtain ⟨c1, c2, c3, c4⟩ := c
      have mm : Md (fun x => x = 2 ∨ (5 ≤ x ∧ x ≤ 21) ∨ (70 ≤ x ∧ x ≤ 79) ∨ (90 ≤ x ∧ x ≤ 140) ∨ x = D ∨ (D + 14 ≤ x ∧ x ≤ D + 22)) S S2 := (m1.wide (fun x hx => by omega)).tr (c1.wide (fun x hx => by omega))
      obtain ⟨a, b, e⟩ := rel_read hD kn cl md re mm (rd1.keep c1 (fun i _ => c1.G (by omega) i) (by omega)) ((cl.2.1.2.2.2.2.1.keep m1 (fun x x0 x1 => by omega)).keep c1 (fun x x0 x1 => by omega)) ((cl.mw.keep m1 (fun x x0 x1 => by omega)).keep c1 (fun x x0 x1 => by omega)) (by rw [c1.G (by omega)]; exact z1) c2 c4 (fun j hj => (c3 j hj).trans (o1 _ _ (by omega)))
      exact ⟨rfl, mid_md c1 mi.1 mi.2.1 (by omega), v, u, p, n, g, F, Δ, kn, a, b, e⟩
  · have z' := i2 z
    exact ⟨_, rfl, id0.1, rf S (fun _ _ _ => rfl) md.1 (fun w => absurd w n0) (fun _ _ => ⟨rfl, id0⟩) (fun _ w => absurd w z') (fun _ w => absurd w z')⟩
  · have z' := Classical.not_not.mp n0
    exact ⟨_, rfl, id0.1, rf S (fun _ _ _ => rfl) md.1 (fun _ => ⟨rfl, id0⟩) (fun w => absurd z' w) (fun w => absurd z' w) (fun w => absurd z' w)⟩
