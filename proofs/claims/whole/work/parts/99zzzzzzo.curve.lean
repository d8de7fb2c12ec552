/-! curve. -/
theorem rel_new {S S2 S3 T1 T2 : Hp} {D v u p n g n' : Int} {F Δ F' : Int → Int} {P : Int → Int → Int} (hD : 485 ≤ D) (cl : CLS S v u p n g F Δ) (md : MDL S D p n g F Δ) (re : RES S D p n F) (m2 : Md (fun x => TRM u x ∨ x = 2 ∨ (5 ≤ x ∧ x ≤ 21)) S S2) (m3 : Md FGM S2 S3) (o1 : ∀ i, i ≠ 1 → i ≠ 2 → i ≠ 14 → zG S2 1 i = zG S 1 i) (f : FG1 S2 S3 6 7) (cp3 : CP S3 u v) (co3 : CO S3) (cur3 : CUR S3 u p n' (dgr F') F' (fun x => dsM p n' (trE n' (nwX n' P)) x)) (cq : CVQ p n' F' (nwX n' P)) (dg : dg6 F') (t1 : Md (fun x => x = D ∨ (D + 14 ≤ x ∧ x ≤ D + 22)) S3 T1) (to : ∀ j, (j < 18 ∨ 34 < j) → zG T1 D j = zG S3 D j) (b : becR p n' F' D T1 T2) (tp : TPE T2 D) : Rel T2 D := by
  obtain ⟨b1, b2, b3, b4, b5, b6, b7, b8, b9, P', b10, b11, b12, b13⟩ := b
  have vu := cl.1.2.2.2.2.1
  have kn' : KNO p n' (dgr F') F' (fun x => dsM p n' (trE n' (nwX n' P)) x) := ⟨cq.1, Or.inr cq.2.1, fun w => by have := cq.2.1; omega, fun _ => ⟨⟨rfl, dg⟩, nwX n' P, cq, fun x => rfl⟩⟩
  have mD : Md (fun x => x = D ∨ x = D + 1 ∨ x = D + 2 ∨ x = D + 3 ∨ (D + 14 ≤ x ∧ x ≤ D + 29)) S3 T2 := (t1.wide (fun x hx => by omega)).tr (b1.wide (fun x hx => by omega))
  have nS : ∀ x, ((22 ≤ x ∧ x ≤ 89 ∧ (x < u ∨ u + 14 < x)) ∨ 239 ≤ x ∨ x = 3) → ¬ (TRM u x ∨ x = 2 ∨ (5 ≤ x ∧ x ≤ 21)) := fun x hx => by
    unfold TRM
    omega
  have nF : ∀ x, ((2 ≤ x ∧ x ≤ 300) ∨ 404 ≤ x) → ¬ FGM x := fun x hx => by
    unfold FGM
    omega
  have lo : ∀ x i, x ≤ 484 → zG T2 x i = zG S3 x i := fun x i hx => mD.G (by omega) i
  have s3 : ∀ x i, ((22 ≤ x ∧ x ≤ 89 ∧ (x < u ∨ u + 14 < x)) ∨ (239 ≤ x ∧ x ≤ 300) ∨ 404 ≤ x ∨ x = 3) → zG S3 x i = zG S x i := fun x i hx => by
    rw [m3.G (nF x (by omega)), m2.G (nS x (by omega))]
  have all : Md (fun x => (TRM u x ∨ x = 2 ∨ (5 ≤ x ∧ x ≤ 21)) ∨ FGM x ∨ (x = D ∨ x = D + 1 ∨ x = D + 2 ∨ x = D + 3 ∨ (D + 14 ≤ x ∧ x ≤ D + 29))) S T2 := (m2.wide (fun x hx => Or.inl hx)).tr ((m3.wide (fun x hx => Or.inr (Or.inl hx))).tr (mD.wide (fun x hx => Or.inr (Or.inr hx))))
  have nA : ∀ x, ((22 ≤ x ∧ x ≤ 89 ∧ (x < u ∨ u + 14 < x)) ∨ (239 ≤ x ∧ x ≤ 300) ∨ (404 ≤ x ∧ x < D) ∨ x = 3 ∨ (D + 4 ≤ x ∧ x ≤ D + 13) ∨ D + 29 < x) → ¬ ((TRM u x ∨ x = 2 ∨ (5 ≤ x ∧ x ≤ 21)) ∨ FGM x ∨ (x = D ∨ x = D + 1 ∨ x = D + 2 ∨ x = D + 3 ∨ (D + 14 ≤ x ∧ x ≤ D + 29))) := fun x hx w => by
    rcases w with w | w | w
    · exact nS x (by omega) w
    · exact nF x (by omega) w
    · omega
  have fD : ∀ i, (i < 18 ∨ 34 < i) → i ≠ 1 → i ≠ 2 → i ≠ 16 → i ≠ 48 → zG T2 D i = zG S D i := fun i hi h1 h2 h16 h48 => by
    rw [b8 i h1 h2 h16 h48, to i hi]
    exact s3 _ _ (by omega)
  obtain ⟨-, sh, bk, im, tl⟩ := re
  refine rel_fresh kn' (cp3.keep mD (by omega) (by omega) (by omega) (by omega)) (co3.far mD (fun x x0 x1 => by omega)) (cur3.keep mD (fun x x0 x1 => by omega)) (fun c c0 c1 => ⟨fun e e0 e1 => ?_, ?_, ?_⟩) (cl.al.keep all (fun x hx => nA x (by omega))) b2 ?_ b4 b5 (fun K j i x K0 K1 j0 ji i1 x0 x1 => ?_) b7 (fun _ => ⟨b3, fun x x0 x1 => ?_⟩) tp (im.keep all ?_ (fun x x0 x1 => nA x (by omega)) (nA _ (by omega)) (nA _ (by omega)) (fun i hi => fD i (by omega) (by omega) (by omega) (by omega) (by omega))) (she_fresh sh (fun t t0 t1 i => ?_) (fun t t0 t1 i => ?_) (fun i => ?_) (fun x i hx => ?_)) ?_ b6 ?_
  · rw [lo _ _ (by omega), m3.G (by unfold FGM; omega), m2.G (nS _ (by omega))]
    exact cl.pr c0 c1 e e0 e1
  · rw [lo _ _ (by omega), f.2.2.2.2 c c0 c1, if_neg (by omega), m2.G (nS _ (by omega))]
    exact (cl.2.2.2.1 c c0 c1).2.2.1
  · rw [lo _ _ (by omega), f.2.2.2.2 c c0 c1, if_pos ⟨rfl, c1⟩]
  · rw [fD 0 (by omega) (by omega) (by omega) (by omega) (by omega)]
    exact md.2.1
  · rw [all.G (nA _ (by omega))]
    exact md.2.2.2.2.1 K j i x K0 K1 j0 ji i1 x0 x1
  · rw [b12 x x0 x1]
    exact (cq.ds b10 x).symm
  · rw [lo _ _ (by omega), f.1 4 (by omega) (by omega)]
    exact o1 4 (by omega) (by omega) (by omega)
  · rw [lo _ _ (by omega), f.2.2.2.1 t t0 t1, m2.G (nS _ (by omega)), m2.G (nS _ (by omega))]
  · rw [lo _ _ (by omega), m3.G (by unfold FGM; omega)]
    exact m2.G (nS _ (by omega)) _
  · rw [b9, show zG T1 (D + 3) = zG S (D + 3) from funext fun j => by rw [t1.G (by omega)]; exact s3 _ _ (by omega)]
  · exact all.G (nA _ (by omega)) _
  · rw [lo _ _ (by omega)]
    exact f.2.2.1
  · rw [lo _ _ (by omega)]
    exact f.2.1
theorem nw_ds {p n : Int} {C P R : Int → Int → Int} (q : NW p n C P) (hR : NW p n C R) (x : Int) : dsM p n (trE n P) x = dsM p n (trE n R) x := by
  have e : trE n P = trE n R := funext fun e => funext fun y => by
    unfold trE
    split
    · exact q.uniq hR _ (by omega) (by omega) y
    · rfl
  rw [e]
/-- a curve was tried and not taken -/
theorem rel_tried {S S' : Hp} {D v u p n g : Int} {F Δ : Int → Int} (hD : 485 ≤ D) (kn : KNO p n g F Δ) (cl : CLS S v u p n g F Δ) (md : MDL S D p n g F Δ) (re : RES S D p n F) (m : Md (fun x => TRM u x ∨ x = 2 ∨ (5 ≤ x ∧ x ≤ 21) ∨ x = D ∨ (D + 14 ≤ x ∧ x ≤ D + 29)) S S') (cp' : CP S' v u) (co' : CO S') (f1 : ∀ i, i = 4 ∨ i = 8 → zG S' 1 i = zG S 1 i) (tp : TPE S' D) (tl : TOL S' D p n F) (dw : DW S' D) (o : ∀ j, (j < 18 ∨ 34 < j) → zG S' D j = zG S D j) : Rel S' D := by
  have vu := cl.1.2.2.2.2.1
  obtain ⟨cp, co, cu, pl, al⟩ := cl
  have nM : ∀ x, ((22 ≤ x ∧ x ≤ 89 ∧ (x < u ∨ u + 14 < x)) ∨ (239 ≤ x ∧ x < D) ∨ x = 3 ∨ (D < x ∧ x ≤ D + 13) ∨ D + 29 < x) → ¬ (TRM u x ∨ x = 2 ∨ (5 ≤ x ∧ x ≤ 21) ∨ x = D ∨ (D + 14 ≤ x ∧ x ≤ D + 29)) := fun x hx => by
    unfold TRM
    omega
  obtain ⟨-, sh, bk, im, -⟩ := re
  refine ⟨v, u, p, n, g, F, Δ, kn, ⟨cp', co', cu.keep m (fun x x0 x1 => nM x (by omega)), pl.keep kn.n4 m (fun x x0 x1 => nM x (by omega)), al.keep m (fun x hx => nM x (by omega))⟩, ?_, tp, fun t t0 t1 => (sh t t0 t1).keep m (fun x x0 x1 => nM x (by omega)) ⟨m.G (nM _ (by omega)) _, m.G (nM _ (by omega)) _, m.G (nM _ (by omega)) _, m.G (nM _ (by omega)) _, m.G (nM _ (by omega)) _, fun i _ _ => m.G (nM _ (by omega)) _, fun i _ _ => m.G (nM _ (by omega)) _⟩, bk.keep m (f1 _ (by omega)) (fun x x0 x1 => nM x (by omega)) (nM _ (by omega)) (nM _ (by omega)) (nM _ (by omega)) (o _ (by omega)), im.keep m (f1 _ (by omega)) (fun x x0 x1 => nM x (by omega)) (nM _ (by omega)) (nM _ (by omega)) (fun i hi => o _ (by omega)), tl⟩
  obtain ⟨a, b, c, e, t, f⟩ := md
  refine ⟨dw, by rw [o 0 (by omega)]; exact b, by rw [o 1 (by omega)]; exact c, by rw [o 2 (by omega)]; exact e, fun K j i x K0 K1 j0 ji i1 x0 x1 => by rw [m.G (nM _ (by omega))]; exact t K j i x K0 K1 j0 ji i1 x0 x1, fun n0 => ?_⟩
  obtain ⟨mc, dd⟩ := f n0
  exact ⟨mc.keep m dw (nM _ (by omega)) (nM _ (by omega)) (nM _ (by omega)) (fun i hi => o i (by omega)), fun x x0 x1 => by rw [m.G (nM _ (by omega))]; exact dd x x0 x1⟩
theorem dg6_tx {P : Int → Int} (h : dg6 P) : dg6 (txF P) := fun x x0 x1 hx => by
  unfold txF
  rw [if_pos ⟨x0, x1⟩]
  exact h x x0 x1 hx
theorem cf_wt2 {n : Int} {F : Int → Int} (hn : 2 ≤ n ∧ n ≤ 4) (h : dg6 F) : ∀ i, 1 ≤ i → i ≤ n → ∀ x, (7 - n) * i < x → cfF F n (n - i) x = 0 := fun i i0 i1 x hx => cf_wt hn h (n - i) x (by omega) (by omega) (by rw [show n - (n - i) = i by omega]; exact hx)
theorem r_curve {d : Nat} {S : Hp} {D : Int} (hD : 485 ≤ D) (R : Rel S D) : TW (d + 40) 101 200 [] S D := by
  obtain ⟨v, u, p, n, g, F, Δ, kn, cl, md, re⟩ := R
  have h2 := kn.1.two
  have vw := cl.vw
  have vu := cl.1.2.2.2.2.1
  obtain ⟨t1, t2, t3⟩ := re.1
  have hb := (rdA_bd (T := zG S 3) (n := zG S D 18) (p := p) t2).2.1
  have d6 := (rdA_bd (T := zG S 3) (n := zG S D 18) (p := p) t2).2.2
  have vwu : VW S u := by
    rcases vu with w | w
    · rw [w.2]
      exact cl.2.1.2.2.1
    · rw [w.2]
      exact cl.2.1.2.1
  unfold TW
  apply w_Crc_curve_0
  rw [cl.1.a1, cl.c0, cl.1.2.1]
  refine ⟨cl.1.1, cl.1.1, vw.1, cl.rd.1, s_readText (T := zG S 3) h2 cl.rd t1 t2 (fun x x0 x1 => rfl) (by omega) (fun S1 m1 rd1 z1 v1 => ⟨_, rfl, fun y => ?_, fun y => ?_⟩)⟩
  · have v1 := v1 y
    have cp1 : CP S1 v u := cl.1.keep m1 (by omega) (by omega) (by omega) (by omega)
    have co1 : CO S1 := by
      obtain ⟨a1, a2, a3, a4, a5, a6, a7, a8, a9, a10, a11, a12, a13⟩ := cl.2.1
      exact ⟨rd1, a2.keep m1 (fun x x0 x1 => by omega), a3.keep m1 (fun x x0 x1 => by omega), a4.keep m1 (fun x x0 x1 => by omega), a5.keep m1 (fun x x0 x1 => by omega), a6.keep m1 (fun x x0 x1 => by omega), a7.keep m1 (fun x x0 x1 => by omega), a8.keep m1 (fun x x0 x1 => by omega), a9.keep m1 (fun x hx => by omega), a10.keep m1 (by omega), fun c c0 c1 => (a11 c c0 c1).keep m1 (by omega), fun s s0 s1 => (a12 s s0 s1).keep m1 (fun x x0 x1 => by omega), fun k k0 k1 => (a13 k k0 k1).keep m1 (fun x x0 x1 => by omega)⟩
    have vw1 : VW S1 v := vw.keep m1 (fun x x0 x1 => by omega)
    have vu1 : VW S1 u := vwu.keep m1 (fun x x0 x1 => by omega)
    have g0 : zG S1 v 0 = p := (m1.G (by omega) _).trans cl.c0
    rw [cp1.a1, g0, cp1.2.2.2.1]
    refine ⟨cp1.1, cp1.1, vw1.1, vu1.1, ?_⟩
    rintro _ rfl
    have M2 := Md.zS S1 u 0 p
    have vu2 : VW (zS S1 u 0 p) u := vu1.put (Or.inl ⟨rfl, by omega⟩)
    have g2 : zG (zS S1 u 0 p) u 0 = p := zG_zS_at _ _ _ _
    generalize zS S1 u 0 p = S2 at M2 vu2 g2 ⊢
    have cp2 : CP S2 v u := cp1.keep M2 (by omega) (by omega) (by omega) (by omega)
    have co2 : CO S2 := co_tr co1 vu M2 (fun x hx h4 hu => by omega) vu2 (co1.2.2.2.2.2.2.1.keep M2 (fun x x0 x1 => by omega)) (co1.2.2.2.2.2.2.2.1.keep M2 (fun x x0 x1 => by omega))
    have rd2 := co2.1
    rw [cp2.2.1, cp2.2.2.2.1]
    refine ⟨cp2.1, cp2.1, rd2.1, ?_⟩
    apply w_Reader_result_0
    have p4 : zG S2 (2 + 2) 0 = 5 := rd2.2.2.2.2.2.2.2.1 0 (by omega) (by omega)
    rw [rd2.2.2.1, p4]
    refine ⟨rd2.1, ⟨rd2.2.2.2.2.2.2.1.1, by omega, by rw [rd2.2.2.2.2.2.2.1.2]; omega⟩, _, rfl, vu2.1, ?_⟩
    generalize hP : (rdA (zG S 3) (zG S D 18) p).2.2.2 = P at *
    have bP : ∀ e, 0 ≤ e → e < 49 → zG S2 5 e = txF P e ∧ 0 ≤ P e ∧ P e < p := fun e e0 e1 => by
      have := v1 e e0 e1
      rw [show (2 : Int) + 3 = 5 by omega] at this
      rw [M2.G (by omega), this.1]
      unfold txF
      rw [if_pos ⟨e0, e1⟩]
      rw [this.1] at this
      exact ⟨rfl, this.2⟩
    have bF : ∀ e, 0 ≤ txF P e ∧ txF P e < p := fun e => by
      unfold txF
      by_cases q : 0 ≤ e ∧ e < 49
      · rw [if_pos q]
        exact (bP e q.1 q.2).2
      · rw [if_neg q]
        omega
    have dg : dg6 (txF P) := dg6_tx d6
    have ref : ∀ S4, (∀ x i, 485 ≤ x → zG S4 x i = zG S x i) → DW S4 D → ∀ {Q : Vl → Hp → Prop}, (¬ isCv (txF P) → ∀ S', crF D S4 S' → Q (0, -3) S') → (isCv (txF P) → ∀ T1 T2 P', crF D S4 T1 → Md (fun x => D + 23 ≤ x ∧ x ≤ D + 29) T1 T2 → DW T2 D → NW p (hgt (txF P)) (cfF (txF P) (hgt (txF P))) P' → (∀ x, dsM p (hgt (txF P)) (trE (hgt (txF P)) P') x = 0) → Q (0, -15) T2) → (isCv (txF P) → ∀ T1 T2, crF D S4 T1 → becR p (hgt (txF P)) (txF P) D T1 T2 → Q (0, hgt (txF P)) T2) → Ev (d + 40) 200 [(2, D)] S4 Q := fun S4 o dw Q a b c => m_curve (T := zG S 3) h2 dw ((o _ _ (by omega)).trans md.2.1) (o _ _ (by omega)) t2 (fun x x0 x1 => (o _ _ (by omega)).trans (t3 x x0 x1).1.symm) (fun w => absurd y w) (fun _ w => by rw [hP] at w; exact a w) (fun _ w => by rw [hP] at w ⊢; exact fun _ T1 T2 P' x1 x2 x3 x4 _ x5 => b w T1 T2 P' x1 x2 x3 x4 x5) (fun _ w => by rw [hP] at w ⊢; exact fun _ T1 T2 x1 x2 => c w T1 T2 x1 x2)
    refine s_ctake vu2 (by unfold rowI; exact rd2.2.2.2.2.2.2.2.2 0 (by omega) (by omega)) (by omega) (fun e e0 e1 => (bP e e0 e1).1) h2 bF (fun cv S4 m4 vu4 k0 k1 k2 ka kl => ⟨_, rfl, fun _ => ⟨?_, ?_⟩, fun w => absurd (by decide) w⟩) (fun ncv S4 m4 vu4 k0 => ⟨_, rfl, fun w => absurd rfl w, fun _ => ?_⟩)
    · rw [m4.K]
      exact cp2.1
    · -- a curve
      have hn : 2 ≤ hgt (txF P) ∧ hgt (txF P) ≤ 4 := ⟨cv.1, cv.2.1⟩
      unfold MV at m4
      have cp4 : CP S4 v u := cp2.keep m4 (by omega) (by omega) (by omega) (by omega)
      have co4 : CO S4 := co_tr co2 vu m4 (fun x hx h4 hu => by omega) vu4 (co2.2.2.2.2.2.2.1.keep m4 (fun x x0 x1 => by omega)) (co2.2.2.2.2.2.2.2.1.keep m4 (fun x x0 x1 => by omega))
      have m04 : Md (fun x => TRM u x ∨ x = 2 ∨ (5 ≤ x ∧ x ≤ 21)) S S4 := (m1.wide (fun x hx => by omega)).tr ((M2.wide (fun x hx => by unfold TRM; omega)).tr (m4.wide (fun x hx => by unfold TRM; omega)))
      have f4 : ∀ i, zG S4 1 i = zG S 1 i := fun i => by
        rw [m4.G (by omega), M2.G (by omega)]
        exact m1.G (by omega) _
      have nT : ∀ x, ((2 ≤ x ∧ x ≤ 21) ∨ 239 ≤ x ∨ x < 1) → ¬ TRM u x := fun x hx => by
        unfold TRM
        omega
      have z4 : zG S4 2 1 = 0 := by
        rw [m4.G (by omega), M2.G (by omega)]
        exact z1
      have nS : ∀ x, (x < 1 ∨ 485 ≤ x) → ¬ (TRM u x ∨ x = 2 ∨ (5 ≤ x ∧ x ≤ 21)) := fun x hx => by
        unfold TRM
        omega
      refine s_enterTrial (F := txF P) cp4 co4 kn.1 hn vu4 (k0.trans g2) k1 k2 ka kl bF (cf_wt2 hn dg) (fun S5 P' m5 f5 f14 cp5 co5 nw dz => ⟨_, rfl, _, rfl, ?_⟩) (fun S5 S6 P' m5 m6 f5 f6 cp6 co6 cu6 cq => ⟨_, rfl, _, rfl, ?_⟩)
      · have m05 := m04.tr (m5.wide (fun x hx => Or.inl hx))
        have mi : MID S S5 D := mid_md m05 cl.1.1 md.1.1 (nS _ (by omega))
        have o5 : ∀ x i, 485 ≤ x → zG S5 x i = zG S x i := fun x i hx => m05.G (nS x (by omega)) i
        refine ⟨mi, ref S5 o5 (md.1.md m05 (nS _ (by omega))) (fun w => absurd cv w) (fun _ T1 T2 P'' c t12 dwT nw' _ => ?_) (fun _ T1 T2 c b => ?_)⟩
        · obtain ⟨c1, c2, c3, c4⟩ := c
          have t2' : Md (fun x => x = D ∨ (D + 14 ≤ x ∧ x ≤ D + 29)) S5 T2 := (c1.wide (fun x hx => by omega)).tr (t12.wide (fun x hx => by omega))
          have oD : ∀ j, zG T2 D j = zG T1 D j := fun j => t12.G (by omega) j
          have z6 : zG T2 2 1 = 0 := by
            rw [t2'.G (by omega), m5.G (nT _ (by omega))]
            exact z4
          have d18 : zG T2 D 18 = 0 := (oD _).trans c4
          refine ⟨rfl, mid_md t2' mi.1 mi.2.1 (by omega), rel_tried hD kn cl md re ((m05.wide (fun x hx => hx.elim Or.inl (fun w => Or.inr (w.elim Or.inl (fun w => Or.inr (Or.inl w)))))).tr (t2'.wide (fun x hx => Or.inr (Or.inr (Or.inr hx))))) (cp5.keep t2' (by omega) (by omega) (by omega) (by omega)) (co5.far t2' (fun x x0 x1 => by omega)) (fun i hi => ?_) ⟨z6.trans d18.symm, by rw [d18]; omega, fun i i0 i1 => by rw [d18] at i1; omega⟩ (Or.inl ?_) dwT (fun j hj => ?_)⟩
          · rw [t2'.G (by omega), f5 i (by omega)]
            exact f4 i
          · rw [t2'.G (by omega)]
            exact f14
          · rw [oD, c3 j hj]
            exact o5 _ _ (by omega)
        · obtain ⟨b1, b2, b3, b4, b5, b6, b7, b8, b9, P'', b10, b11, b12, x, b13⟩ := b
          exfalso
          apply b13
          by_cases x0 : 0 ≤ x
          · rw [← nw_ds (nwX_ok nw) b10 x]
            exact dz x x0
          · exact dsM_neg (by omega)
      · have m05 := m04.tr (m5.wide (fun x hx => Or.inl hx))
        have nF : ∀ x, (x < 301 ∨ 404 ≤ x) → x ≠ 1 → ¬ FGM x := fun x hx h1 => by
          unfold FGM
          omega
        have o6 : ∀ x i, 485 ≤ x → zG S6 x i = zG S x i := fun x i hx => (m6.G (nF x (by omega) (by omega)) i).trans (m05.G (nS x (by omega)) i)
        have mi5 : MID S S5 D := mid_md m05 cl.1.1 md.1.1 (nS _ (by omega))
        have mi : MID S S6 D := mid_tr mi5 (mid_md m6 mi5.1 mi5.2.1 (nF _ (by omega) (by omega)))
        have dw6 : DW S6 D := (md.1.md m05 (nS _ (by omega))).md m6 (nF _ (by omega) (by omega))
        refine ⟨mi, ref S6 o6 dw6 (fun w => absurd cv w) (fun _ T1 T2 P'' c t12 dwT nw' dz => ?_) (fun _ T1 T2 c b => ?_)⟩
        · have nwq := cq.2.2.2.1
          obtain ⟨x, x0, xn⟩ := cq.2.2.2.2.2.2.2
          refine absurd (dz x) ?_
          rw [← nw_ds nwq nw' x]
          exact xn
        · obtain ⟨c1, c2, c3, c4⟩ := c
          have b' := b
          obtain ⟨b1, b2, b3, b4, b5, b6, b7, b8, b9, -⟩ := b'
          have z6 : zG T2 2 1 = 0 := by
            rw [b1.G (by omega), c1.G (by omega), m6.G (nF _ (by omega) (by omega)), m5.G (nT _ (by omega))]
            exact z4
          have d18 : zG T2 D 18 = 0 := (b8 18 (by omega) (by omega) (by omega) (by omega)).trans c4
          refine ⟨rfl, mid_md ((c1.wide (N := fun x => D ≤ x) (fun x hx => by omega)).tr (b1.wide (fun x hx => by omega))) mi.1 mi.2.1 (by omega), rel_new hD cl md re m05 m6 (fun i h1 h2 h14 => (f5 i h1 h2 h14).trans (f4 i)) f6 cp6 co6 cu6 cq dg c1 c3 b ⟨z6.trans d18.symm, by rw [d18]; omega, fun i i0 i1 => by rw [d18] at i1; omega⟩⟩
    · -- no curve
      unfold MV at m4
      have m04 : Md (fun x => (u ≤ x ∧ x ≤ u + 14) ∨ x = 2 ∨ (5 ≤ x ∧ x ≤ 21)) S S4 := (m1.wide (fun x hx => by omega)).tr ((M2.wide (fun x hx => by omega)).tr (m4.wide (fun x hx => by omega)))
      have cp4 : CP S4 v u := cp2.keep m4 (by omega) (by omega) (by omega) (by omega)
      have co4 : CO S4 := co_tr co2 vu m4 (fun x hx h4 hu => by omega) vu4 (co2.2.2.2.2.2.2.1.keep m4 (fun x x0 x1 => by omega)) (co2.2.2.2.2.2.2.2.1.keep m4 (fun x x0 x1 => by omega))
      have mi : MID S S4 D := mid_md m04 cl.1.1 md.1.1 (by omega)
      have o4 : ∀ x i, 485 ≤ x → zG S4 x i = zG S x i := fun x i hx => m04.G (by omega) i
      refine ⟨_, rfl, mi, ref S4 o4 (md.1.md m04 (by omega)) (fun _ S5 c => ?_) (fun w => absurd w ncv) (fun w => absurd w ncv)⟩
      obtain ⟨c1, c2, c3, c4⟩ := c
      have mm : Md (fun x => (u ≤ x ∧ x ≤ u + 14) ∨ x = 2 ∨ (5 ≤ x ∧ x ≤ 21) ∨ x = D ∨ (D + 14 ≤ x ∧ x ≤ D + 22)) S S5 := (m04.wide (fun x hx => by omega)).tr (c1.wide (fun x hx => by omega))
      have z5 : zG S5 2 1 = 0 := by
        rw [c1.G (by omega), m4.G (by omega), M2.G (by omega)]
        exact z1
      refine ⟨rfl, mid_md c1 mi.1 mi.2.1 (by omega), rel_tried hD kn cl md re (mm.wide (fun x hx => by unfold TRM; omega)) (cp4.keep c1 (by omega) (by omega) (by omega) (by omega)) (co4.far c1 (fun x x0 x1 => by omega)) (fun i _ => mm.G (by omega) i) ⟨z5.trans c4.symm, by rw [c4]; omega, fun i i0 i1 => by rw [c4] at i1; omega⟩ (re.2.2.2.2.keep kn.n4 mm (fun x hx => by omega) (fun i _ => mm.G (by omega) i) (fun t t0 t1 _ z => ?_)) c2 (fun j hj => (c3 j hj).trans (o4 _ _ (by omega)))⟩
      rw [mm.G (by omega)] at z
      exact ⟨z, mm.G (by omega) _, mm.G (by omega) _, fun i _ _ => mm.G (by omega) _⟩
  · have mi : MID S S1 D := mid_md m1 cl.1.1 md.1.1 (by omega)
    have o1 : ∀ x i, 485 ≤ x → zG S1 x i = zG S x i := fun x i hx => m1.G (by omega) i
    refine ⟨_, rfl, mi, m_curve (T := zG S 3) h2 (md.1.md m1 (by omega)) ((o1 _ _ (by omega)).trans md.2.1) (o1 _ _ (by omega)) t2 (fun x x0 x1 => (o1 _ _ (by omega)).trans (t3 x x0 x1).1.symm) (fun _ S2 c => ?_) (fun w => absurd w y) (fun w => absurd w y) (fun w => absurd w y)⟩
    obtain ⟨c1, c2, c3, c4⟩ := c
    have mm : Md (fun x => x = 2 ∨ (5 ≤ x ∧ x ≤ 21) ∨ (70 ≤ x ∧ x ≤ 79) ∨ (90 ≤ x ∧ x ≤ 140) ∨ x = D ∨ (D + 14 ≤ x ∧ x ≤ D + 22)) S S2 := (m1.wide (fun x hx => by omega)).tr (c1.wide (fun x hx => by omega))
    obtain ⟨a, b, e⟩ := rel_read hD kn cl md re mm (rd1.keep c1 (fun i _ => c1.G (by omega) i) (by omega)) ((cl.2.1.2.2.2.2.1.keep m1 (fun x x0 x1 => by omega)).keep c1 (fun x x0 x1 => by omega)) ((cl.mw.keep m1 (fun x x0 x1 => by omega)).keep c1 (fun x x0 x1 => by omega)) (by rw [c1.G (by omega)]; exact z1) c2 c4 (fun j hj => (c3 j hj).trans (o1 _ _ (by omega)))
    exact ⟨rfl, mid_md c1 mi.1 mi.2.1 (by omega), v, u, p, n, g, F, Δ, kn, a, b, e⟩
