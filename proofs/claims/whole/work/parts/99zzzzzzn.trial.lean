/-! A curve is tried: enterTrial. -/
theorem CP.swap {S : Hp} {v u : Int} (h : CP S v u) : CP (zS (zS S 1 1 u) 1 2 v) u v := by
  obtain ⟨a1, a2, a3, a4, a5, a6, a7, a8, a9, a10, a11, a12, a13, a14, a15, a16, a17, a18, a19, a20⟩ := h
  have e : ∀ j, j ≠ 1 → j ≠ 2 → zG (zS (zS S 1 1 u) 1 2 v) 1 j = zG S 1 j := fun j h1 h2 => by rw [zG_zS_ne _ (Or.inr h2), zG_zS_ne _ (Or.inr h1)]
  have m : Md (fun x => x = 1) S (zS (zS S 1 1 u) 1 2 v) := (Md.zS _ _ _ _).tr (Md.zS _ _ _ _)
  exact ⟨by rw [m.K]; exact a1, by rw [e _ (by omega) (by omega)]; exact a2, by rw [zG_zS_ne _ (Or.inr (by omega)), zG_zS_at], zG_zS_at _ _ _ _, by omega, by rw [e _ (by omega) (by omega)]; exact a6, by rw [e _ (by omega) (by omega)]; exact a7, by rw [e _ (by omega) (by omega)]; exact a8, by rw [e _ (by omega) (by omega)]; exact a9, by rw [e _ (by omega) (by omega)]; exact a10, by rw [e _ (by omega) (by omega)]; exact a11, by rw [e _ (by omega) (by omega)]; exact a12, by rw [e _ (by omega) (by omega)]; exact a13, by rw [e _ (by omega) (by omega)]; exact a14, by rw [m.K, m.L]; exact a15, by rw [m.K, m.L]; exact a16, by rw [m.K, m.L]; exact a17, fun c c0 c1 => by rw [m.G (by omega)]; exact a18 c c0 c1, fun c c0 c1 => by rw [m.G (by omega)]; exact a19 c c0 c1, fun c c0 c1 => by rw [m.G (by omega)]; exact a20 c c0 c1⟩
theorem co_tr {M : Int → Prop} {S S' : Hp} {v u : Int} (co : CO S) (vu : (v = 22 ∧ u = 37) ∨ (v = 37 ∧ u = 22)) (m : Md M S S') (hM : ∀ x, ((2 ≤ x ∧ x ≤ 89) ∨ 239 ≤ x) → x ≤ 484 → (x < u ∨ u + 14 < x) → ¬ M x) (vw : VW S' u) (mw : MW S' 90) (xw : XW S' 141) : CO S' := by
  obtain ⟨a1, a2, a3, a4, a5, a6, a7, a8, a9, a10, a11, a12, a13⟩ := co
  have vv : VW S' 22 ∧ VW S' 37 := by
    rcases vu with w | w
    · rw [w.2] at vw
      exact ⟨a2.keep m (fun x x0 x1 => hM x (by omega) (by omega) (by omega)), vw⟩
    · rw [w.2] at vw
      exact ⟨vw, a3.keep m (fun x x0 x1 => hM x (by omega) (by omega) (by omega))⟩
  exact ⟨a1.keep m (fun i _ => m.G (hM _ (by omega) (by omega) (by omega)) i) (hM _ (by omega) (by omega) (by omega)), vv.1, vv.2, a4.keep m (fun x x0 x1 => hM x (by omega) (by omega) (by omega)), a5.keep m (fun x x0 x1 => hM x (by omega) (by omega) (by omega)), a6.keep m (fun x x0 x1 => hM x (by omega) (by omega) (by omega)), mw, xw, a9.keep m (fun x hx => hM x (by omega) (by omega) (by omega)), a10.keep m (hM _ (by omega) (by omega) (by omega)), fun c c0 c1 => (a11 c c0 c1).keep m (hM _ (by omega) (by omega) (by omega)), fun s s0 s1 => (a12 s s0 s1).keep m (fun x x0 x1 => hM x (by omega) (by omega) (by omega)), fun k k0 k1 => (a13 k k0 k1).keep m (fun x x0 x1 => hM x (by omega) (by omega) (by omega))⟩
def TRM (u : Int) : Int → Prop := fun x => x = 1 ∨ (u ≤ x ∧ x ≤ u + 14) ∨ (90 ≤ x ∧ x ≤ 238)
theorem s_enterTrial {d : Nat} {S : Hp} {v u p n : Int} {F : Int → Int} {Q : Vl → Hp → Prop} (cp : CP S v u) (co : CO S) (hp : isPr p) (hn : 2 ≤ n ∧ n ≤ 4) (vw : VW S u) (u0 : zG S u 0 = p) (u1 : zG S u 1 = n) (u2 : zG S u 2 = dgr F) (uf : ∀ e, 0 ≤ e → e < 49 → zG S (u + 1) e = F e) (ul : LAN S (u + 2) 4 (fun _ => 7) p (cfF F n)) (bF : ∀ e, 0 ≤ F e ∧ F e < p) (dF : ∀ i, 1 ≤ i → i ≤ n → ∀ x, (7 - n) * i < x → cfF F n (n - i) x = 0) (H0 : ∀ S' P, Md (TRM u) S S' → (∀ i, i ≠ 14 → zG S' 1 i = zG S 1 i) → zG S' 1 14 = -1 → CP S' v u → CO S' → NW p n (cfF F n) P → (∀ x, 0 ≤ x → dsM p n (trE n (nwX n P)) x = 0) → Q (0, -15) S') (H1 : ∀ S2 S' P, Md (TRM u) S S2 → Md FGM S2 S' → (∀ i, i ≠ 1 → i ≠ 2 → i ≠ 14 → zG S2 1 i = zG S 1 i) → FG1 S2 S' 6 7 → CP S' u v → CO S' → CUR S' u p n (dgr F) F (fun x => dsM p n (trE n (nwX n P)) x) → CVQ p n F (nwX n P) → Q (0, n) S') : Ev (d + 5) 150 [(2, 1)] S Q := by
  have h2 := hp.two
  have vu := cp.2.2.2.2.1
  apply w_Crc_enterTrial_0
  refine ⟨cp.1, ?_⟩
  rintro _ rfl
  have M1 := Md.zS S 1 14 (-1)
  have f14 : zG (zS S 1 14 (-1)) 1 14 = -1 := zG_zS_at _ _ _ _
  have fo : ∀ i, i ≠ 14 → zG (zS S 1 14 (-1)) 1 i = zG S 1 i := fun i hi => zG_zS_ne _ (Or.inr hi)
  have cp1 : CP (zS S 1 14 (-1)) v u := cp.put (by omega)
  generalize zS S 1 14 (-1) = S1 at M1 f14 fo cp1 ⊢
  have co1 : CO S1 := co.far M1 (fun x x0 x1 => by omega)
  have vw1 : VW S1 u := vw.keep M1 (fun x x0 x1 => by omega)
  rw [cp1.2.2.2.1, cp1.a11, cp1.a12]
  refine ⟨cp1.1, cp1.1, cp1.1, vw1.1, s_cworkOut (C := cfF F n) vw1 ((M1.G (by omega) _).trans u0) ((M1.G (by omega) _).trans u1) h2 hn (ul.keep M1 (fun x x0 x1 => by omega) (by omega)) dF co1.2.2.2.2.2.2.1 co1.2.2.2.2.2.2.2.1 (by omega) (by omega) (by omega) (fun S2 P G m2 vw2 mw2 xw2 k2 a2 l2 nw mn ld z36 rt => ⟨rfl, ?_⟩)⟩
  have n2 : ∀ x, ((x < 90 ∧ (x < u ∨ u + 14 < x)) ∨ 238 < x) → ¬ MVAX u 90 141 x := fun x hx => by
    unfold MVAX MV
    omega
  have cp2 : CP S2 v u := cp1.keep m2 (n2 _ (by omega)) (n2 _ (by omega)) (n2 _ (by omega)) (n2 _ (by omega))
  have mm2 : Md (TRM u) S S2 := (M1.wide (fun x hx => by unfold TRM; omega)).tr (m2.wide (fun x hx => by unfold MVAX MV at hx; unfold TRM; omega))
  have g1 : ∀ i, zG S2 1 i = zG S1 1 i := fun i => m2.G (n2 _ (by omega)) i
  have co2 : CO S2 := co_tr co1 vu m2 (fun x hx h4 hu => n2 x (by omega)) vw2 mw2 xw2
  have nx := nwX_ok nw
  have eq : ∀ x, 0 ≤ x → dscF p n G x = dsM p n (trE n (nwX n P)) x := fun x x0 => disc_eq h2.1 hn nw mn nx x x0
  obtain ⟨t, li, ht, hb⟩ := ld
  rw [cp2.2.2.2.1, vw2.2.2.2.1, li.2.1]
  refine ⟨cp2.1, vw2.1, li.1.1, fun t0 => ⟨cp2.1, ?_⟩, fun t0 => ?_⟩
  · have ex : ∃ x, 0 ≤ x ∧ dscF p n G x ≠ 0 := ⟨t, t0, ht t0⟩
    obtain ⟨cq, -⟩ := cvq_of hp hn bF nw mn z36 ex
    rintro _ rfl
    refine ⟨cp2.1, cp2.1, ?_⟩
    rintro _ rfl
    refine ⟨by rw [zK_zS]; exact cp2.1, ?_⟩
    rintro _ rfl
    rw [cp2.a1]
    have cp5 := cp2.swap
    have M5 : Md (fun x => x = 1) S2 (zS (zS S2 1 1 u) 1 2 v) := (Md.zS _ _ _ _).tr (Md.zS _ _ _ _)
    have f5 : ∀ i, i ≠ 1 → i ≠ 2 → zG (zS (zS S2 1 1 u) 1 2 v) 1 i = zG S2 1 i := fun i h1 h2 => by rw [zG_zS_ne _ (Or.inr h2), zG_zS_ne _ (Or.inr h1)]
    generalize zS (zS S2 1 1 u) 1 2 v = S5 at cp5 M5 f5 ⊢
    have co5 : CO S5 := co2.far M5 (fun x x0 x1 => by omega)
    refine ⟨cp5.1, s_forget cp5 co5.2.2.2.2.2.2.2.2.2.2.2.1 co5.2.2.2.2.2.2.2.2.2.2.1 (fun S6 m6 cp6 f => ⟨rfl, ?_⟩)⟩
    have n6 : ∀ x, ((2 ≤ x ∧ x ≤ 300) ∨ 404 ≤ x) → ¬ FGM x := fun x hx => by
      unfold FGM
      omega
    have eΔ : dscF p n G = fun x => dsM p n (trE n (nwX n P)) x := funext fun x => by
      by_cases x0 : 0 ≤ x
      · exact eq x x0
      · (try dsimp only)
        rw [li.2.2.2.2.2.2 x (by omega), dsM_neg (by omega)]
    have cu2 : CUR S2 u p n (dgr F) F (fun x => dsM p n (trE n (nwX n P)) x) := by
      refine ⟨?_, ?_, fun _ => ⟨?_, fun e e0 e1 => ?_, l2, ?_, fun c c0 c1 => ?_⟩⟩
      · rw [k2 0 (by omega) (by omega), M1.G (by omega)]
        exact u0
      · rw [k2 1 (by omega) (by omega), M1.G (by omega)]
        exact u1
      · rw [k2 2 (by omega) (by omega), M1.G (by omega)]
        exact u2
      · rw [a2, M1.G (by omega)]
        exact uf e e0 e1
      · rw [← eΔ]
        exact ⟨t, li, ht, hb⟩
      · rw [← eΔ]
        exact rt ⟨t, ht t0⟩ c c0 c1
    have cu6 : CUR S6 u p n (dgr F) F (fun x => dsM p n (trE n (nwX n P)) x) := (cu2.keep M5 (fun x x0 x1 => by omega)).keep m6 (fun x x0 x1 => n6 x (by omega))
    have co6 : CO S6 := co_fg co5 m6 f
    rw [cp6.a1, cu6.2.1]
    refine ⟨cp6.1, ?_, H1 S5 S6 P (mm2.tr (M5.wide (fun x hx => by unfold TRM; omega))) m6 (fun i h1 h2 h14 => by rw [f5 i h1 h2, g1, fo i h14]) f cp6 co6 cu6 cq⟩
    rcases vu with w | w
    · rw [w.2]
      exact co6.2.2.1.1
    · rw [w.2]
      exact co6.2.1.1
  · refine H0 S2 P mm2 (fun i hi => by rw [g1, fo i hi]) (by rw [g1]; exact f14) cp2 co2 nw (fun x x0 => ?_)
    rw [← eq x x0]
    exact li.2.2.2.2.2.1 x (by omega)
