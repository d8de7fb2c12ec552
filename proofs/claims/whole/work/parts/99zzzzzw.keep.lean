/-! What a call that writes leaves as it was. -/
/-- the reference's shelf s -/
def shEq (S S' : Hp) (D s : Int) : Prop := zG S' (D + 3) s = zG S (D + 3) s ∧ zG S' (D + 5) s = zG S (D + 5) s ∧ zG S' (D + 6) s = zG S (D + 6) s ∧ zG S' (D + 7) s = zG S (D + 7) s ∧ zG S' (D + 8) s = zG S (D + 8) s ∧ (∀ i, 0 ≤ i → i < 40 → zG S' (D + 9) (40 * s + i) = zG S (D + 9) (40 * s + i)) ∧ ∀ i, 0 ≤ i → i < 124 → zG S' (D + 4) (124 * s + i) = zG S (D + 4) (124 * s + i)
theorem ELE.keep {M : Int → Prop} {S S' : Hp} {D p n s : Int} {W : Int → Int → Int} (h : ELE S D p n s W) (m : Md M S S') (hM : ∀ x, 343 + 12 * s + 1 ≤ x → x ≤ 343 + 12 * s + 10 → ¬ M x) (e5 : zG S' (D + 5) s = zG S (D + 5) s) (e6 : zG S' (D + 6) s = zG S (D + 6) s) (e4 : ∀ i, 0 ≤ i → i < 124 → zG S' (D + 4) (124 * s + i) = zG S (D + 4) (124 * s + i)) : ELE S' D p n s W := by
  obtain ⟨w1, w2, w3, w4, w5⟩ := h
  unfold ELE
  rw [e5, e6]
  exact ⟨w1.keep m (fun x x0 x1 => hM x (by omega) (by omega)), w2.same e4, w3, w4, w5⟩
theorem SH1.keep {M : Int → Prop} {S S' : Hp} {D p n s : Int} (h : SH1 S D p n s) (m : Md M S S') (hM : ∀ x, 343 + 12 * s ≤ x → x ≤ 354 + 12 * s → ¬ M x) (e : shEq S S' D s) : SH1 S' D p n s := by
  obtain ⟨a1, a2, a3, a4, a5, a6, a7, a8⟩ := h
  obtain ⟨e3, e5, e6, e7, e8, e9, e4⟩ := e
  refine ⟨?_, ?_, ?_, ?_, ?_, ?_, fun h2 i i0 i1 => ?_, fun z => ?_⟩
  · rw [m.G (hM _ (by omega) (by omega)), e3]
    exact a1
  · rw [e3]
    exact a2
  · rw [m.G (hM _ (by omega) (by omega)), e7]
    exact a3
  · rw [e7]
    exact a4
  · rw [m.G (hM _ (by omega) (by omega)), e8]
    exact a5
  · rw [e8]
    exact a6
  · rw [e3] at h2
    rw [m.G (hM _ (by omega) (by omega)), e9 i i0 i1]
    exact a7 h2 i i0 i1
  · rw [e3] at z
    obtain ⟨x, W, w⟩ := a8 z
    exact ⟨x, W, w.keep m (fun x x0 x1 => hM x (by omega) (by omega)) e5 e6 e4⟩
theorem BK1.keep {M : Int → Prop} {S S' : Hp} {D p n k : Int} (h : BK1 S D p n k) (m : Md M S S') (hM : ∀ x, 415 + 10 * k ≤ x → x ≤ 424 + 10 * k → ¬ M x) (e11 : zG S' (D + 11) k = zG S (D + 11) k) (e12 : zG S' (D + 12) k = zG S (D + 12) k) (e10 : ∀ i, 0 ≤ i → i < 124 → zG S' (D + 10) (124 * k + i) = zG S (D + 10) (124 * k + i)) : BK1 S' D p n k := by
  obtain ⟨x, W, w1, w2, w⟩ := h
  refine ⟨x, W, ?_⟩
  rw [e11, e12]
  refine ⟨w1.keep m (fun x x0 x1 => hM x (by omega) (by omega)), fun j i j0 j1 i0 i1 => ?_, w⟩
  have := e10 (31 * j + i) (by omega) (by omega)
  rw [← Int.add_assoc] at this
  rw [this]
  exact w2 j i j0 j1 i0 i1
theorem TPE.keep {M : Int → Prop} {S S' : Hp} {D : Int} (h : TPE S D) (m : Md M S S') (h2 : ¬ M 2) (h3 : ¬ M 3) (hD : ¬ M (D + 13)) (o : zG S' D 18 = zG S D 18) : TPE S' D := by
  obtain ⟨a, b, c⟩ := h
  unfold TPE
  rw [o, m.G h2]
  exact ⟨a, b, fun i i0 i1 => by rw [m.G h3, m.G hD]; exact c i i0 i1⟩
theorem BKE.keep {M : Int → Prop} {S S' : Hp} {D p n : Int} (h : BKE S D p n) (m : Md M S S') (h8 : zG S' 1 8 = zG S 1 8) (hM : ∀ x, 415 ≤ x → x ≤ 484 → ¬ M x) (h10 : ¬ M (D + 10)) (h11 : ¬ M (D + 11)) (h12 : ¬ M (D + 12)) (o : zG S' D 16 = zG S D 16) : BKE S' D p n := by
  obtain ⟨a, b, c⟩ := h
  unfold BKE
  rw [o, h8]
  exact ⟨a, b, fun k k0 k1 => (c k k0 k1).keep m (fun x x0 x1 => hM x (by omega) (by omega)) (m.G h11 _) (m.G h12 _) (fun i _ _ => m.G h10 _)⟩
theorem IME.keep {M : Int → Prop} {S S' : Hp} {D : Int} (h : IME S D) (m : Md M S S') (h4 : zG S' 1 4 = zG S 1 4) (hM : ∀ x, 52 ≤ x → x ≤ 66 → ¬ M x) (h43 : ¬ M (D + 43)) (h44 : ¬ M (D + 44)) (o : ∀ i, i = 61 ∨ i = 62 ∨ i = 63 → zG S' D i = zG S D i) : IME S' D := by
  obtain ⟨i1, i2, i3⟩ := h
  unfold IME
  rw [h4, o 61 (by omega)]
  refine ⟨i1, i2, fun z => ?_⟩
  obtain ⟨kp, kn, kg, KF, KΔ, k1, k2, k3, k4, k5, k6⟩ := i3 z
  refine ⟨kp, kn, kg, KF, KΔ, k1, k2.keep m (fun x x0 x1 => hM x (by omega) (by omega)), k3, by rw [o 62 (by omega)]; exact k4, by rw [o 63 (by omega)]; exact k5, fun z0 => ?_⟩
  have a : zG S' (D + 43) = zG S (D + 43) := funext fun i => m.G h43 i
  have b : zG S' (D + 44) = zG S (D + 44) := funext fun i => m.G h44 i
  rw [a, b]
  exact k6 z0
theorem TOL.keep {M : Int → Prop} {S S' : Hp} {D p n : Int} {F : Int → Int} (n4 : 0 ≤ n ∧ n ≤ 4) (h : TOL S D p n F) (m : Md M S S') (hM : ∀ x, 141 ≤ x ∧ x ≤ 238 → ¬ M x) (h1 : ∀ i, i = 14 ∨ i = 15 → zG S' 1 i = zG S 1 i) (hs : ∀ s, 0 ≤ s → s < 6 → zG S 1 14 = s → zG S' (D + 3) s = 1 → zG S (D + 3) s = 1 ∧ zG S' (D + 5) s = zG S (D + 5) s ∧ zG S' (D + 6) s = zG S (D + 6) s ∧ ∀ i, 0 ≤ i → i < 124 → zG S' (D + 4) (124 * s + i) = zG S (D + 4) (124 * s + i)) : TOL S' D p n F := by
  rcases h with w | ⟨s, w1, w2, w3⟩
  · exact Or.inl (by rw [h1 14 (by omega)]; exact w)
  · refine Or.inr ⟨s, by rw [h1 14 (by omega)]; exact w1, w2, fun z => ?_⟩
    obtain ⟨a, b, c, e⟩ := hs s w2.1 w2.2 w1 z
    exact (w3 a).keep n4 m hM (fun i hi => h1 i (by omega)) b c e
/-- the rows that such a call may write -/
def WRM (D : Int) : Int → Prop := fun x => (1 ≤ x ∧ x ≤ 3) ∨ (52 ≤ x ∧ x ≤ 66) ∨ (70 ≤ x ∧ x ≤ 89) ∨ (343 ≤ x ∧ x ≤ 484) ∨ x = D ∨ (D + 3 ≤ x ∧ x ≤ D + 31) ∨ (D + 34 ≤ x ∧ x ≤ D + 44)
theorem CP.same {M : Int → Prop} {S S' : Hp} {v u : Int} (h : CP S v u) (m : Md M S S') (h1 : ∀ i, i ≠ 4 → i ≠ 8 → i ≠ 14 → i ≠ 15 → zG S' 1 i = zG S 1 i) (h2 : ¬ M 67) (h3 : ¬ M 68) (h4 : ¬ M 69) : CP S' v u := by
  obtain ⟨a1, a2, a3, a4, a5, a6, a7, a8, a9, a10, a11, a12, a13, a14, a15, a16, a17, a18, a19, a20⟩ := h
  have e := fun i x0 x1 x2 x3 => h1 i x0 x1 x2 x3
  exact ⟨by rw [m.K]; exact a1, by rw [e _ (by omega) (by omega) (by omega) (by omega)]; exact a2, by rw [e _ (by omega) (by omega) (by omega) (by omega)]; exact a3, by rw [e _ (by omega) (by omega) (by omega) (by omega)]; exact a4, a5, by rw [e _ (by omega) (by omega) (by omega) (by omega)]; exact a6, by rw [e _ (by omega) (by omega) (by omega) (by omega)]; exact a7, by rw [e _ (by omega) (by omega) (by omega) (by omega)]; exact a8, by rw [e _ (by omega) (by omega) (by omega) (by omega)]; exact a9, by rw [e _ (by omega) (by omega) (by omega) (by omega)]; exact a10, by rw [e _ (by omega) (by omega) (by omega) (by omega)]; exact a11, by rw [e _ (by omega) (by omega) (by omega) (by omega)]; exact a12, by rw [e _ (by omega) (by omega) (by omega) (by omega)]; exact a13, by rw [e _ (by omega) (by omega) (by omega) (by omega)]; exact a14, by rw [m.K, m.L]; exact a15, by rw [m.K, m.L]; exact a16, by rw [m.K, m.L]; exact a17, fun c c0 c1 => by rw [m.G h2]; exact a18 c c0 c1, fun c c0 c1 => by rw [m.G h3]; exact a19 c c0 c1, fun c c0 c1 => by rw [m.G h4]; exact a20 c c0 c1⟩
theorem cls_wr {S S' : Hp} {D v u p n g : Int} {F Δ : Int → Int} (hD : 485 ≤ D) (kn : KNO p n g F Δ) (cl : CLS S v u p n g F Δ) (m : Md (WRM D) S S') (h1 : ∀ i, i ≠ 4 → i ≠ 8 → i ≠ 14 → i ≠ 15 → zG S' 1 i = zG S 1 i) (rd : RDW S' 2) (v5 : VW S' 52) (q7 : QW S' 70 128) (q8 : QW S' 80 128) (sw : ∀ s, 0 ≤ s → s < 6 → SW S' (343 + 12 * s)) (bw : ∀ k, 0 ≤ k → k < 7 → QW S' (415 + 10 * k) 31) : CLS S' v u p n g F Δ := by
  obtain ⟨a, b, c, d, e⟩ := cl
  have nM : ∀ x, (x = 0 ∨ (4 ≤ x ∧ x ≤ 51) ∨ (67 ≤ x ∧ x ≤ 69) ∨ (90 ≤ x ∧ x ≤ 342)) → ¬ WRM D x := fun x hx => by
    unfold WRM
    omega
  have vu := a.2.2.2.2.1
  obtain ⟨b1, b2, b3, b4, b5, b6, b7, b8, b9, b10, b11, b12, b13⟩ := b
  refine ⟨a.same m h1 (nM _ (by omega)) (nM _ (by omega)) (nM _ (by omega)), ⟨rd, b2.keep m (fun x x0 x1 => nM x (by omega)), b3.keep m (fun x x0 x1 => nM x (by omega)), v5, q7, q8, b7.keep m (fun x x0 x1 => nM x (by omega)), b8.keep m (fun x x0 x1 => nM x (by omega)), b9.keep m (fun x hx => nM x (by omega)), b10.keep m (nM _ (by omega)), fun c c0 c1 => (b11 c c0 c1).keep m (nM _ (by omega)), sw, bw⟩, c.keep m (fun x x0 x1 => nM x (by omega)), d.keep kn.n4 m (fun x x0 x1 => nM x (by omega)), e.keep m (fun x hx => nM x (by omega))⟩
theorem mdl_wr {S S' : Hp} {D p n g : Int} {F Δ : Int → Int} (hD : 485 ≤ D) (md : MDL S D p n g F Δ) (m : Md (WRM D) S S') (dw : DW S' D) (o : ∀ i, i = 0 ∨ i = 1 ∨ i = 2 ∨ i = 47 ∨ i = 48 → zG S' D i = zG S D i) : MDL S' D p n g F Δ := by
  have nM : ∀ x, (x = D + 1 ∨ x = D + 2 ∨ x = D + 32 ∨ x = D + 33) → ¬ WRM D x := fun x hx => by
    unfold WRM
    omega
  obtain ⟨a, b, c, e, t, f⟩ := md
  refine ⟨dw, by rw [o 0 (by omega)]; exact b, by rw [o 1 (by omega)]; exact c, by rw [o 2 (by omega)]; exact e, fun K j i x K0 K1 j0 ji i1 x0 x1 => by rw [m.G (nM _ (by omega))]; exact t K j i x K0 K1 j0 ji i1 x0 x1, fun n0 => ?_⟩
  obtain ⟨mc, dd⟩ := f n0
  exact ⟨mc.keep m dw (nM _ (by omega)) (nM _ (by omega)) (nM _ (by omega)) (fun i hi => o i (by omega)), fun x x0 x1 => by rw [m.G (nM _ (by omega))]; exact dd x x0 x1⟩
