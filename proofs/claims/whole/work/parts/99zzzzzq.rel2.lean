/-! The class's object and the reference side by side: the relation. -/
/-- the reference's curve -/
def MDL (S : Hp) (D p n g : Int) (F Δ : Int → Int) : Prop := DW S D ∧ zG S D 0 = p ∧ zG S D 1 = n ∧ zG S D 2 = g ∧ TRI S D ∧ (n ≠ 0 → MC S D p n F ∧ ∀ x, 0 ≤ x → x < 200 → zG S (D + 2) x = Δ x)
/-- the tapes -/
def TPE (S : Hp) (D : Int) : Prop := zG S 2 1 = zG S D 18 ∧ (0 ≤ zG S D 18 ∧ zG S D 18 ≤ 100) ∧ ∀ i, 0 ≤ i → i < zG S D 18 → zG S 3 i = zG S (D + 13) i ∧ 0 ≤ zG S 3 i ∧ zG S 3 i ≤ 255
/-- in lowest terms -/
def LOW (p M c : Int) (W : Int → Int → Int) : Prop := (M = 0 → c = 0) ∧ (M ≠ 0 → ¬ rootAll p c 99 W)
/-- an element on a shelf -/
def ELE (S : Hp) (D p n s : Int) (W : Int → Int → Int) : Prop := QN S (343 + 12 * s + 1) 31 p (zG S (D + 5) s) (zG S (D + 6) s) W ∧ elW S D s n p W ∧ (0 ≤ zG S (D + 5) s ∧ zG S (D + 5) s ≤ 20) ∧ (0 ≤ zG S (D + 6) s ∧ zG S (D + 6) s < p) ∧ LOW p (zG S (D + 5) s) (zG S (D + 6) s) W
def SH1 (S : Hp) (D p n s : Int) : Prop := zG S (343 + 12 * s) 0 = zG S (D + 3) s ∧ (zG S (D + 3) s = 0 ∨ zG S (D + 3) s = 1 ∨ zG S (D + 3) s = 2) ∧ zG S (343 + 12 * s) 2 = zG S (D + 7) s ∧ (zG S (D + 7) s = 0 ∨ zG S (D + 7) s = 1) ∧ zG S (343 + 12 * s) 3 = zG S (D + 8) s ∧ (0 ≤ zG S (D + 8) s ∧ zG S (D + 8) s ≤ 40) ∧ (zG S (D + 3) s = 2 → ∀ i, 0 ≤ i → i < 40 → zG S (343 + 12 * s + 11) i = zG S (D + 9) (40 * s + i) ∧ -9223372036854775808 ≤ zG S (D + 9) (40 * s + i) ∧ zG S (D + 9) (40 * s + i) < 9223372036854775808) ∧ (zG S (D + 3) s = 1 → n ≠ 0 ∧ ∃ W, ELE S D p n s W)
def SHE (S : Hp) (D p n : Int) : Prop := ∀ s, 0 ≤ s → s < 6 → SH1 S D p n s
/-- an entry of the book -/
def BK1 (S : Hp) (D p n k : Int) : Prop := n ≠ 0 ∧ ∃ W, QN S (415 + 10 * k) 31 p (zG S (D + 11) k) (zG S (D + 12) k) W ∧ (∀ j i, 0 ≤ j → j < 4 → 0 ≤ i → i < 31 → zG S (D + 10) (124 * k + 31 * j + i) = W j i) ∧ (∀ j i, 0 ≤ W j i ∧ W j i < p) ∧ (∀ j i, (i < 0 ∨ 30 < i) → W j i = 0) ∧ (∀ j i, (j < 0 ∨ n ≤ j) → W j i = 0) ∧ (0 ≤ zG S (D + 11) k ∧ zG S (D + 11) k ≤ 20) ∧ (0 ≤ zG S (D + 12) k ∧ zG S (D + 12) k < p) ∧ LOW p (zG S (D + 11) k) (zG S (D + 12) k) W
def BKE (S : Hp) (D p n : Int) : Prop := zG S 1 8 = zG S D 16 ∧ (0 ≤ zG S D 16 ∧ zG S D 16 ≤ 7) ∧ ∀ k, 0 ≤ k → k < zG S D 16 → BK1 S D p n k
/-- the image -/
def IME (S : Hp) (D : Int) : Prop := in01 (zG S 1 4) ∧ (zG S 1 4 = 0 → zG S D 61 = 0) ∧ (zG S 1 4 = 1 → ∃ kp kn kg KF KΔ, KNO kp kn kg KF KΔ ∧ CUR S 52 kp kn kg KF KΔ ∧ zG S D 61 = kp ∧ zG S D 62 = kn ∧ zG S D 63 = kg ∧ (kn ≠ 0 → (∀ e, 0 ≤ e → e < 49 → zG S (D + 43) e = KF e) ∧ ∀ x, 0 ≤ x → x < 200 → zG S (D + 44) x = KΔ x))
/-- the answers kept of isWhole -/
def TO1 (S : Hp) (D p n : Int) (F : Int → Int) (s : Int) : Prop := ∃ W, elW S D s n p W ∧ zG S 141 1 = n ∧ zG S 141 2 = p ∧ ((zG S 1 15 = 1 ∧ (∀ j, 1 ≤ j → j ≤ n → okK p (zG S (D + 6) s) 199 (j * zG S (D + 5) s).toNat (bkQ p (tbE p n (cfF F n) W) n.toNat j)) ∧ ∀ j, 1 ≤ j → j ≤ n → LN S (adP 141 n (n - j)) (rmM (zSt (p2 n - 1) + (n - j))) p (dvK p (zG S (D + 6) s) 199 (j * zG S (D + 5) s).toNat (bkQ p (tbE p n (cfF F n) W) n.toNat j))) ∨ (zG S 1 15 = 0 ∧ ¬ ∀ j, 1 ≤ j → j ≤ n → okK p (zG S (D + 6) s) 199 (j * zG S (D + 5) s).toNat (bkQ p (tbE p n (cfF F n) W) n.toNat j)))
def TOL (S : Hp) (D p n : Int) (F : Int → Int) : Prop := zG S 1 14 = -1 ∨ ∃ s, zG S 1 14 = s ∧ (0 ≤ s ∧ s < 6) ∧ (zG S (D + 3) s = 1 → TO1 S D p n F s)
def RES (S : Hp) (D p n : Int) (F : Int → Int) : Prop := TPE S D ∧ SHE S D p n ∧ BKE S D p n ∧ IME S D ∧ TOL S D p n F
/-- the rows that all this reads -/
def REx (D : Int) : Int → Prop := fun x => (1 ≤ x ∧ x ≤ 3) ∨ (52 ≤ x ∧ x ≤ 66) ∨ (141 ≤ x ∧ x ≤ 238) ∨ (343 ≤ x ∧ x ≤ 484) ∨ (D + 3 ≤ x ∧ x ≤ D + 13) ∨ x = D + 43 ∨ x = D + 44
theorem elW.keep {M : Int → Prop} {S S' : Hp} {D s n p : Int} {W : Int → Int → Int} (h : elW S D s n p W) (m : Md M S S') (h4 : ¬ M (D + 4)) : elW S' D s n p W := ⟨fun j i j0 j1 i0 i1 => by rw [m.G h4]; exact h.1 j i j0 j1 i0 i1, h.2⟩
theorem elW.same {S S' : Hp} {D s n p : Int} {W : Int → Int → Int} (h : elW S D s n p W) (e : ∀ i, 0 ≤ i → i < 124 → zG S' (D + 4) (124 * s + i) = zG S (D + 4) (124 * s + i)) : elW S' D s n p W := ⟨fun j i j0 j1 i0 i1 => by
  have := e (31 * j + i) (by omega) (by omega)
  rw [← Int.add_assoc] at this
  rw [this]
  exact h.1 j i j0 j1 i0 i1, h.2⟩
theorem TO1.keep {M : Int → Prop} {S S' : Hp} {D p n s : Int} {F : Int → Int} (n4 : 0 ≤ n ∧ n ≤ 4) (h : TO1 S D p n F s) (m : Md M S S') (hM : ∀ x, 141 ≤ x ∧ x ≤ 238 → ¬ M x) (h1 : ∀ i, i = 15 → zG S' 1 i = zG S 1 i) (h5 : zG S' (D + 5) s = zG S (D + 5) s) (h6 : zG S' (D + 6) s = zG S (D + 6) s) (h4 : ∀ i, 0 ≤ i → i < 124 → zG S' (D + 4) (124 * s + i) = zG S (D + 4) (124 * s + i)) : TO1 S' D p n F s := by
  obtain ⟨W, w4, w5, w6, w7⟩ := h
  have g : ∀ i, zG S' 141 i = zG S 141 i := fun i => m.G (hM 141 (by omega)) i
  refine ⟨W, w4.same h4, by rw [g]; exact w5, by rw [g]; exact w6, ?_⟩
  rw [h1 15 rfl, h5, h6]
  rcases w7 with q | q
  · refine Or.inl ⟨q.1, q.2.1, fun j j0 j1 => ?_⟩
    have ad : 141 ≤ adP 141 n (n - j) ∧ adP 141 n (n - j) + 1 ≤ 238 := by
      have nn : n = 0 ∨ n = 1 ∨ n = 2 ∨ n = 3 ∨ n = 4 := by omega
      unfold adP
      rcases nn with r | r | r | r | r
      · omega
      · rw [r, show zSt (p2 1 - 1) = 1 by decide]
        omega
      · rw [r, show zSt (p2 2 - 1) = 5 by decide]
        omega
      · rw [r, show zSt (p2 3 - 1) = 16 by decide]
        omega
      · rw [r, show zSt (p2 4 - 1) = 43 by decide]
        omega
    exact (q.2.2 j j0 j1).keep m (hM _ (by omega)) (hM _ (by omega))
  · exact Or.inr q
theorem RES.keep {M : Int → Prop} {S S' : Hp} {D p n : Int} {F : Int → Int} (h : RES S D p n F) (n4 : 0 ≤ n ∧ n ≤ 4) (m : Md M S S') (hM : ∀ x, REx D x → ¬ M x) (hD : ∀ i, i = 16 ∨ i = 18 ∨ i = 61 ∨ i = 62 ∨ i = 63 → zG S' D i = zG S D i) : RES S' D p n F := by
  obtain ⟨⟨t1, t2, t3⟩, sh, ⟨b1, b2, b3⟩, ⟨i1, i2, i3⟩, tl⟩ := h
  have e : ∀ x, ((1 ≤ x ∧ x ≤ 3) ∨ (52 ≤ x ∧ x ≤ 66) ∨ (141 ≤ x ∧ x ≤ 238) ∨ (343 ≤ x ∧ x ≤ 484) ∨ (D + 3 ≤ x ∧ x ≤ D + 13) ∨ x = D + 43 ∨ x = D + 44) → ¬ M x := fun x hx => hM x hx
  have g : ∀ x, ((1 ≤ x ∧ x ≤ 3) ∨ (52 ≤ x ∧ x ≤ 66) ∨ (141 ≤ x ∧ x ≤ 238) ∨ (343 ≤ x ∧ x ≤ 484) ∨ (D + 3 ≤ x ∧ x ≤ D + 13) ∨ x = D + 43 ∨ x = D + 44) → zG S' x = zG S x := fun x hx => funext fun i => m.G (hM x hx) i
  refine ⟨⟨?_, ?_, fun i i0 i1 => ?_⟩, fun s s0 s1 => ?_, ⟨?_, ?_, fun k k0 k1 => ?_⟩, ⟨?_, fun z => ?_, fun z => ?_⟩, ?_⟩
  · rw [g 2 (by omega), hD 18 (by omega)]
    exact t1
  · rw [hD 18 (by omega)]
    exact t2
  · rw [hD 18 (by omega)] at i1
    rw [g 3 (by omega), g (D + 13) (by omega)]
    exact t3 i i0 i1
  · obtain ⟨a1, a2, a3, a4, a5, a6, a7, a8⟩ := sh s s0 s1
    refine ⟨?_, ?_, ?_, ?_, ?_, ?_, fun h2 i i0 i1 => ?_, fun z => ?_⟩
    · rw [g (343 + 12 * s) (by omega), g (D + 3) (by omega)]
      exact a1
    · rw [g (D + 3) (by omega)]
      exact a2
    · rw [g (343 + 12 * s) (by omega), g (D + 7) (by omega)]
      exact a3
    · rw [g (D + 7) (by omega)]
      exact a4
    · rw [g (343 + 12 * s) (by omega), g (D + 8) (by omega)]
      exact a5
    · rw [g (D + 8) (by omega)]
      exact a6
    · rw [g (D + 3) (by omega)] at h2
      rw [g (343 + 12 * s + 11) (by omega), g (D + 9) (by omega)]
      exact a7 h2 i i0 i1
    · rw [g (D + 3) (by omega)] at z
      obtain ⟨x, W, w1, w2, w3, w4, w5⟩ := a8 z
      refine ⟨x, W, ?_⟩
      unfold ELE
      rw [g (D + 5) (by omega), g (D + 6) (by omega)]
      exact ⟨w1.keep m (fun x x0 x1 => e x (by omega)), w2.keep m (e _ (by omega)), w3, w4, w5⟩
  · rw [g 1 (by omega), hD 16 (by omega)]
    exact b1
  · rw [hD 16 (by omega)]
    exact b2
  · rw [hD 16 (by omega)] at k1
    obtain ⟨x, W, w1, w2, w3, w4, w5, w6, w7, w8⟩ := b3 k k0 k1
    refine ⟨x, W, ?_⟩
    rw [g (D + 11) (by omega), g (D + 12) (by omega), g (D + 10) (by omega)]
    exact ⟨w1.keep m (fun x x0 x1 => e x (by omega)), w2, w3, w4, w5, w6, w7, w8⟩
  · rw [g 1 (by omega)]
    exact i1
  · rw [g 1 (by omega)] at z
    rw [hD 61 (by omega)]
    exact i2 z
  · rw [g 1 (by omega)] at z
    obtain ⟨kp, kn, kg, KF, KΔ, k1, k2, k3, k4, k5, k6⟩ := i3 z
    refine ⟨kp, kn, kg, KF, KΔ, k1, k2.keep m (fun x x0 x1 => e x (by omega)), by rw [hD 61 (by omega)]; exact k3, by rw [hD 62 (by omega)]; exact k4, by rw [hD 63 (by omega)]; exact k5, fun z0 => ?_⟩
    rw [g (D + 43) (by omega), g (D + 44) (by omega)]
    exact k6 z0
  · rcases tl with w | ⟨s, w1, w2, w3⟩
    · exact Or.inl (by rw [g 1 (by omega)]; exact w)
    · refine Or.inr ⟨s, by rw [g 1 (by omega)]; exact w1, w2, fun z => ?_⟩
      rw [g (D + 3) (by omega)] at z
      exact (w3 z).keep n4 m (fun x hx => e x (by omega)) (fun i hi => by rw [g 1 (by omega)]) (by rw [g (D + 5) (by omega)]) (by rw [g (D + 6) (by omega)]) (fun i i0 i1 => by rw [g (D + 4) (by omega)])
def Rel (S : Hp) (D : Int) : Prop := ∃ v u p n g F Δ, KNO p n g F Δ ∧ CLS S v u p n g F Δ ∧ MDL S D p n g F Δ ∧ RES S D p n F
/-- what the law needs between the calls -/
def MID (S S' : Hp) (D : Int) : Prop := zK S' 1 = 11 ∧ zK S' D = 12 ∧ (∀ j, zG S' (-2) j = zG S (-2) j) ∧ zL S' (-2) = zL S (-2) ∧ zK S' (D + 45) = zK S (D + 45) ∧ zL S' (D + 45) = zL S (D + 45)
/-- a call of the class, and the same of the reference: one answer -/
def TW (d m1 m2 : Nat) (as : List Vl) (S : Hp) (D : Int) : Prop := Ev d m1 ((2, 1) :: as) S (fun r S1 => ∃ x, r = (0, x) ∧ MID S S1 D ∧ Ev d m2 ((2, D) :: as) S1 (fun r' S2 => r' = (0, x) ∧ MID S1 S2 D ∧ Rel S2 D))
theorem mid_md {M : Int → Prop} {S S' : Hp} {D : Int} (m : Md M S S') (h1 : zK S 1 = 11) (h2 : zK S D = 12) (hM : ¬ M (-2)) : MID S S' D := ⟨by rw [m.K]; exact h1, by rw [m.K]; exact h2, fun j => m.G hM j, m.L _, m.K _, m.L _⟩
theorem mid_tr {S S' S'' : Hp} {D : Int} (a : MID S S' D) (b : MID S' S'' D) : MID S S'' D := ⟨b.1, b.2.1, fun j => (b.2.2.1 j).trans (a.2.2.1 j), b.2.2.2.1.trans a.2.2.2.1, b.2.2.2.2.1.trans a.2.2.2.2.1, b.2.2.2.2.2.trans a.2.2.2.2.2⟩
theorem MDL.far {M : Int → Prop} {S S' : Hp} {D p n g : Int} {F Δ : Int → Int} (h : MDL S D p n g F Δ) (m : Md M S S') (hM : ∀ x, D ≤ x → ¬ M x) : MDL S' D p n g F Δ := by
  obtain ⟨a, b, c, e, t, f⟩ := h
  have o : ∀ i, zG S' D i = zG S D i := fun i => m.G (hM _ (by omega)) i
  have w : DW S' D := a.md m (hM _ (by omega))
  refine ⟨w, by rw [o]; exact b, by rw [o]; exact c, by rw [o]; exact e, fun K j i x K0 K1 j0 ji i1 x0 x1 => by rw [m.G (hM _ (by omega))]; exact t K j i x K0 K1 j0 ji i1 x0 x1, fun n0 => ?_⟩
  obtain ⟨mc, dd⟩ := f n0
  exact ⟨mc.keep m w (hM _ (by omega)) (hM _ (by omega)) (hM _ (by omega)) (fun i _ => o i), fun x x0 x1 => by rw [m.G (hM _ (by omega))]; exact dd x x0 x1⟩
theorem MC.tri {S : Hp} {D p n : Int} {F : Int → Int} (h : MC S D p n F) : TRI S D := h.2.2.2.2.2.1
theorem MDL.op {S S' : Hp} {D p n g : Int} {F Δ : Int → Int} (h : MDL S D p n g F Δ) (n0 : n ≠ 0) (o : opR D S S') (mc : MC S' D p n F) : MDL S' D p n g F Δ := by
  obtain ⟨a, b, c, e, t, f⟩ := h
  refine ⟨mc.1, by rw [o.2 0 (by omega) (by omega) (by omega)]; exact b, by rw [o.2 1 (by omega) (by omega) (by omega)]; exact c, by rw [o.2 2 (by omega) (by omega) (by omega)]; exact e, mc.tri, fun n0 => ⟨mc, fun x x0 x1 => ?_⟩⟩
  rw [o.1.G (by unfold opM; omega)]
  exact (f n0).2 x x0 x1
/-- after the reference went through its rings -/
theorem rel_op {S S' : Hp} {D v u p n g : Int} {F Δ : Int → Int} (hD : 485 ≤ D) (kn : KNO p n g F Δ) (cl : CLS S v u p n g F Δ) (md : MDL S D p n g F Δ) (re : RES S D p n F) (n0 : n ≠ 0) (o : opR D S S') (mc : MC S' D p n F) : MID S S' D ∧ Rel S' D := by
  have hM : ∀ x, (x < D ∨ (D < x ∧ x < D + 31) ∨ D + 40 < x) → ¬ opM D x := fun x hx => by
    unfold opM
    omega
  refine ⟨mid_md o.1 cl.1.1 md.1.1 (hM _ (by omega)), v, u, p, n, g, F, Δ, kn, cl.far kn o.1 (fun x x0 x1 => hM x (by omega)), md.op n0 o mc, re.keep kn.n4 o.1 (fun x hx => hM x (by unfold REx at hx; omega)) (fun i hi => o.2 i (by omega) (by omega) (by omega))⟩
/-- after the class went through its rings -/
theorem cls_run {S S' : Hp} {D v u p n g : Int} {F Δ : Int → Int} (hD : 485 ≤ D) (kn : KNO p n g F Δ) (cl : CLS S v u p n g F Δ) (md : MDL S D p n g F Δ) (re : RES S D p n F) (m : Md RGm S S') : MID S S' D ∧ MDL S' D p n g F Δ ∧ RES S' D p n F := by
  have hM : ∀ x, (x < 90 ∨ (140 < x ∧ x < 239) ∨ 342 < x) → ¬ RGm x := fun x hx => by
    unfold RGm
    omega
  exact ⟨mid_md m cl.1.1 md.1.1 (hM _ (by omega)), md.far m (fun x x0 => hM x (by omega)), re.keep kn.n4 m (fun x hx => hM x (by unfold REx at hx; omega)) (fun i hi => m.G (hM _ (by omega)) i)⟩
/-- one chain on both sides -/
theorem ring_eq {S : Hp} {D p n g c L Lc : Int} {F Δ : Int → Int} {fK fK' : Int → Int → Int → Int → Int} {dK dK' : Int → Int → Int} (kn : KNO p n g F Δ) (n0 : n ≠ 0) (L0 : 0 ≤ Lc ∧ Lc ≤ 18) (pch : PCH p n (cfF (mvC p c F) n) fK dK Lc) (clo : CLO p n (cfF (mvC p c F) n) fK dK Lc) (r : RG S D c p n (cfF (mvC p c F) n) L fK' dK') : L = Lc ∧ (∀ k, 0 ≤ k → k ≤ Lc → (fgR n (fK k) (fK' k) ∧ ∀ l, 0 ≤ l → l < n → dK' k l = dK k l) ∧ ∀ q i j l, 0 ≤ q → 0 ≤ i → i < n → 0 ≤ j → j < n → 0 ≤ l → l < n → tb1 p n (cfF (mvC p c F) n) (fK' k) (dK' k) q (16 * i + 4 * j + l) = tb1 p n (cfF (mvC p c F) n) (fK k) (dK k) q (16 * i + 4 * j + l)) := by
  obtain ⟨-, P, q, -⟩ := kn.2.2.2 n0
  have hn := CLS.n4 kn n0
  obtain ⟨O, I, φ, E, J, ι, y, h, A⟩ := env_ex kn.1 hn (cfF (mvC p c F) n)
  have L19 := (q.mth c fK' dK' L r.2.2.1 r.2.2.2.1 r.2.2.2.2.1).1
  have e := chain_eq h kn.1 hn A L0.1 r.2.2.1 L0.2 (by omega) pch clo r.2.2.2.2.1 r.2.2.2.2.2.1
  refine ⟨e.1, fun k k0 k1 => ⟨e.2 k k0 k1, fun w i j l w0 i0 i1 j0 j1 l0 l1 => ?_⟩⟩
  have v1 := chain_rst h kn.1 hn A (by omega) pch k.toNat (by omega)
  have v2 := chain_rst h kn.1 hn A (by omega) r.2.2.2.2.1 k.toNat (by omega)
  rw [show ((k.toNat : Nat) : Int) = k by omega] at v1 v2
  exact tb1_fg v1 v2 (e.2 k k0 k1).1 w0 i0 i1 j0 j1 l0 l1
