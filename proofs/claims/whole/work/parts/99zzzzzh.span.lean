/-! The next ring's span; rings that are told alike. -/
set_option maxHeartbeats 1000000 in
theorem nx_span {O E : Type} [I : Lean.Grind.CommRing O] [J : Lean.Grind.CommRing E] {p n k : Int} {C : Int → Int → Int} {φ : (Int → Int) → O} {ι : O → E} {y : E} {fig f' : Int → Int → Int → Int} {dp dp' : Int → Int} (v : RNV p n C φ ι y k fig dp) (hk : k ≤ 18) {top g : Int → Int} (gn : GN p n (tb1 p n C fig dp 0) (tb1 p n C fig dp 1) top g) (nx : ∀ j, 0 ≤ j → j < n → NX1 p j (g j) fig dp f' dp') : ∀ e, LT ι n.toNat (fun j => vE φ ι y n.toNat (bR f' j)) e ↔ MUL (ι (φ t1)) (ι (φ t1) ^ 20) (LT ι n.toNat (fun l => vE φ ι y n.toNat (bR fig l))) (ι (φ t1) * e) := by
  have rab := v.rab
  have lat := v.lat
  have n4 := v.n4
  have g0 := gain0 v gn
  obtain ⟨h, hp, hn, A, hk19, r⟩ := v
  have h2 := hp.two
  have dpk : ∀ j, 0 ≤ j → j < n → 0 ≤ dp j ∧ dp j ≤ k := fun j j0 j1 => by
    have b := r.1.1 j j0 j1
    refine ⟨b.1, Classical.byContradiction (fun q => ?_)⟩
    have e1 := r.1.2.1 j (dp j) j0 j1 b.1 b.2
    rw [if_pos rfl, r.2.2.2.1 j j (dp j) j0 j1 j0 (by omega) (by omega) b.2] at e1
    omega
  have d1 : ∀ j, 0 ≤ j → j < n → 0 ≤ dp' j ∧ dp' j ≤ k + 1 := fun j j0 j1 => by
    have a := (nx j j0 j1).1
    have b := dpk j j0 j1
    have c := gbF_or (g j)
    omega
  have tr : TRF n f' := fun l i m l0 l1 i0 i1 m0 m1 => (nx l l0 l1).2.2.2.1 i m i0 i1 m0 (by omega)
  have rdc : RDC n f' dp' := by
    refine ⟨fun l l0 l1 => ?_, fun l m l0 l1 m0 m1 => (nx l l0 l1).2.1 m m0 (by omega), fun l i m i0 i1 l1 m0 m1 ne => ?_⟩
    · have := d1 l l0 l1
      omega
    · refine Classical.byContradiction (fun q => ne ?_)
      exact (nx l (by omega) l1).2.2.1 i m i0 i1 m0 (by omega)
  have cd : ∀ j, 0 ≤ j → j < n → 0 ≤ g j → dgt p (g j) j = 1 ∧ ∀ i, j < i → dgt p (g j) i = 0 := fun j j0 j1 hj => by
    rcases gn.2 j j0 j1 with f | f
    · omega
    · exact code_dg h2 j0 f.1 f.2.1
  have cj : ∀ j, 0 ≤ j → j < n → gcF p (g j) j j = 1 := fun j j0 j1 => by
    unfold gcF
    by_cases q : 0 ≤ g j
    · rw [if_pos q]
      exact (cd j j0 j1 q).1
    · rw [if_neg q, if_pos rfl]
  have cz : ∀ j, 0 ≤ j → j < n → ∀ l, j < l → l < n → gcF p (g j) j l = 0 := fun j j0 j1 l l0 l1 => by
    unfold gcF
    by_cases q : 0 ≤ g j
    · rw [if_pos q]
      exact (cd j j0 j1 q).2 l l0
    · rw [if_neg q, if_neg (by omega)]
  have ge := fun j j0 j1 => gw_e (b := gbF (g j)) (c := gcF p (g j) j) (j := j) h hn A hk19 r (gbF_or _) j0 j1 (cz j j0 j1)
  have rx : ∀ j, ∃ (σ ω : Int → O), 0 ≤ j → j < n → ∀ i, 0 ≤ i → i < n → φ (bR f' j i) = φ (gR p (gbF (g j)) (gcF p (g j) j) fig j i) - su j.toNat (fun a => σ a * φ (bR f' a i)) + (if i < j then φ t1 ^ 21 * ω i else 0) := fun j => by
    by_cases q : 0 ≤ j ∧ j < n
    · obtain ⟨σ, ω, e⟩ := nx_row h hp hn r q.1 q.2 (by have := d1 j q.1 q.2; omega) (cj j q.1 q.2) tr (nx j q.1 q.2)
      exact ⟨σ, ω, fun _ _ => e⟩
    · exact ⟨fun _ => 0, fun _ => 0, fun a b => absurd ⟨a, b⟩ q⟩
  have rx : ∃ (σ ω : Int → Int → O), ∀ j, 0 ≤ j → j < n → ∀ i, 0 ≤ i → i < n → φ (bR f' j i) = φ (gR p (gbF (g j)) (gcF p (g j) j) fig j i) - su j.toNat (fun a => σ j a * φ (bR f' a i)) + (if i < j then φ t1 ^ 21 * ω j i else 0) := ⟨fun j => Classical.choose (rx j), fun j => Classical.choose (Classical.choose_spec (rx j)), fun j => Classical.choose_spec (Classical.choose_spec (rx j))⟩
  obtain ⟨σ, ω, row⟩ := rx
  have nlt := @next_lt O E I J p n _ _ φ ι y _ _ (fun j => vE φ ι y n.toNat (gR p (gbF (g j)) (gcF p (g j) j) fig j)) rab top g gn (fun j j0 j1 hj => by
    have e := ge j j0 j1
    rw [show gbF (g j) = 1 from if_pos hj, show (1 : Int).toNat = 1 from rfl] at e
    have e1 : ι (φ t1) ^ 1 = ι (φ t1) := by grind
    rw [e1] at e
    (try dsimp only)
    rw [show gbF (g j) = 1 from if_pos hj, e]
    unfold vC
    exact su_congr fun l _ _ => by rw [show gcF p (g j) j l = dgt p (g j) l from if_pos hj]) (fun j j0 j1 hj => by
    have e := ge j j0 j1
    rw [show gbF (g j) = 0 from if_neg (by omega), show (0 : Int).toNat = 0 from rfl, Lean.Grind.Semiring.pow_zero, su_one j j0 (by omega) (fun l l0 l1 nl => by rw [show gcF p (g j) j l = 0 from (if_neg (by omega)).trans (if_neg nl), h.1.nC_0, A.i0]; grind), cj j j0 j1, h.1.nC_1, A.2.2.1] at e
    (try dsimp only)
    rw [show gbF (g j) = 0 from if_neg (by omega)]
    generalize vE φ ι y n.toNat (gR p 0 (gcF p (g j) j) fig j) = u at *
    generalize vE φ ι y n.toNat (bR fig j) = w at *
    grind)
  have hT : ∀ i : Int, 0 ≤ i → i < n → LT ι (i + 1).toNat (fun j => vE φ ι y n.toNat (gR p (gbF (g j)) (gcF p (g j) j) fig j)) (ι (φ t1) ^ 20 * y ^ i.toNat) := fun i i0 i1 => by
    refine tri_top (ex := fun b => (20 - dp' b).toNat) (w := fun l => if l = i then φ t1 ^ 20 else 0) h A (fun b l b0 b1 l1 => gR_z h b0 b1) (fun b b0 b1 => ?_) i0 (by omega) ((nlt _).mp (MUL.tau lat (r.2.2.2.2.2.2 i i0 i1))) ?_ (fun l l0 l1 => if_neg (by omega))
    · have e := row b b0 (by omega) b b0 (by omega)
      rw [if_neg (by omega), su_zeros (fun a a0 a1 => by rw [bR_0 h tr a0 (by omega) (by omega) (by omega)]; grind), bR_d h rdc b0 (by omega)] at e
      rw [e]
      grind
    · rw [su_one i i0 (by omega) (fun l l0 l1 nl => by (try dsimp only); rw [if_neg nl, A.i0]; grind)]
      (try dsimp only)
      rw [if_pos rfl, A.ipow]
  have hB : ∀ j : Int, 0 ≤ j → j < n.toNat → vE φ ι y n.toNat (bR f' j) = vE φ ι y n.toNat (gR p (gbF (g j)) (gcF p (g j) j) fig j) - su j.toNat (fun b => ι (σ j b) * vE φ ι y n.toNat (bR f' b)) + su j.toNat (fun i => ι (φ t1 * ω j i) * (ι (φ t1) ^ 20 * y ^ i.toNat)) := fun j j0 j1 => by
    have e2 : su j.toNat (fun b => ι (σ j b) * vE φ ι y n.toNat (bR f' b)) = su n.toNat (fun i => ι (su j.toNat (fun b => σ j b * φ (bR f' b i))) * y ^ i.toNat) := by
      unfold vE
      rw [su_congr (g := fun b => su n.toNat (fun i => ι (σ j b * φ (bR f' b i)) * y ^ i.toNat)) (fun b _ _ => by
        rw [← su_mul]
        exact su_congr fun i _ _ => by rw [A.2.1]; grind), su_swap]
      refine su_congr fun i _ _ => ?_
      rw [su_congr (g := fun b => y ^ i.toNat * ι (σ j b * φ (bR f' b i))) (fun b _ _ => by grind), su_mul, ← A.isu]
      grind
    have e3 : su j.toNat (fun i => ι (φ t1 * ω j i) * (ι (φ t1) ^ 20 * y ^ i.toNat)) = su n.toNat (fun i => ι (if i < j then φ t1 ^ 21 * ω j i else 0) * y ^ i.toNat) := by
      rw [su_more (n := j.toNat) (m := n.toNat) (by omega) (fun i i0 i1 => by rw [if_neg (by omega), A.i0]; grind)]
      refine su_congr fun i i0 i1 => ?_
      rw [if_pos (by omega), A.2.1, A.2.1, A.ipow]
      grind
    rw [e2, e3]
    unfold vE
    rw [show su n.toNat (fun l => ι (φ (gR p (gbF (g j)) (gcF p (g j) j) fig j l)) * y ^ l.toNat) - su n.toNat (fun i => ι (su j.toNat (fun b => σ j b * φ (bR f' b i))) * y ^ i.toNat) = su n.toNat (fun l => ι (φ (gR p (gbF (g j)) (gcF p (g j) j) fig j l)) * y ^ l.toNat) + - su n.toNat (fun i => ι (su j.toNat (fun b => σ j b * φ (bR f' b i))) * y ^ i.toNat) by grind, ← su_neg, ← su_add, ← su_add]
    refine su_congr fun i i0 i1 => ?_
    rw [row j j0 (by omega) i i0 (by omega), A.1, A.isub]
    grind
  have sp := span_eq (T := ι (φ t1) ^ 20) (B1 := fun j => vE φ ι y n.toNat (gR p (gbF (g j)) (gcF p (g j) j) fig j)) (B2 := fun j => vE φ ι y n.toNat (bR f' j)) (σ := σ) (x := fun j i => φ t1 * ω j i) A hB (fun i i0 i1 => hT i i0 (by omega)) n.toNat (Nat.le_refl _)
  exact fun e => (sp e).trans (nlt e).symm
/-- figures that agree where a ring has them -/
def fgR (n : Int) (f f' : Int → Int → Int → Int) : Prop := ∀ l i m, 0 ≤ l → l < n → 0 ≤ i → i < 4 → 0 ≤ m → m ≤ 20 → f' l i m = f l i m
theorem vE_fg {O E : Type} [I : Lean.Grind.CommRing O] [J : Lean.Grind.CommRing E] {φ : (Int → Int) → O} {ι : O → E} {y : E} {n : Int} (n4 : n ≤ 4) {f f' : Int → Int → Int → Int} (hf : fgR n f f') {l : Int} (l0 : 0 ≤ l) (l1 : l < n) : vE φ ι y n.toNat (bR f' l) = vE φ ι y n.toNat (bR f l) := by
  unfold vE
  refine su_congr fun i i0 i1 => ?_
  rw [show bR f' l i = bR f l i from funext fun x => by
    unfold bR
    split
    · exact hf l i _ l0 l1 i0 (by omega) (by omega) (by omega)
    · rfl]
theorem lt_fg {O E : Type} [I : Lean.Grind.CommRing O] [J : Lean.Grind.CommRing E] {φ : (Int → Int) → O} {ι : O → E} {y : E} {n : Int} (n4 : n ≤ 4) {f f' : Int → Int → Int → Int} (hf : fgR n f f') : LT ι n.toNat (fun l => vE φ ι y n.toNat (bR f' l)) = LT ι n.toNat (fun l => vE φ ι y n.toNat (bR f l)) := funext fun e => propext (by
  have c : ∀ s : Int → O, su n.toNat (fun l => ι (s l) * vE φ ι y n.toNat (bR f' l)) = su n.toNat (fun l => ι (s l) * vE φ ι y n.toNat (bR f l)) := fun s => su_congr fun l l0 l1 => by rw [vE_fg n4 hf l0 (by omega)]
  exact ⟨fun ⟨s, h⟩ => ⟨s, h.trans (c s)⟩, fun ⟨s, h⟩ => ⟨s, h.trans (c s).symm⟩⟩)
theorem RST.congr {O E : Type} [I : Lean.Grind.CommRing O] [J : Lean.Grind.CommRing E] {φ : (Int → Int) → O} {ι : O → E} {y : E} {p n k : Int} (k0 : 0 ≤ k) {f f' : Int → Int → Int → Int} {dp dp' : Int → Int} (n4 : 2 ≤ n ∧ n ≤ 4) (r : RST p n φ ι y k f dp) (hf : fgR n f f') (hd : ∀ l, 0 ≤ l → l < n → dp' l = dp l) : RST p n φ ι y k f' dp' := by
  have e := lt_fg (φ := φ) (ι := ι) (y := y) n4.2 hf
  refine ⟨⟨fun l l0 l1 => by rw [hd l l0 l1]; exact r.1.1 l l0 l1, fun l m l0 l1 m0 m1 => by rw [hf l l m l0 l1 l0 (by omega) m0 m1, hd l l0 l1]; exact r.1.2.1 l m l0 l1 m0 m1, fun l i m i0 i1 l1 m0 m1 ne => ?_⟩, fun l i m l0 l1 i0 i1 m0 m1 => ?_, fun l i m l0 l1 i0 i1 m0 m1 => ?_, fun l i m l0 l1 i0 i1 m0 m1 => ?_, ?_, fun i j i0 i1 j0 j1 => ?_, fun l l0 l1 => ?_⟩
  · rw [hf l i m (by omega) l1 i0 (by omega) m0 m1] at ne
    rw [hd i i0 (by omega)]
    exact r.1.2.2 l i m i0 i1 l1 m0 m1 ne
  · rw [hf l i m l0 l1 (by omega) i1 m0 m1]
    exact r.2.1 l i m l0 l1 i0 i1 m0 m1
  · rw [hf l i m l0 l1 i0 i1 m0 m1]
    exact r.2.2.1 l i m l0 l1 i0 i1 m0 m1
  · rw [hf l i m l0 l1 i0 i1 (by omega) m1]
    exact r.2.2.2.1 l i m l0 l1 i0 i1 m0 m1
  · rw [hd 0 (by omega) (by omega)]
    exact r.2.2.2.2.1
  · rw [e, vE_fg n4.2 hf i0 i1, vE_fg n4.2 hf j0 j1]
    exact r.2.2.2.2.2.1 i j i0 i1 j0 j1
  · rw [e]
    exact r.2.2.2.2.2.2 l l0 l1
/-- the tables of products, of a ring that is told alike -/
theorem tb1_fg {O E : Type} [I : Lean.Grind.CommRing O] [J : Lean.Grind.CommRing E] {p n k : Int} {C : Int → Int → Int} {φ : (Int → Int) → O} {ι : O → E} {y : E} {fig : Int → Int → Int → Int} {dp : Int → Int} (v : RNV p n C φ ι y k fig dp) {f' : Int → Int → Int → Int} {dp' : Int → Int} (v' : RNV p n C φ ι y k f' dp') (hf : fgR n fig f') {q i j l : Int} (q0 : 0 ≤ q) (i0 : 0 ≤ i) (i1 : i < n) (j0 : 0 ≤ j) (j1 : j < n) (l0 : 0 ≤ l) (l1 : l < n) : tb1 p n C f' dp' q (16 * i + 4 * j + l) = tb1 p n C fig dp q (16 * i + 4 * j + l) := by
  have n4 := v.2.2.1
  have p2 := v.2.1.two.1
  have a := (v.pr (i := i) (j := j) i0 i1 j0 j1).2
  have b := (v'.pr (i := i) (j := j) i0 i1 j0 j1).2
  have lat := v.lat
  rw [vE_fg n4.2 hf i0 i1, vE_fg n4.2 hf j0 j1, a] at b
  have c := lat.2.2.2.2.2.2.2.1 _ _ b
  rw [su_congr (f := fun l => ι (φ (shN p n dp' f' (mbL p n C f' i j) l)) * vE φ ι y n.toNat (bR f' l)) (g := fun l => ι (φ (shN p n dp' f' (mbL p n C f' i j) l)) * vE φ ι y n.toNat (bR fig l)) (fun l l0 l1 => by rw [vE_fg n4.2 hf l0 (by omega)])] at c
  have d := v.2.2.2.2.2.ind (s := fun l => φ (shN p n dp fig (mbL p n C fig i j) l)) (w := fun l => φ (shN p n dp' f' (mbL p n C f' i j) l)) v.1 p2 n4 v.2.2.2.1 c l l0 l1
  have x1 : (16 * i + 4 * j + l) / 16 = i := by omega
  have x2 : (16 * i + 4 * j + l) / 4 % 4 = j := by omega
  have x3 : (16 * i + 4 * j + l) % 4 = l := by omega
  unfold tb1
  rw [x1, x2, x3]
  exact (v.1.1.eqv d (fun x => (shN_can p2 (mbL_can p2)).1 l x) (fun x => (shN_can p2 (mbL_can p2)).1 l x) q q0).symm
theorem GN.fg {O E : Type} [I : Lean.Grind.CommRing O] [J : Lean.Grind.CommRing E] {p n k : Int} {C : Int → Int → Int} {φ : (Int → Int) → O} {ι : O → E} {y : E} {fig : Int → Int → Int → Int} {dp : Int → Int} (v : RNV p n C φ ι y k fig dp) {f' : Int → Int → Int → Int} {dp' : Int → Int} (v' : RNV p n C φ ι y k f' dp') (hf : fgR n fig f') {top g : Int → Int} (gn : GN p n (tb1 p n C fig dp 0) (tb1 p n C fig dp 1) top g) : GN p n (tb1 p n C f' dp' 0) (tb1 p n C f' dp' 1) top g := by
  have n4 := v.2.2.1
  have a := isN_congr (p := p) (T := tb1 p n C f' dp' 0) (T' := tb1 p n C fig dp 0) n4 (fun i j l i0 i1 j0 j1 l0 l1 => tb1_fg v v' hf (by omega) i0 i1 j0 j1 l0 l1)
  have b := kpR_congr (p := p) (N := isN p n (tb1 p n C fig dp 0)) (top := top) n4 (T := tb1 p n C f' dp' 0) (T' := tb1 p n C fig dp 0) (U := tb1 p n C f' dp' 1) (U' := tb1 p n C fig dp 1) (fun i j l i0 i1 j0 j1 l0 l1 => tb1_fg v v' hf (by omega) i0 i1 j0 j1 l0 l1) (fun i j l i0 i1 j0 j1 l0 l1 => tb1_fg v v' hf (by omega) i0 i1 j0 j1 l0 l1)
  unfold GN
  rw [a, b]
  exact gn
/-- gains do not depend on who tells them -/
theorem GN.uniq {p n : Int} (hp : 2 ≤ p) {T1 T2 top top' g g' : Int → Int} (a : GN p n T1 T2 top g) (b : GN p n T1 T2 top' g') : ∀ j, 0 ≤ j → j < n → g j = g' j := by
  have fu : ∀ {P : Int → Prop} {lo hi t t' : Int}, fstP P lo hi t → fstP P lo hi t' → t = t' := fun {P lo hi t t'} x z => by
    rcases x with x | x <;> rcases z with z | z
    · rw [x.1, z.1]
    · exact absurd z.2.2.1 (x.2 t' z.1 z.2.1)
    · exact absurd x.2.2.1 (z.2 t x.1 x.2.1)
    · rcases Int.lt_trichotomy t t' with w | w | w
      · exact absurd x.2.2.1 (z.2.2.2 t x.1 w)
      · exact w
      · exact absurd z.2.2.1 (x.2.2.2 t' z.1 w)
  have tt : ∀ j, 0 ≤ j → j < n → top j = top' j := fun j j0 j1 => fu (a.1 j j0 j1) (b.1 j j0 j1)
  have e : kpR p n T1 T2 (isN p n T1) top = kpR p n T1 T2 (isN p n T1) top' := funext fun x => propext ⟨fun h => ⟨h.1, fun j j0 j1 jt => by rw [← tt j j0 j1] at jt ⊢; exact h.2 j j0 j1 jt⟩, fun h => ⟨h.1, fun j j0 j1 jt => by rw [tt j j0 j1] at jt ⊢; exact h.2 j j0 j1 jt⟩⟩
  intro j j0 j1
  have x := a.2 j j0 j1
  rw [e] at x
  exact fu x (b.2 j j0 j1)
/-- one next ring -/
theorem nx_one {O E : Type} [I : Lean.Grind.CommRing O] [J : Lean.Grind.CommRing E] {p n k : Int} {C : Int → Int → Int} {φ : (Int → Int) → O} {ι : O → E} {y : E} {fig : Int → Int → Int → Int} {dp : Int → Int} (v : RNV p n C φ ι y k fig dp) (hk : k ≤ 18) {top g top' g' : Int → Int} (gn : GN p n (tb1 p n C fig dp 0) (tb1 p n C fig dp 1) top g) {f1 f2 : Int → Int → Int → Int} {d1 d2 : Int → Int} (nx : ∀ j, 0 ≤ j → j < n → NX1 p j (g j) fig dp f1 d1) (r2 : RDC n f2 d1) (t2 : TRF n f2) (b2 : ∀ l i m, 0 ≤ l → l < n → 0 ≤ i → i < 4 → 0 ≤ m → m ≤ 20 → 0 ≤ f2 l i m ∧ f2 l i m < p) (q2 : ∀ j : Nat, (j : Int) < n → MUL (ι (φ t1)) (ι (φ t1) ^ 20) (LT ι n.toNat (fun l => vE φ ι y n.toNat (bR fig l))) (ι (φ t1) * vE φ ι y n.toNat (bR f2 j))) : fgR n f1 f2 := fun l i m l0 l1 i0 i1 m0 m1 => by
  have sp := nx_span v hk gn nx
  have r1 := nx_rst v hk gn nx
  have := q2 l.toNat (by omega)
  rw [show ((l.toNat : Nat) : Int) = l by omega] at this
  exact rdc_uniq v.1 v.2.1.two.1 v.2.2.1 v.2.2.2.1 r1.1 r2 r1.2.1 t2 r1.2.2.1 b2 l0 l1 ((sp _).mpr this) i0 i1 m0 m1
