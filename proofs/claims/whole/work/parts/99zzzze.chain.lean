/-! Rings grow: each is a ring again. -/
theorem gbF_or (g : Int) : gbF g = 0 ∨ gbF g = 1 := by
  unfold gbF
  split
  · exact Or.inr rfl
  · exact Or.inl rfl
theorem gR_z {p b : Int} {O : Type} [I : Lean.Grind.CommRing O] {φ : (Int → Int) → O} (h : HMs p φ) {c : Int → Int} {fig : Int → Int → Int → Int} {i j : Int} (j0 : 0 ≤ j) (q : j < i) : φ (gR p b c fig j i) = 0 := by
  have e : gR p b c fig j i = fun _ => 0 := funext fun x => by
    unfold gR gwV gwS
    split
    · rw [sm_zeros (fun l l0 l1 => if_neg (by omega))]
      exact Int.zero_emod p
    · rfl
  rw [e, h.1.2.2.2.2.2.1]
theorem gain0 {O E : Type} [I : Lean.Grind.CommRing O] [J : Lean.Grind.CommRing E] {p n k : Int} {C : Int → Int → Int} {φ : (Int → Int) → O} {ι : O → E} {y : E} {fig : Int → Int → Int → Int} {dp : Int → Int} (v : RNV p n C φ ι y k fig dp) {top g : Int → Int} (gn : GN p n (tb1 p n C fig dp 0) (tb1 p n C fig dp 1) top g) : g 0 < 0 := by
  refine Classical.byContradiction (fun q => ?_)
  have vz := fun z => v.vz (z := z) (a := g 0)
  have nil := rnv_nil v (g 0)
  have lat := v.lat
  obtain ⟨h, hp, hn, A, hk, r⟩ := v
  have g0 := gn.2 0 (by omega) (by omega)
  rcases g0 with f | f
  · omega
  · have dg := code_dg (j := 0) (g := g 0) hp.two (by omega) f.1 f.2.1
    obtain ⟨-, x, lx, ex⟩ := nil.mp f.2.2.1.1
    have e0 : vC p φ ι n.toNat (fun l => vE φ ι y n.toNat (bR fig l)) (g 0) = ι (φ t1) ^ 20 := by
      unfold vC
      rw [su_one 0 (by omega) (by omega) (fun l l0 l1 nl => by rw [dg.2 l (by omega), h.1.nC_0, A.i0]; grind), dg.1, h.1.nC_1, A.2.2.1]
      unfold vE
      (try dsimp only)
      rw [su_one 0 (by omega) (by omega) (fun l l0 l1 nl => by rw [bR_0 h r.2.1 (by omega) (by omega) (by omega) (by omega), A.i0]; grind), bR_d h r.1 (by omega) (by omega), r.2.2.2.2.1, A.ipow]
      rw [show (0 : Int).toNat = 0 from rfl, show ((20 : Int) - 0).toNat = 20 from rfl]
      grind
    rw [e0] at ex
    have e1 : ι (φ t1) ^ 20 = ι (φ t1) * x := lat.canT 3 (by rw [← ex]; grind)
    have := vz x lx (e0.trans e1) 0 (by omega) (by omega)
    rw [dg.1] at this
    omega
set_option maxHeartbeats 1000000 in
theorem nx_rst {O E : Type} [I : Lean.Grind.CommRing O] [J : Lean.Grind.CommRing E] {p n k : Int} {C : Int → Int → Int} {φ : (Int → Int) → O} {ι : O → E} {y : E} {fig f' : Int → Int → Int → Int} {dp dp' : Int → Int} (v : RNV p n C φ ι y k fig dp) (hk : k ≤ 18) {top g : Int → Int} (gn : GN p n (tb1 p n C fig dp 0) (tb1 p n C fig dp 1) top g) (nx : ∀ j, 0 ≤ j → j < n → NX1 p j (g j) fig dp f' dp') : RST p n φ ι y (k + 1) f' dp' := by
  have rab := v.rab
  have lat := v.lat
  have n4 := v.n4
  have g0 := gain0 v gn
  obtain ⟨h, hp, hn, A, hk19, r⟩ := v
  have h2 := hp.two
  have dpk : ∀ j, 0 ≤ j → j < n → 0 ≤ dp j ∧ dp j ≤ k := fun j j0 j1 => by
    have b := r.1.1 j j0 j1
    refine ⟨b.1, Classical.byContradiction (fun q => ?_)⟩
    have e1 := r.1.2.1 j (dp j) j0 j1 b.1 b.2
    rw [if_pos rfl, r.2.2.2.1 j j (dp j) j0 j1 j0 (by omega) (by omega) b.2] at e1
    omega
  have d1 : ∀ j, 0 ≤ j → j < n → 0 ≤ dp' j ∧ dp' j ≤ k + 1 := fun j j0 j1 => by
    have a := (nx j j0 j1).1
    have b := dpk j j0 j1
    have c := gbF_or (g j)
    omega
  have tr : TRF n f' := fun l i m l0 l1 i0 i1 m0 m1 => (nx l l0 l1).2.2.2.1 i m i0 i1 m0 (by omega)
  have rdc : RDC n f' dp' := by
    refine ⟨fun l l0 l1 => ?_, fun l m l0 l1 m0 m1 => (nx l l0 l1).2.1 m m0 (by omega), fun l i m i0 i1 l1 m0 m1 ne => ?_⟩
    · have := d1 l l0 l1
      omega
    · refine Classical.byContradiction (fun q => ne ?_)
      exact (nx l (by omega) l1).2.2.1 i m i0 i1 m0 (by omega)
  have cd : ∀ j, 0 ≤ j → j < n → 0 ≤ g j → dgt p (g j) j = 1 ∧ ∀ i, j < i → dgt p (g j) i = 0 := fun j j0 j1 hj => by
    rcases gn.2 j j0 j1 with f | f
    · omega
    · exact code_dg h2 j0 f.1 f.2.1
  have cj : ∀ j, 0 ≤ j → j < n → gcF p (g j) j j = 1 := fun j j0 j1 => by
    unfold gcF
    by_cases q : 0 ≤ g j
    · rw [if_pos q]
      exact (cd j j0 j1 q).1
    · rw [if_neg q, if_pos rfl]
  have cz : ∀ j, 0 ≤ j → j < n → ∀ l, j < l → l < n → gcF p (g j) j l = 0 := fun j j0 j1 l l0 l1 => by
    unfold gcF
    by_cases q : 0 ≤ g j
    · rw [if_pos q]
      exact (cd j j0 j1 q).2 l l0
    · rw [if_neg q, if_neg (by omega)]
  have ge := fun j j0 j1 => gw_e (b := gbF (g j)) (c := gcF p (g j) j) (j := j) h hn A hk19 r (gbF_or _) j0 j1 (cz j j0 j1)
  have rx : ∀ j, ∃ (σ ω : Int → O), 0 ≤ j → j < n → ∀ i, 0 ≤ i → i < n → φ (bR f' j i) = φ (gR p (gbF (g j)) (gcF p (g j) j) fig j i) - su j.toNat (fun a => σ a * φ (bR f' a i)) + (if i < j then φ t1 ^ 21 * ω i else 0) := fun j => by
    by_cases q : 0 ≤ j ∧ j < n
    · obtain ⟨σ, ω, e⟩ := nx_row h hp hn r q.1 q.2 (by have := d1 j q.1 q.2; omega) (cj j q.1 q.2) tr (nx j q.1 q.2)
      exact ⟨σ, ω, fun _ _ => e⟩
    · exact ⟨fun _ => 0, fun _ => 0, fun a b => absurd ⟨a, b⟩ q⟩
  have rx : ∃ (σ ω : Int → Int → O), ∀ j, 0 ≤ j → j < n → ∀ i, 0 ≤ i → i < n → φ (bR f' j i) = φ (gR p (gbF (g j)) (gcF p (g j) j) fig j i) - su j.toNat (fun a => σ j a * φ (bR f' a i)) + (if i < j then φ t1 ^ 21 * ω j i else 0) := ⟨fun j => Classical.choose (rx j), fun j => Classical.choose (Classical.choose_spec (rx j)), fun j => Classical.choose_spec (Classical.choose_spec (rx j))⟩
  obtain ⟨σ, ω, row⟩ := rx
  have nlt := @next_lt O E I J p n _ _ φ ι y _ _ (fun j => vE φ ι y n.toNat (gR p (gbF (g j)) (gcF p (g j) j) fig j)) rab top g gn (fun j j0 j1 hj => by
    have e := ge j j0 j1
    rw [show gbF (g j) = 1 from if_pos hj, show (1 : Int).toNat = 1 from rfl] at e
    have e1 : ι (φ t1) ^ 1 = ι (φ t1) := by grind
    rw [e1] at e
    (try dsimp only)
    rw [show gbF (g j) = 1 from if_pos hj, e]
    unfold vC
    exact su_congr fun l _ _ => by rw [show gcF p (g j) j l = dgt p (g j) l from if_pos hj]) (fun j j0 j1 hj => by
    have e := ge j j0 j1
    rw [show gbF (g j) = 0 from if_neg (by omega), show (0 : Int).toNat = 0 from rfl, Lean.Grind.Semiring.pow_zero, su_one j j0 (by omega) (fun l l0 l1 nl => by rw [show gcF p (g j) j l = 0 from (if_neg (by omega)).trans (if_neg nl), h.1.nC_0, A.i0]; grind), cj j j0 j1, h.1.nC_1, A.2.2.1] at e
    (try dsimp only)
    rw [show gbF (g j) = 0 from if_neg (by omega)]
    generalize vE φ ι y n.toNat (gR p 0 (gcF p (g j) j) fig j) = u at *
    generalize vE φ ι y n.toNat (bR fig j) = w at *
    grind)
  have hT : ∀ i : Int, 0 ≤ i → i < n → LT ι (i + 1).toNat (fun j => vE φ ι y n.toNat (gR p (gbF (g j)) (gcF p (g j) j) fig j)) (ι (φ t1) ^ 20 * y ^ i.toNat) := fun i i0 i1 => by
    refine tri_top (ex := fun b => (20 - dp' b).toNat) (w := fun l => if l = i then φ t1 ^ 20 else 0) h A (fun b l b0 b1 l1 => gR_z h b0 b1) (fun b b0 b1 => ?_) i0 (by omega) ((nlt _).mp (MUL.tau lat (r.2.2.2.2.2.2 i i0 i1))) ?_ (fun l l0 l1 => if_neg (by omega))
    · have e := row b b0 (by omega) b b0 (by omega)
      rw [if_neg (by omega), su_zeros (fun a a0 a1 => by rw [bR_0 h tr a0 (by omega) (by omega) (by omega)]; grind), bR_d h rdc b0 (by omega)] at e
      rw [e]
      grind
    · rw [su_one i i0 (by omega) (fun l l0 l1 nl => by (try dsimp only); rw [if_neg nl, A.i0]; grind)]
      (try dsimp only)
      rw [if_pos rfl, A.ipow]
  have hB : ∀ j : Int, 0 ≤ j → j < n.toNat → vE φ ι y n.toNat (bR f' j) = vE φ ι y n.toNat (gR p (gbF (g j)) (gcF p (g j) j) fig j) - su j.toNat (fun b => ι (σ j b) * vE φ ι y n.toNat (bR f' b)) + su j.toNat (fun i => ι (φ t1 * ω j i) * (ι (φ t1) ^ 20 * y ^ i.toNat)) := fun j j0 j1 => by
    have e2 : su j.toNat (fun b => ι (σ j b) * vE φ ι y n.toNat (bR f' b)) = su n.toNat (fun i => ι (su j.toNat (fun b => σ j b * φ (bR f' b i))) * y ^ i.toNat) := by
      unfold vE
      rw [su_congr (g := fun b => su n.toNat (fun i => ι (σ j b * φ (bR f' b i)) * y ^ i.toNat)) (fun b _ _ => by
        rw [← su_mul]
        exact su_congr fun i _ _ => by rw [A.2.1]; grind), su_swap]
      refine su_congr fun i _ _ => ?_
      rw [su_congr (g := fun b => y ^ i.toNat * ι (σ j b * φ (bR f' b i))) (fun b _ _ => by grind), su_mul, ← A.isu]
      grind
    have e3 : su j.toNat (fun i => ι (φ t1 * ω j i) * (ι (φ t1) ^ 20 * y ^ i.toNat)) = su n.toNat (fun i => ι (if i < j then φ t1 ^ 21 * ω j i else 0) * y ^ i.toNat) := by
      rw [su_more (n := j.toNat) (m := n.toNat) (by omega) (fun i i0 i1 => by rw [if_neg (by omega), A.i0]; grind)]
      refine su_congr fun i i0 i1 => ?_
      rw [if_pos (by omega), A.2.1, A.2.1, A.ipow]
      grind
    rw [e2, e3]
    unfold vE
    rw [show su n.toNat (fun l => ι (φ (gR p (gbF (g j)) (gcF p (g j) j) fig j l)) * y ^ l.toNat) - su n.toNat (fun i => ι (su j.toNat (fun b => σ j b * φ (bR f' b i))) * y ^ i.toNat) = su n.toNat (fun l => ι (φ (gR p (gbF (g j)) (gcF p (g j) j) fig j l)) * y ^ l.toNat) + - su n.toNat (fun i => ι (su j.toNat (fun b => σ j b * φ (bR f' b i))) * y ^ i.toNat) by grind, ← su_neg, ← su_add, ← su_add]
    refine su_congr fun i i0 i1 => ?_
    rw [row j j0 (by omega) i i0 (by omega), A.1, A.isub]
    grind
  have sp := span_eq (T := ι (φ t1) ^ 20) (B1 := fun j => vE φ ι y n.toNat (gR p (gbF (g j)) (gcF p (g j) j) fig j)) (B2 := fun j => vE φ ι y n.toNat (bR f' j)) (σ := σ) (x := fun j i => φ t1 * ω j i) A hB (fun i i0 i1 => hT i i0 (by omega)) n.toNat (Nat.le_refl _)
  have eq : ∀ e, LT ι n.toNat (fun j => vE φ ι y n.toNat (bR f' j)) e ↔ MUL (ι (φ t1)) (ι (φ t1) ^ 20) (LT ι n.toNat (fun l => vE φ ι y n.toNat (bR fig l))) (ι (φ t1) * e) := fun e => (sp e).trans (nlt e).symm
  have nxt := lat.next n4
  refine ⟨rdc, tr, fun l i m l0 l1 i0 i1 m0 m1 => (nx l l0 l1).2.2.2.2.1 i m i0 i1 m0 (by omega), ?_, ?_, fun i j i0 i1 j0 j1 => ?_, fun l l0 l1 => (eq _).mpr (MUL.tau lat (r.2.2.2.2.2.2 l l0 l1))⟩
  · have dig : ∀ w : Nat, ∀ l : Int, l < w → ∀ i m, 0 ≤ l → l < n → 0 ≤ i → i < 4 → k + 1 < m → m ≤ 20 → f' l i m = 0 := fun w => by
      induction w with
      | zero => exact fun l a i m b => by omega
      | succ w ih =>
        intro l lw i m l0 l1 i0 i1 m0 m1
        have N := nx l l0 l1
        have dl := d1 l l0 l1
        rcases Int.lt_trichotomy i l with q | q | q
        · obtain ⟨s, hs⟩ := N.2.2.2.2.2
          rw [hs i m i0 q (by omega) (by omega)]
          unfold rdV ds2
          rw [sm_zeros (fun a a0 a1 => sm_zeros (fun b b0 b1 => ?_))]
          · have z : gwV p (gbF (g l)) (gcF p (g l) l) fig (l + 1) i m = 0 := by
              unfold gwV gwS
              rw [sm_zeros (fun a a0 a1 => ?_)]
              · exact Int.zero_emod p
              · have c := gbF_or (g l)
                split
                · rw [r.2.2.2.1 a i _ a0 (by omega) i0 i1 (by omega) (by omega), Int.mul_zero]
                · rfl
            (try dsimp only)
            rw [z]
            exact Int.zero_emod p
          · unfold rdX
            split
            · rw [ih a (by omega) i (m + b) a0 (by omega) i0 i1 (by omega) (by omega), Int.mul_zero]
            · exact Int.mul_zero _
        · rw [q, N.2.1 m (by omega) (by omega), if_neg (by omega)]
        · exact N.2.2.2.1 i m q i1 (by omega) (by omega)
    exact fun l i m l0 l1 i0 i1 m0 m1 => dig n.toNat l (by omega) i m l0 l1 i0 i1 m0 m1
  · have := (nx 0 (by omega) (by omega)).1
    rw [this, r.2.2.2.2.1, show gbF (g 0) = 0 from if_neg (by omega)]
    rfl
  · obtain ⟨x, hx, ex⟩ := nxt.2.2.2 _ _ ((eq _).mp (LT.b A i0 (by omega))) ((eq _).mp (LT.b A j0 (by omega)))
    exact ⟨x, (eq x).mpr hx, ex⟩
