/-! The class's tables, second part. -/
theorem comm_E {E : Type} [I : Lean.Grind.CommRing E] (a b : E) : a * b = b * a := by grind
theorem RNV.comm {O E : Type} [I : Lean.Grind.CommRing O] [J : Lean.Grind.CommRing E] {p n k : Int} {C : Int → Int → Int} {φ : (Int → Int) → O} {ι : O → E} {y : E} {fig : Int → Int → Int → Int} {dp : Int → Int} (v : RNV p n C φ ι y k fig dp) {a c : Int} (a0 : 0 ≤ a) (a1 : a < n) (c0 : 0 ≤ c) (c1 : c < n) (l x : Int) : shN p n dp fig (mbL p n C fig a c) l x = shN p n dp fig (mbL p n C fig c a) l x := by
  have p2 := v.2.1.two.1
  have e : vE φ ι y n.toNat (mbL p n C fig a c) = vE φ ι y n.toNat (mbL p n C fig c a) := by
    rw [mb_e v.1 v.2.2.1 v.2.2.2.1 v.2.2.2.2.2.2.1 a0 a1 c0 c1, mb_e v.1 v.2.2.1 v.2.2.2.1 v.2.2.2.2.2.2.1 c0 c1 a0 a1]
    exact comm_E _ _
  by_cases q : x < 0
  · rw [(shN_can p2 (mbL_can p2)).2 l x q, (shN_can p2 (mbL_can p2)).2 l x q]
  · exact (shN_cut (p := p) (u := x) (by omega) v.2.2.2.2.2.1.1 (fun l i m l0 l1 i0 i1 m0 m1 => v.deep l0 l1 i0 i1 m0 m1) (fun i z i0 i1 z0 _ => vE_can v.1.1 v.2.2.2.1 e (fun i x => (mbL_can p2).1 i x) (fun i x => (mbL_can p2).1 i x) i0 i1 z0)).2 l x (Int.le_refl x)
theorem RNV.b0 {O E : Type} [I : Lean.Grind.CommRing O] [J : Lean.Grind.CommRing E] {p n k : Int} {C : Int → Int → Int} {φ : (Int → Int) → O} {ι : O → E} {y : E} {fig : Int → Int → Int → Int} {dp : Int → Int} (v : RNV p n C φ ι y k fig dp) : vE φ ι y n.toNat (bR fig 0) = ι (φ t1) ^ 20 := by
  have hn := v.2.2.1
  have A := v.2.2.2.1
  unfold vE
  rw [su_one 0 (by omega) (by omega) (fun i i0 i1 ni => by rw [bR_0 v.1 v.2.2.2.2.2.2.1 (by omega) (by omega) (by omega) (by omega), A.i0]; grind), bR_d v.1 v.2.2.2.2.2.1 (by omega) (by omega), v.2.2.2.2.2.2.2.2.2.1, A.ipow, show ((20 : Int) - 0).toNat = 20 from rfl, show (0 : Int).toNat = 0 from rfl]
  grind
theorem RNV.one {O E : Type} [I : Lean.Grind.CommRing O] [J : Lean.Grind.CommRing E] {p n k : Int} {C : Int → Int → Int} {φ : (Int → Int) → O} {ι : O → E} {y : E} {fig : Int → Int → Int → Int} {dp : Int → Int} (v : RNV p n C φ ι y k fig dp) {c : Int} (c0 : 0 ≤ c) (c1 : c < n) {l x : Int} (l0 : 0 ≤ l) (l1 : l < n) (x0 : 0 ≤ x) : shN p n dp fig (mbL p n C fig 0 c) l x = if l = c ∧ x = 0 then 1 else 0 := by
  have p2 := v.2.1.two
  have hn := v.2.2.1
  have A := v.2.2.2.1
  have e := (v.pr (i := 0) (j := c) (by omega) (by omega) c0 c1).2
  rw [v.b0] at e
  have e := tau_canN v.1 A 20 e
  have e2 : vE φ ι y n.toNat (bR fig c) = su n.toNat (fun l => ι (if l = c then 1 else 0) * vE φ ι y n.toNat (bR fig l)) := by
    rw [su_one c c0 (by omega) (fun i _ _ ni => by (try dsimp only); rw [if_neg ni, A.i0]; grind)]
    (try dsimp only)
    rw [if_pos rfl, A.2.2.1]
    grind
  have s := v.2.2.2.2.2.ind v.1 p2.1 hn A (e.symm.trans e2) l l0 l1
  refine v.1.1.eqv (f := shN p n dp fig (mbL p n C fig 0 c) l) (g := fun x => if l = c ∧ x = 0 then 1 else 0) ?_ (fun x => (shN_can p2.1 (mbL_can p2.1)).1 l x) (fun x => by (try dsimp only); split <;> omega) x x0
  (try dsimp only at s)
  rw [s]
  by_cases q : l = c
  · rw [if_pos q, show (fun x : Int => if l = c ∧ x = 0 then (1 : Int) else 0) = fun x => if x = 0 then 1 else 0 from funext fun x => by
      by_cases q2 : x = 0
      · rw [if_pos ⟨q, q2⟩, if_pos q2]
      · rw [if_neg (by omega), if_neg q2]]
    exact v.1.1.2.2.2.2.1.symm
  · rw [if_neg q, show (fun x : Int => if l = c ∧ x = 0 then (1 : Int) else 0) = fun _ => 0 from funext fun x => if_neg (by omega)]
    exact v.1.1.2.2.2.2.2.1.symm
theorem tb1_ij {p n : Int} {C : Int → Int → Int} {fig : Int → Int → Int → Int} {dp : Int → Int} {q i j l : Int} (j0 : 0 ≤ j) (j1 : j < 4) (l0 : 0 ≤ l) (l1 : l < 4) : tb1 p n C fig dp q ((4 * i + j) * 4 + l) = shN p n dp fig (mbL p n C fig i j) l q := by
  unfold tb1
  rw [show ((4 * i + j) * 4 + l) / 16 = i by omega, show ((4 * i + j) * 4 + l) / 4 % 4 = j by omega, show ((4 * i + j) * 4 + l) % 4 = l by omega]
/-- THE CLASS'S TABLES ARE THE REFERENCE'S -/
theorem RNV.tabs {O E : Type} [I : Lean.Grind.CommRing O] [J : Lean.Grind.CommRing E] {p n k : Int} {C : Int → Int → Int} {φ : (Int → Int) → O} {ι : O → E} {y : E} {fig : Int → Int → Int → Int} {dp : Int → Int} (v : RNV p n C φ ι y k fig dp) {lo hg : Int → Int} (h0 : T0 n lo hg) (h1 : T1 p n C dp fig lo hg n n 0) {i j l : Int} (i0 : 0 ≤ i) (i1 : i < n) (j0 : 0 ≤ j) (j1 : j < n) (l0 : 0 ≤ l) (l1 : l < n) : lo ((4 * i + j) * 4 + l) = tb1 p n C fig dp 0 ((4 * i + j) * 4 + l) ∧ hg ((4 * i + j) * 4 + l) = tb1 p n C fig dp 1 ((4 * i + j) * 4 + l) := by
  have hn := v.2.2.1
  rw [tb1_ij j0 (by omega) l0 (by omega), tb1_ij j0 (by omega) l0 (by omega)]
  by_cases qi : i = 0
  · rw [qi]
    have a := h0 j l j0 j1 l0 l1
    rw [a.1, a.2.2.1, v.one j0 j1 l0 l1 (by omega), v.one j0 j1 l0 l1 (by omega), if_neg (show ¬ (l = j ∧ (1 : Int) = 0) by omega)]
    refine ⟨?_, rfl⟩
    by_cases q : l = j
    · rw [if_pos q, if_pos ⟨q, rfl⟩]
    · rw [if_neg q, if_neg (fun x => q x.1)]
  · by_cases qj : j = 0
    · rw [qj, v.comm i0 i1 (by omega) (by omega), v.comm i0 i1 (by omega) (by omega)]
      have a := h0 i l i0 i1 l0 l1
      rw [a.2.1, a.2.2.2, v.one i0 i1 l0 l1 (by omega), v.one i0 i1 l0 l1 (by omega), if_neg (show ¬ (l = i ∧ (1 : Int) = 0) by omega)]
      refine ⟨?_, rfl⟩
      by_cases q : l = i
      · rw [if_pos q, if_pos ⟨q, rfl⟩]
      · rw [if_neg q, if_neg (fun x => q x.1)]
    · by_cases q : i ≤ j
      · have a := h1 i j l (dp i) (dp j) (by omega) q j1 l0 l1 (Or.inl i1) (rnv_dpIs v i0 i1) (rnv_dpIs v j0 j1)
        have s := (v.ok1 (u := 1) (by omega) i0 i1 j0 j1).2
        rw [a.1, a.2.2.1]
        exact ⟨s l 0 (by omega), s l 1 (by omega)⟩
      · have a := h1 j i l (dp j) (dp i) (by omega) (by omega) i1 l0 l1 (Or.inl j1) (rnv_dpIs v j0 j1) (rnv_dpIs v i0 i1)
        have s := (v.ok1 (u := 1) (by omega) j0 j1 i0 i1).2
        rw [a.2.1, a.2.2.2, v.comm i0 i1 j0 j1, v.comm i0 i1 j0 j1]
        exact ⟨s l 0 (by omega), s l 1 (by omega)⟩
