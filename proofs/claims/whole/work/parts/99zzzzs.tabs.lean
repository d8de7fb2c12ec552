/-! The class's tables of products are the reference's. -/
theorem rnv_dpIs {O E : Type} [I : Lean.Grind.CommRing O] [J : Lean.Grind.CommRing E] {p n k : Int} {C : Int → Int → Int} {φ : (Int → Int) → O} {ι : O → E} {y : E} {fig : Int → Int → Int → Int} {dp : Int → Int} (v : RNV p n C φ ι y k fig dp) {l : Int} (l0 : 0 ≤ l) (l1 : l < n) : isDp (fig l) l (dp l) := by
  have b := v.2.2.2.2.2.1.1 l l0 l1
  have f := v.2.2.2.2.2.1.2.1 l (dp l) l0 l1 b.1 b.2
  rw [if_pos rfl] at f
  exact ⟨b.1, b.2, fun m m0 m1 i i0 i1 => v.deep l0 l1 i0 (by omega) m0 m1, fun _ => ⟨l, l0, Int.le_refl _, by omega⟩⟩
theorem RNV.unf {O E : Type} [I : Lean.Grind.CommRing O] [J : Lean.Grind.CommRing E] {p n k : Int} {C : Int → Int → Int} {φ : (Int → Int) → O} {ι : O → E} {y : E} {fig : Int → Int → Int → Int} {dp : Int → Int} (v : RNV p n C φ ι y k fig dp) {l : Int} (l0 : 0 ≤ l) (l1 : l < n) : vE φ ι y n.toNat (bR fig l) = ι (φ t1) ^ (20 - dp l).toNat * vE φ ι y n.toNat (unfF fig l (dp l)) := by
  have b := v.2.2.2.2.2.1.1 l l0 l1
  have hn := v.2.2.1
  unfold vE
  rw [← su_mul]
  refine su_congr fun i i0 i1 => ?_
  have e : φ (bR fig l i) = φ t1 ^ (20 - dp l).toNat * φ (unfF fig l (dp l) i) := by
    rw [← v.1.1.shiftN (f := unfF fig l (dp l) i) (fun x hx => if_neg (by omega))]
    congr 1
    refine funext fun x => ?_
    unfold bR unfF
    by_cases q : 0 ≤ x ∧ x ≤ 20
    · rw [if_pos q]
      by_cases q2 : i ≤ l ∧ 20 - dp l ≤ x
      · rw [if_pos (by omega), show dp l - (x - ((20 - dp l).toNat : Nat)) = 20 - x by omega]
      · rw [if_neg (by omega)]
        by_cases q3 : i ≤ l
        · exact v.deep l0 l1 i0 (by omega) (by omega) (by omega)
        · exact v.2.2.2.2.2.2.1 l i (20 - x) l0 l1 (by omega) (by omega) (by omega) (by omega)
    · rw [if_neg q, if_neg (by omega)]
  rw [e, v.2.2.2.1.2.1, v.2.2.2.1.ipow]
  grind
theorem mulF_neg {p n : Int} {W : Int → Int → Int} {T : Int → Int → Int → Int} {l k : Int} (hk : k < 0) : mulF p n W T l k = 0 := by
  unfold mulF
  split
  · rw [sm_zeros (fun j _ _ => cnv_neg hk)]
    exact Int.zero_emod p
  · rfl
theorem vE_can {p n : Int} {O E : Type} [I : Lean.Grind.CommRing O] [J : Lean.Grind.CommRing E] {φ : (Int → Int) → O} {ι : O → E} {y : E} {c : Int → O} (h : HM p φ) (a : ALG n.toNat c ι y) {V W : Int → Int → Int} (e : vE φ ι y n.toNat V = vE φ ι y n.toNat W) (bV : ∀ i x, 0 ≤ V i x ∧ V i x < p) (bW : ∀ i x, 0 ≤ W i x ∧ W i x < p) {i x : Int} (i0 : 0 ≤ i) (i1 : i < n) (x0 : 0 ≤ x) : V i x = W i x :=
  h.eqv (y_ind (v := fun i => φ (V i)) (w := fun i => φ (W i)) a e i i0 (by omega)) (bV i) (bW i) x x0
theorem prd_alg {E : Type} [I : Lean.Grind.CommRing E] (r s u w : E) : r * s * (u * w) = r * u * (s * w) := by grind
/-- the class's product of two of the basis, and the reference's -/
theorem RNV.prd {O E : Type} [I : Lean.Grind.CommRing O] [J : Lean.Grind.CommRing E] {p n k : Int} {C : Int → Int → Int} {φ : (Int → Int) → O} {ι : O → E} {y : E} {fig : Int → Int → Int → Int} {dp : Int → Int} (v : RNV p n C φ ι y k fig dp) {a c : Int} (a0 : 0 ≤ a) (a1 : a < n) (c0 : 0 ≤ c) (c1 : c < n) {i x : Int} (i0 : 0 ≤ i) (i1 : i < n) (x0 : 0 ≤ x) : mbL p n C fig a c i x = prdF p n C fig a (dp a) c (dp c) i (x - 40 + (dp a + dp c)) := by
  have ba := v.2.2.2.2.2.1.1 a a0 a1
  have bc := v.2.2.2.2.2.1.1 c c0 c1
  have p2 := v.2.1.two.1
  have hn := v.2.2.1
  have A := v.2.2.2.1
  have e : vE φ ι y n.toNat (fun i x => prdF p n C fig a (dp a) c (dp c) i (x - ((40 - dp a - dp c).toNat : Nat))) = vE φ ι y n.toNat (mbL p n C fig a c) := by
    rw [mb_e v.1 hn A v.2.2.2.2.2.2.1 a0 a1 c0 c1, v.unf a0 a1, v.unf c0 c1]
    have m : vE φ ι y n.toNat (prdF p n C fig a (dp a) c (dp c)) = _ := mul_e v.1.1 hn A (unfF fig a (dp a)) (unfF fig c (dp c))
    have s : vE φ ι y n.toNat (fun i x => prdF p n C fig a (dp a) c (dp c) i (x - ((40 - dp a - dp c).toNat : Nat))) = ι (φ t1) ^ (40 - dp a - dp c).toNat * vE φ ι y n.toNat (prdF p n C fig a (dp a) c (dp c)) := by
      unfold vE
      rw [← su_mul]
      refine su_congr fun i i0 i1 => ?_
      (try dsimp only)
      rw [v.1.1.shiftN (f := prdF p n C fig a (dp a) c (dp c) i) (fun x hx => mulF_neg hx), A.2.1, A.ipow]
      grind
    rw [s, m, show (40 - dp a - dp c).toNat = (20 - dp a).toNat + (20 - dp c).toNat by omega, pow_ad]
    generalize vE φ ι y n.toNat (unfF fig a (dp a)) = u
    generalize vE φ ι y n.toNat (unfF fig c (dp c)) = w
    generalize ι (φ t1) ^ (20 - dp a).toNat = r
    generalize ι (φ t1) ^ (20 - dp c).toNat = s
    exact prd_alg r s u w
  have q := vE_can v.1.1 A e (fun i x => mulF_bd p2 i _) (fun i x => (mbL_can p2).1 i x) i0 i1 x0
  rw [← q, show x - ((40 - dp a - dp c).toNat : Nat) = x - 40 + (dp a + dp c) by omega]
theorem RNV.spd {O E : Type} [I : Lean.Grind.CommRing O] [J : Lean.Grind.CommRing E] {p n k : Int} {C : Int → Int → Int} {φ : (Int → Int) → O} {ι : O → E} {y : E} {fig : Int → Int → Int → Int} {dp : Int → Int} (v : RNV p n C φ ι y k fig dp) {a c u : Int} (a0 : 0 ≤ a) (a1 : a < n) (c0 : 0 ≤ c) (c1 : c < n) {i x : Int} (i0 : 0 ≤ i) (i1 : i < n) (x0 : 0 ≤ x) (x1 : x ≤ 40 + u) : spdF p n C fig a (dp a) c (dp c) u i x = mbL p n C fig a c i x := by
  rw [v.prd a0 a1 c0 c1 i0 i1 x0]
  unfold spdF sprd
  by_cases q : 0 ≤ x - 40 + (dp a + dp c)
  · rw [if_pos ⟨i0, i1, by omega, q⟩]
  · rw [if_neg (by omega)]
    exact (mulF_neg (by omega)).symm
/-- what is above t^u does not count below it -/
theorem exN_cut {p n W : Int} {dp : Int → Int} {fig : Int → Int → Int → Int} {V V' : Int → Int → Int} (bd : ∀ l, 0 ≤ l → l < n → 0 ≤ dp l ∧ dp l ≤ 20) (dz : ∀ l i m, 0 ≤ l → l < n → 0 ≤ i → i < n → dp l < m → m ≤ 20 → fig l i m = 0) (e : ∀ i x, 0 ≤ i → i < n → 0 ≤ x → x ≤ W → V i x = V' i x) : ∀ (s : Nat), (s : Int) ≤ n → ∀ i x, 0 ≤ i → i < n → 0 ≤ x → x ≤ W → exN p n dp fig s V i x = exN p n dp fig s V' i x
  | 0, _, i, x, i0, i1, x0, x1 => e i x i0 i1 x0 x1
  | s + 1, hs, i, x, i0, i1, x0, x1 => by
    have ih := exN_cut (p := p) bd dz e s (by omega)
    show exS p dp fig (exN p n dp fig s V) (n - 1 - s) i x = exS p dp fig (exN p n dp fig s V') (n - 1 - s) i x
    unfold exS
    have b := bd (n - 1 - s) (by omega) (by omega)
    by_cases q : 0 ≤ i ∧ i < n - 1 - s
    · rw [if_pos q, if_pos q, ih i x i0 i1 x0 x1, sm_congr fun m m0 m1 => ?_]
      by_cases q2 : dp (n - 1 - s) < m + 1
      · rw [dz (n - 1 - s) i (m + 1) (by omega) (by omega) i0 i1 q2 (by omega), Int.zero_mul, Int.zero_mul]
      · congr 1
        unfold shE
        by_cases q3 : x - (40 - (m + 1)) < 0
        · rw [if_pos q3, if_pos q3]
        · rw [if_neg q3, if_neg q3]
          exact ih _ _ (by omega) (by omega) (by omega) (by omega)
    · rw [if_neg q, if_neg q]
      exact ih i x i0 i1 x0 x1
theorem shN_cut {p n u : Int} {dp : Int → Int} {fig : Int → Int → Int → Int} {V V' : Int → Int → Int} (u0 : 0 ≤ u) (bd : ∀ l, 0 ≤ l → l < n → 0 ≤ dp l ∧ dp l ≤ 20) (dz : ∀ l i m, 0 ≤ l → l < n → 0 ≤ i → i < n → dp l < m → m ≤ 20 → fig l i m = 0) (e : ∀ i x, 0 ≤ i → i < n → 0 ≤ x → x ≤ 40 + u → V i x = V' i x) : (okE p n dp fig V ↔ okE p n dp fig V') ∧ ∀ l x, x ≤ u → shN p n dp fig V l x = shN p n dp fig V' l x := by
  have c := fun s hs i x i0 i1 x0 x1 => exN_cut (p := p) (V := V) (V' := V') bd dz e s hs i x i0 i1 x0 x1
  refine ⟨⟨fun o l l0 l1 x x0 x1 => ?_, fun o l l0 l1 x x0 x1 => ?_⟩, fun l x x1 => ?_⟩
  · have := bd l l0 l1
    rw [← c (n - 1 - l).toNat (by omega) l x l0 l1 x0 (by omega)]
    exact o l l0 l1 x x0 x1
  · have := bd l l0 l1
    rw [c (n - 1 - l).toNat (by omega) l x l0 l1 x0 (by omega)]
    exact o l l0 l1 x x0 x1
  · unfold shN
    by_cases q : 0 ≤ l ∧ l < n
    · rw [if_pos q, if_pos q]
      unfold shE
      have := bd l q.1 q.2
      by_cases q2 : x < 0
      · rw [if_pos q2, if_pos q2]
      · rw [if_neg q2, if_neg q2]
        exact c _ (by omega) _ _ q.1 q.2 (by omega) (by omega)
    · rw [if_neg q, if_neg q]
theorem RNV.ok1 {O E : Type} [I : Lean.Grind.CommRing O] [J : Lean.Grind.CommRing E] {p n k : Int} {C : Int → Int → Int} {φ : (Int → Int) → O} {ι : O → E} {y : E} {fig : Int → Int → Int → Int} {dp : Int → Int} (v : RNV p n C φ ι y k fig dp) {a c u : Int} (u0 : 0 ≤ u) (a0 : 0 ≤ a) (a1 : a < n) (c0 : 0 ≤ c) (c1 : c < n) : okE p n dp fig (spdF p n C fig a (dp a) c (dp c) u) ∧ ∀ l x, x ≤ u → shN p n dp fig (spdF p n C fig a (dp a) c (dp c) u) l x = shN p n dp fig (mbL p n C fig a c) l x := by
  have s := shN_cut (p := p) u0 v.2.2.2.2.2.1.1 (fun l i m l0 l1 i0 i1 m0 m1 => v.deep l0 l1 i0 i1 m0 m1) (fun i x i0 i1 x0 x1 => v.spd a0 a1 c0 c1 i0 i1 x0 x1)
  exact ⟨s.1.mpr (v.pr a0 a1 c0 c1).1, s.2⟩
