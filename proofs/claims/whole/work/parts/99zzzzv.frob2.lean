/-! The Frobenius of the classes of a ring. -/
/-- the element of numbers in front of the basis -/
def clE {O E : Type} [I : Lean.Grind.CommRing O] [J : Lean.Grind.CommRing E] (φ : (Int → Int) → O) (ι : O → E) (n : Nat) (B : Int → E) (x : Int → Int) : E := su n (fun l => ι (φ (nC (x l))) * B l)
theorem mul_pw {E : Type} [J : Lean.Grind.CommRing E] (a b : E) : ∀ k : Nat, (a * b) ^ k = a ^ k * b ^ k
  | 0 => by rw [Lean.Grind.Semiring.pow_zero, Lean.Grind.Semiring.pow_zero, Lean.Grind.Semiring.pow_zero]; grind
  | k + 1 => by rw [Lean.Grind.Semiring.pow_succ, mul_pw a b k, Lean.Grind.Semiring.pow_succ, Lean.Grind.Semiring.pow_succ]; grind
theorem z_pw {E : Type} [J : Lean.Grind.CommRing E] (k : Nat) : (0 : E) ^ (k + 1) = 0 := by
  rw [Lean.Grind.Semiring.pow_succ]
  grind
theorem su_frb {p : Int} {O E : Type} [I : Lean.Grind.CommRing O] [J : Lean.Grind.CommRing E] {φ : (Int → Int) → O} {ι : O → E} {y : E} {n : Nat} {c : Int → O} (h : HM p φ) (A : ALG n c ι y) (hp : isPr p) (f : Int → E) : ∀ k : Nat, (su k f) ^ p.toNat = su k (fun l => f l ^ p.toNat)
  | 0 => by
    rw [show su 0 f = 0 from rfl, show p.toNat = (p.toNat - 1) + 1 by have := hp.two; omega]
    exact z_pw _
  | k + 1 => by rw [su_succ, su_succ, frb h A hp, su_frb h A hp f k]
theorem cl_mul {O E : Type} [I : Lean.Grind.CommRing O] [J : Lean.Grind.CommRing E] {p n k : Int} {C : Int → Int → Int} {φ : (Int → Int) → O} {ι : O → E} {y : E} {fig : Int → Int → Int → Int} {dp : Int → Int} (v : RNV p n C φ ι y k fig dp) {low : Int → Int} {j : Int} (j0 : 0 ≤ j) (j1 : j < n) (hl : ∀ i l, 0 ≤ i → i < n → 0 ≤ l → l < n → low ((4 * i + j) * 4 + l) = tb1 p n C fig dp 0 ((4 * i + j) * 4 + l)) (x : Int → Int) : ∃ z, LT ι n.toNat (fun l => vE φ ι y n.toNat (bR fig l)) z ∧ clE φ ι n.toNat (fun l => vE φ ι y n.toNat (bR fig l)) x * vE φ ι y n.toNat (bR fig j) = ι (φ t1) ^ 20 * (clE φ ι n.toNat (fun l => vE φ ι y n.toNat (bR fig l)) (tmC p n low x j) + ι (φ t1) * z) := by
  have pr := fun i i0 i1 => (v.pr (i := i) (j := j) i0 i1 j0 j1).2
  have hn := v.2.2.1
  have p2 := v.2.1.two.1
  have h := v.1
  have A := v.2.2.2.1
  have tw : ∀ i l, ∃ z, φ (shN p n dp fig (mbL p n C fig i j) l) = φ (nC (shN p n dp fig (mbL p n C fig i j) l 0)) + φ t1 * z := fun i l => by
    obtain ⟨z, hz⟩ := h.two (f := shN p n dp fig (mbL p n C fig i j) l) (fun x hx => (shN_can p2 (mbL_can p2)).2 l x hx)
    exact ⟨_, hz⟩
  have wx : ∃ w : Int → Int → O, ∀ i l, φ (shN p n dp fig (mbL p n C fig i j) l) = φ (nC (shN p n dp fig (mbL p n C fig i j) l 0)) + φ t1 * w i l := ⟨fun i l => Classical.choose (tw i l), fun i l => Classical.choose_spec (tw i l)⟩
  obtain ⟨w, hw⟩ := wx
  clear tw
  generalize hB : (fun l => vE φ ι y n.toNat (bR fig l)) = B at *
  have eB : ∀ l, vE φ ι y n.toNat (bR fig l) = B l := fun l => by rw [← hB]
  refine ⟨su n.toNat (fun l => ι (su n.toNat (fun i => φ (nC (x i)) * w i l)) * B l), ⟨_, rfl⟩, ?_⟩
  have e1 : clE φ ι n.toNat B x * vE φ ι y n.toNat (bR fig j) = ι (φ t1) ^ 20 * su n.toNat (fun i => su n.toNat (fun l => ι (φ (nC (x i)) * φ (shN p n dp fig (mbL p n C fig i j) l)) * B l)) := by
    unfold clE
    rw [comm_E, ← su_mul, ← su_mul]
    refine su_congr fun i i0 i1 => ?_
    have q := pr i i0 (by omega)
    rw [show vE φ ι y n.toNat (bR fig j) * (ι (φ (nC (x i))) * B i) = ι (φ (nC (x i))) * (B i * vE φ ι y n.toNat (bR fig j)) by clear q; grind, ← eB i, q, show ι (φ (nC (x i))) * (ι (φ t1) ^ 20 * su n.toNat (fun l => ι (φ (shN p n dp fig (mbL p n C fig i j) l)) * vE φ ι y n.toNat (bR fig l))) = ι (φ t1) ^ 20 * (ι (φ (nC (x i))) * su n.toNat (fun l => ι (φ (shN p n dp fig (mbL p n C fig i j) l)) * vE φ ι y n.toNat (bR fig l))) by clear q; grind, ← su_mul]
    refine congrArg (fun z => ι (φ t1) ^ 20 * z) (su_congr fun l l0 l1 => ?_)
    rw [A.2.1, eB]
    clear q
    grind
  rw [e1, su_swap]
  refine congrArg (fun z => ι (φ t1) ^ 20 * z) ?_
  unfold clE
  rw [← su_mul, ← su_add]
  refine su_congr fun l l0 l1 => ?_
  have e2 : su n.toNat (fun i => φ (nC (x i)) * φ (shN p n dp fig (mbL p n C fig i j) l)) = φ (nC (tmC p n low x j l)) + φ t1 * su n.toNat (fun i => φ (nC (x i)) * w i l) := by
    unfold tmC
    rw [if_pos ⟨l0, by omega⟩, h.1.nC_mod, hm_nC_sm h.1, ← su_mul, ← su_add]
    refine su_congr fun i i0 i1 => ?_
    rw [hl i l i0 (by omega) l0 (by omega), tb1_ij j0 (by omega) l0 (by omega), h.1.nC_mul, hw]
    grind
  rw [su_congr (g := fun i => B l * ι (φ (nC (x i)) * φ (shN p n dp fig (mbL p n C fig i j) l))) (fun i _ _ => by grind), su_mul, ← A.isu, e2, A.1, A.2.1]
  grind
theorem cl_dl {O E : Type} [I : Lean.Grind.CommRing O] [J : Lean.Grind.CommRing E] {p : Int} {n : Nat} {φ : (Int → Int) → O} {ι : O → E} {y : E} {c : Int → O} (h : HM p φ) (A : ALG n c ι y) {B : Int → E} {j : Int} (j0 : 0 ≤ j) (j1 : j < n) : clE φ ι n B (fun l => if l = j then 1 else 0) = B j := by
  unfold clE
  rw [su_one j j0 j1 (fun i _ _ ni => by (try dsimp only); rw [if_neg ni, h.nC_0, A.i0]; grind)]
  (try dsimp only)
  rw [if_pos rfl, h.nC_1, A.2.2.1]
  grind
theorem cl_pa {E : Type} [J : Lean.Grind.CommRing E] {Ts T c z b c2 z1 z2 t e : E} (he : e = Ts * (c + t * z)) (h1 : c * b = T * (c2 + t * z1)) (h2 : z * b = T * z2) : e * b = Ts * T * (c2 + t * (z1 + z2)) := by
  have q : Ts * (c + t * z) * b = Ts * (c * b) + Ts * (t * (z * b)) := by
    clear he h1 h2
    grind
  rw [he, q, h1, h2]
  clear q he h1 h2
  grind
theorem cl_pow {O E : Type} [I : Lean.Grind.CommRing O] [J : Lean.Grind.CommRing E] {p n k : Int} {C : Int → Int → Int} {φ : (Int → Int) → O} {ι : O → E} {y : E} {fig : Int → Int → Int → Int} {dp : Int → Int} (v : RNV p n C φ ι y k fig dp) {low : Int → Int} {j : Int} (j0 : 0 ≤ j) (j1 : j < n) (hl : ∀ i l, 0 ≤ i → i < n → 0 ≤ l → l < n → low ((4 * i + j) * 4 + l) = tb1 p n C fig dp 0 ((4 * i + j) * 4 + l)) : ∀ s : Nat, ∃ z, LT ι n.toNat (fun l => vE φ ι y n.toNat (bR fig l)) z ∧ vE φ ι y n.toNat (bR fig j) ^ (s + 1) = (ι (φ t1) ^ 20) ^ s * (clE φ ι n.toNat (fun l => vE φ ι y n.toNat (bR fig l)) (pwC p n low j s) + ι (φ t1) * z)
  | 0 => by
    refine ⟨0, LT.zero v.2.2.2.1, ?_⟩
    have := cl_dl (n := n.toNat) (B := fun l => vE φ ι y n.toNat (bR fig l)) v.1.1 v.2.2.2.1 j0 (by omega)
    rw [show pwC p n low j 0 = fun l => if l = j then 1 else 0 from rfl, this]
    clear this
    rw [Lean.Grind.Semiring.pow_zero]
    grind
  | s + 1 => by
    obtain ⟨z, lz, ez⟩ := cl_pow v j0 j1 hl s
    obtain ⟨z1, l1, e1⟩ := cl_mul v j0 j1 hl (pwC p n low j s)
    obtain ⟨z2, l2, e2⟩ := v.lat.2.2.2.1 z _ lz (LT.b (B := fun l => vE φ ι y n.toNat (bR fig l)) v.2.2.2.1 j0 (by omega))
    refine ⟨z1 + z2, LT.add v.2.2.2.1 l1 l2, ?_⟩
    rw [Lean.Grind.Semiring.pow_succ, Lean.Grind.Semiring.pow_succ (ι (φ t1) ^ 20)]
    exact cl_pa ez e1 e2
