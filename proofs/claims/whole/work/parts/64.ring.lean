/-! Rows of numbers of a commutative ring as power series: a commutative ring. -/
def PS (K : Type) : Type := Nat → K
def psMul {K : Type} [I : Lean.Grind.CommRing K] : (Nat → K) → (Nat → K) → Nat → K
  | a, b, 0 => a 0 * b 0
  | a, b, k + 1 => a 0 * b (k + 1) + psMul (fun i => a (i + 1)) b k
theorem psMul_zero {K : Type} [I : Lean.Grind.CommRing K] (a b : Nat → K) : psMul a b 0 = a 0 * b 0 := rfl
theorem psMul_succ {K : Type} [I : Lean.Grind.CommRing K] (a b : Nat → K) (k : Nat) : psMul a b (k + 1) = a 0 * b (k + 1) + psMul (fun i => a (i + 1)) b k := rfl
/-- the other way round -/
theorem psMul_last {K : Type} [I : Lean.Grind.CommRing K] (b : Nat → K) : ∀ (k : Nat) (a : Nat → K), psMul a b (k + 1) = psMul a (fun i => b (i + 1)) k + a (k + 1) * b 0
  | 0, a => by
    rw [psMul_succ, psMul_zero, psMul_zero]
  | k + 1, a => by
    rw [psMul_succ, psMul_last b k, psMul_succ]
    grind
theorem psMul_comm {K : Type} [I : Lean.Grind.CommRing K] : ∀ (k : Nat) (a b : Nat → K), psMul a b k = psMul b a k
  | 0, a, b => by
    rw [psMul_zero, psMul_zero]
    grind
  | k + 1, a, b => by
    rw [psMul_succ, psMul_last, psMul_comm k]
    grind
theorem psMul_addl {K : Type} [I : Lean.Grind.CommRing K] (c : Nat → K) : ∀ (k : Nat) (a b : Nat → K), psMul (fun i => a i + b i) c k = psMul a c k + psMul b c k
  | 0, a, b => by
    rw [psMul_zero, psMul_zero, psMul_zero]
    grind
  | k + 1, a, b => by
    rw [psMul_succ, psMul_succ, psMul_succ, psMul_addl c k]
    grind
theorem psMul_scal {K : Type} [I : Lean.Grind.CommRing K] (c : Nat → K) (x : K) : ∀ (k : Nat) (a : Nat → K), psMul (fun i => x * a i) c k = x * psMul a c k
  | 0, a => by
    rw [psMul_zero, psMul_zero]
    grind
  | k + 1, a => by
    rw [psMul_succ, psMul_succ, psMul_scal c x k]
    grind
theorem psMul_zerol {K : Type} [I : Lean.Grind.CommRing K] (c : Nat → K) : ∀ (k : Nat), psMul (fun _ => 0) c k = 0
  | 0 => by
    rw [psMul_zero]
    grind
  | k + 1 => by
    rw [psMul_succ, psMul_zerol c k]
    grind
theorem psMul_assoc {K : Type} [I : Lean.Grind.CommRing K] (b c : Nat → K) : ∀ (k : Nat) (a : Nat → K), psMul (psMul a b) c k = psMul a (psMul b c) k
  | 0, a => by
    rw [psMul_zero, psMul_zero, psMul_zero, psMul_zero]
    grind
  | k + 1, a => by
    have e : (fun i => psMul a b (i + 1)) = fun i => (fun i => a 0 * (fun i => b (i + 1)) i) i + psMul (fun i => a (i + 1)) b i := funext fun i => psMul_succ a b i
    rw [psMul_succ, psMul_succ, psMul_zero, e, psMul_addl, psMul_scal, psMul_assoc b c k, psMul_succ b c]
    grind
/-- a number as a series -/
def psC {K : Type} [I : Lean.Grind.CommRing K] (x : K) : Nat → K := fun k => if k = 0 then x else 0
theorem psC_tail {K : Type} [I : Lean.Grind.CommRing K] (x : K) : (fun i => psC x (i + 1)) = fun _ => (0 : K) := funext fun i => by
  unfold psC
  rw [if_neg (by omega)]
theorem psMul_C {K : Type} [I : Lean.Grind.CommRing K] (x : K) (b : Nat → K) (k : Nat) : psMul (psC x) b k = x * b k := by
  cases k with
  | zero =>
    rw [psMul_zero]
    rfl
  | succ k =>
    rw [psMul_succ, psC_tail, psMul_zerol]
    show x * b (k + 1) + 0 = _
    grind
def psNat (K : Type) [I : Lean.Grind.CommRing K] (n : Nat) : Nat → K := psC (OfNat.ofNat n : K)
def psNeg {K : Type} [I : Lean.Grind.CommRing K] (a : Nat → K) : Nat → K := fun k => - a k
def psInt (K : Type) [I : Lean.Grind.CommRing K] (i : Int) : Nat → K := match i with
  | .ofNat n => psNat K n
  | .negSucc n => psNeg (psNat K (n + 1))
def psPow {K : Type} [I : Lean.Grind.CommRing K] (a : Nat → K) : Nat → Nat → K
  | 0 => psNat K 1
  | n + 1 => psMul (psPow a n) a
theorem psC_add {K : Type} [I : Lean.Grind.CommRing K] (x y : K) (k : Nat) : psC (x + y) k = psC x k + psC y k := by
  unfold psC
  split
  · rfl
  · grind
theorem psC_neg {K : Type} [I : Lean.Grind.CommRing K] (x : K) (k : Nat) : psC (-x) k = - psC x k := by
  unfold psC
  split
  · rfl
  · grind
theorem psMul_negl {K : Type} [I : Lean.Grind.CommRing K] (c : Nat → K) : ∀ (k : Nat) (a : Nat → K), psMul (fun i => - a i) c k = - psMul a c k
  | 0, a => by
    rw [psMul_zero, psMul_zero]
    grind
  | k + 1, a => by
    rw [psMul_succ, psMul_succ, psMul_negl c k]
    grind
theorem psInt_neg {K : Type} [I : Lean.Grind.CommRing K] (i : Int) : psInt K (-i) = psNeg (psInt K i) := by
  match i with
  | .ofNat 0 =>
    show psNat K 0 = psNeg (psNat K 0)
    funext k
    unfold psNeg psNat psC
    split <;> grind
  | .ofNat (n + 1) => rfl
  | .negSucc n =>
    show psNat K (n + 1) = psNeg (psNeg (psNat K (n + 1)))
    funext k
    unfold psNeg
    grind
theorem psMul_1l {K : Type} [I : Lean.Grind.CommRing K] (a : Nat → K) (k : Nat) : psMul (psNat K 1) a k = a k := by
  unfold psNat
  rw [psMul_C]
  grind
theorem psMul_1r {K : Type} [I : Lean.Grind.CommRing K] (a : Nat → K) (k : Nat) : psMul a (psNat K 1) k = a k := by
  rw [psMul_comm, psMul_1l]
theorem psMul_0l {K : Type} [I : Lean.Grind.CommRing K] (a : Nat → K) (k : Nat) : psMul (psNat K 0) a k = psNat K 0 k := by
  unfold psNat
  rw [psMul_C]
  unfold psC
  split <;> grind
theorem psMul_0r {K : Type} [I : Lean.Grind.CommRing K] (a : Nat → K) (k : Nat) : psMul a (psNat K 0) k = psNat K 0 k := by
  rw [psMul_comm, psMul_0l]
theorem psMul_dl {K : Type} [I : Lean.Grind.CommRing K] (a b c : Nat → K) (k : Nat) : psMul a (fun k => b k + c k) k = psMul a b k + psMul a c k := by
  rw [psMul_comm, psMul_addl, psMul_comm k a b, psMul_comm k a c]
theorem psMul_nz {K : Type} [I : Lean.Grind.CommRing K] (i : Int) (a : Nat → K) (k : Nat) : psMul (psInt K (-i)) a k = - psMul (psInt K i) a k := by
  rw [psInt_neg]
  exact psMul_negl a k (psInt K i)
def psRing (K : Type) [I : Lean.Grind.CommRing K] : Lean.Grind.CommRing (PS K) where
  add := fun a b k => a k + b k
  mul := fun a b => psMul a b
  natCast := ⟨psNat K⟩
  ofNat := fun n => ⟨psNat K n⟩
  nsmul := ⟨fun n a => psMul (psNat K n) a⟩
  npow := ⟨psPow⟩
  add_zero := fun a => funext fun k => show a k + psNat K 0 k = a k by
    unfold psNat psC
    split <;> grind
  add_comm := fun a b => funext fun k => show a k + b k = b k + a k by grind
  add_assoc := fun a b c => funext fun k => show a k + b k + c k = a k + (b k + c k) by grind
  mul_assoc := fun a b c => funext fun k => psMul_assoc b c k a
  mul_one := fun a => funext fun k => psMul_1r a k
  one_mul := fun a => funext fun k => psMul_1l a k
  left_distrib := fun a b c => funext fun k => psMul_dl a b c k
  right_distrib := fun a b c => funext fun k => psMul_addl c k a b
  zero_mul := fun a => funext fun k => psMul_0l a k
  mul_zero := fun a => funext fun k => psMul_0r a k
  pow_zero := fun _ => rfl
  pow_succ := fun _ _ => rfl
  ofNat_succ := fun n => funext fun k => show psC (OfNat.ofNat (n + 1) : K) k = psC (OfNat.ofNat n : K) k + psC (OfNat.ofNat 1 : K) k by
    rw [← psC_add, Lean.Grind.Semiring.ofNat_succ]
  ofNat_eq_natCast := fun _ => rfl
  nsmul_eq_natCast_mul := fun _ _ => rfl
  neg := psNeg
  sub := fun a b k => a k - b k
  intCast := ⟨psInt K⟩
  zsmul := ⟨fun i a => psMul (psInt K i) a⟩
  neg_add_cancel := fun a => funext fun k => show - a k + a k = psNat K 0 k by
    unfold psNat psC
    split <;> grind
  sub_eq_add_neg := fun a b => funext fun k => show a k - b k = a k + - b k by grind
  neg_zsmul := fun i a => funext fun k => psMul_nz i a k
  zsmul_natCast_eq_nsmul := fun _ _ => rfl
  intCast_ofNat := fun _ => rfl
  intCast_neg := psInt_neg
  mul_comm := fun a b => funext fun k => psMul_comm k a b
