/-! A commutative ring out of its few laws; the ring of a curve over a ring. -/
def mkN {E : Type} (add : E → E → E) (zero one : E) : Nat → E
  | 0 => zero
  | n + 1 => add (mkN add zero one n) one
def mkI {E : Type} (add : E → E → E) (neg : E → E) (zero one : E) : Int → E
  | .ofNat n => mkN add zero one n
  | .negSucc n => neg (mkN add zero one (n + 1))
def mkP {E : Type} (mul : E → E → E) (u : E) (a : E) : Nat → E
  | 0 => u
  | n + 1 => mul (mkP mul u a n) a
def mkRing (E : Type) (add mul : E → E → E) (neg : E → E) (zero one : E) (a0 : ∀ a, add a zero = a) (ac : ∀ a b, add a b = add b a) (aa : ∀ a b c, add (add a b) c = add a (add b c)) (mc : ∀ a b, mul a b = mul b a) (ma : ∀ a b c, mul (mul a b) c = mul a (mul b c)) (m1 : ∀ a, mul a one = a) (md : ∀ a b c, mul a (add b c) = add (mul a b) (mul a c)) (m0 : ∀ a, mul zero a = zero) (na : ∀ a, add (neg a) a = zero) : Lean.Grind.CommRing E := by
  have z1 : add zero one = one := by rw [ac, a0]
  have nn : ∀ a b, add a b = zero → a = neg b := fun a b h => by
    rw [← a0 a, ← na b, ac (neg b) b, ← aa, h, ac, a0]
  have n0 : neg zero = zero := (nn zero zero (a0 zero)).symm
  have nng : ∀ a, neg (neg a) = a := fun a => (nn a (neg a) (by rw [ac]; exact na a)).symm
  have nm : ∀ a b, mul (neg a) b = neg (mul a b) := fun a b => nn _ _ (by rw [mc (neg a) b, mc a b, ← md, na, mc, m0])
  have ineg : ∀ i : Int, mkI add neg zero one (-i) = neg (mkI add neg zero one i) := fun i => by
    match i with
    | .ofNat 0 => exact n0.symm
    | .ofNat (n + 1) => rfl
    | .negSucc n => exact (nng _).symm
  exact {
    add := add
    mul := mul
    natCast := ⟨mkN add zero one⟩
    ofNat := fun n => ⟨mkN add zero one n⟩
    nsmul := ⟨fun n a => mul (mkN add zero one n) a⟩
    npow := ⟨fun a n => mkP mul (mkN add zero one 1) a n⟩
    add_zero := a0
    add_comm := ac
    add_assoc := aa
    mul_assoc := ma
    mul_one := fun a => show mul a (add zero one) = a by rw [z1]; exact m1 a
    one_mul := fun a => show mul (add zero one) a = a by rw [z1, mc]; exact m1 a
    left_distrib := md
    right_distrib := fun a b c => show mul (add a b) c = add (mul a c) (mul b c) by rw [mc, md, mc c a, mc c b]
    zero_mul := m0
    mul_zero := fun a => show mul a zero = zero by rw [mc]; exact m0 a
    pow_zero := fun _ => rfl
    pow_succ := fun _ _ => rfl
    ofNat_succ := fun n => show add (mkN add zero one n) one = add (mkN add zero one n) (add zero one) by rw [z1]
    ofNat_eq_natCast := fun _ => rfl
    nsmul_eq_natCast_mul := fun _ _ => rfl
    neg := neg
    sub := fun a b => add a (neg b)
    intCast := ⟨mkI add neg zero one⟩
    zsmul := ⟨fun i a => mul (mkI add neg zero one i) a⟩
    neg_add_cancel := na
    sub_eq_add_neg := fun _ _ => rfl
    neg_zsmul := fun i a => show mul (mkI add neg zero one (-i)) a = neg (mul (mkI add neg zero one i) a) by rw [ineg, nm]
    zsmul_natCast_eq_nsmul := fun _ _ => rfl
    intCast_ofNat := fun _ => rfl
    intCast_neg := ineg
    mul_comm := mc }
