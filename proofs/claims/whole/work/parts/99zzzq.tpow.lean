/-! Powers of t in the ring of rows. -/
def t1 (x : Int) : Int := if x = 1 then 1 else 0
def HMs (p : Int) {O : Type} [I : Lean.Grind.CommRing O] (φ : (Int → Int) → O) : Prop := HM p φ ∧ ∀ a, ∃ f, (∀ x, 0 ≤ f x ∧ f x < p) ∧ (∀ x, x < 0 → f x = 0) ∧ φ f = a
theorem fn_sur (q : Nat) [I : NeZero q] (a : Nat → Fin q) : ∃ f : Int → Int, (∀ x, 0 ≤ f x ∧ f x < q) ∧ (∀ x, x < 0 → f x = 0) ∧ fn q f = a := by
  refine ⟨fun x => if x < 0 then 0 else ((a x.toNat).val : Int), fun x => ?_, fun x hx => if_pos hx, ?_⟩
  · have := (a x.toNat).isLt
    (try dsimp only)
    split <;> omega
  · refine funext fun k => fin_ext' ?_
    show ((cs q (if (k : Int) < 0 then 0 else ((a (k : Int).toNat).val : Int))).val : Int) = (a k).val
    rw [if_neg (by omega), cs_val]
    show ((a k).val : Int) % (q : Int) = (a k).val
    have := (a k).isLt
    exact Int.emod_eq_of_lt (by omega) (by omega)
theorem hms_ex {p : Int} (hp : 2 ≤ p) : ∃ (O : Type) (I : Lean.Grind.CommRing O) (φ : (Int → Int) → O), HMs p φ := by
  have hq : NeZero p.toNat := ⟨by omega⟩
  have h := hm_fn p.toNat
  rw [show ((p.toNat : Nat) : Int) = p by omega] at h
  refine ⟨_, _, _, h, fun a => ?_⟩
  obtain ⟨f, b, z, e⟩ := fn_sur p.toNat a
  exact ⟨f, fun x => by have := b x; omega, z, e⟩
theorem t1_cnv {f : Int → Int} (z : ∀ x, x < 0 → f x = 0) (x : Int) : cnv t1 f x = f (x - 1) := by
  unfold cnv
  by_cases q : x < 1
  · rw [z (x - 1) (by omega)]
    refine sm_zeros fun i i0 i1 => ?_
    unfold t1
    rw [if_neg (by omega), Int.zero_mul]
  · rw [sm_more (n := 2) (m := (x + 1).toNat) (by omega) (fun i i0 i1 => by
      unfold t1
      rw [if_neg (by omega), Int.zero_mul])]
    show 0 + t1 0 * f (x - 0) + t1 1 * f (x - 1) = _
    rw [show t1 0 = 0 from rfl, show t1 1 = 1 from rfl, Int.zero_mul, Int.one_mul]
    omega
theorem HM.shift {p : Int} {O : Type} [I : Lean.Grind.CommRing O] {φ : (Int → Int) → O} (h : HM p φ) {f : Int → Int} (z : ∀ x, x < 0 → f x = 0) : φ (fun x => f (x - 1)) = φ t1 * φ f := by
  rw [← h.2.1]
  congr 1
  exact funext fun x => (t1_cnv z x).symm
theorem HM.shiftN {p : Int} {O : Type} [I : Lean.Grind.CommRing O] {φ : (Int → Int) → O} (h : HM p φ) {f : Int → Int} (z : ∀ x, x < 0 → f x = 0) : ∀ k : Nat, φ (fun x => f (x - k)) = φ t1 ^ k * φ f
  | 0 => by
    rw [show (fun x => f (x - ((0 : Nat) : Int))) = f from funext fun x => by rw [show x - ((0 : Nat) : Int) = x by omega]]
    grind
  | k + 1 => by
    have e := HM.shift h (f := fun x => f (x - k)) (fun x hx => z _ (by omega))
    rw [HM.shiftN h z k] at e
    rw [show (fun x => f (x - ((k + 1 : Nat) : Int))) = fun x => (fun x => f (x - k)) (x - 1) from funext fun x => by show f _ = f _; congr 1; omega, e, Lean.Grind.Semiring.pow_succ]
    grind
theorem HM.tk {p : Int} {O : Type} [I : Lean.Grind.CommRing O] {φ : (Int → Int) → O} (h : HM p φ) (k : Nat) : φ (fun x => if x = k then 1 else 0) = φ t1 ^ k := by
  have e := h.shiftN (f := fun x => if x = 0 then 1 else 0) (fun x hx => if_neg (by omega)) k
  rw [h.2.2.2.2.1] at e
  rw [show (fun x : Int => if x = k then (1 : Int) else 0) = fun x => (fun x : Int => if x = 0 then (1 : Int) else 0) (x - (k : Int)) from funext fun x => by
    show (if x = (k : Int) then (1 : Int) else 0) = if x - k = 0 then 1 else 0
    by_cases q : x = k
    · rw [if_pos q, if_pos (by omega)]
    · rw [if_neg q, if_neg (by omega)], e]
  grind
/-- what is t^k times something has nothing below k -/
theorem HMs.low {p : Int} {O : Type} [I : Lean.Grind.CommRing O] {φ : (Int → Int) → O} (h : HMs p φ) {f : Int → Int} {a : O} (k : Nat) (e : φ f = φ t1 ^ k * a) (x : Int) (x0 : 0 ≤ x) (x1 : x < k) : f x % p = 0 := by
  obtain ⟨g, -, z, rfl⟩ := h.2 a
  rw [← h.1.shiftN z k] at e
  rw [h.1.2.2.2.2.2.2 _ _ e x x0]
  show g (x - k) % p = 0
  rw [z _ (by omega)]
  exact Int.zero_emod p
theorem HMs.up {p : Int} {O : Type} [I : Lean.Grind.CommRing O] {φ : (Int → Int) → O} (h : HMs p φ) {f : Int → Int} (k : Nat) (bf : ∀ x, 0 ≤ f x ∧ f x < p) (z0 : ∀ x : Int, x < k → f x = 0) : φ f = φ t1 ^ k * φ (fun x => if x < 0 then 0 else f (x + k)) := by
  rw [← h.1.shiftN (f := fun x => if x < 0 then 0 else f (x + k)) (fun x hx => if_pos hx) k]
  congr 1
  refine funext fun x => ?_
  show f x = if x - k < 0 then 0 else f (x - k + k)
  by_cases q : x - k < 0
  · rw [if_pos q, z0 x (by omega)]
  · rw [if_neg q, show x - (k : Int) + k = x by omega]
/-- t counts -/
theorem HMs.can1 {p : Int} {O : Type} [I : Lean.Grind.CommRing O] {φ : (Int → Int) → O} (h : HMs p φ) {a b : O} (e : φ t1 * a = φ t1 * b) : a = b := by
  obtain ⟨f, bf, zf, rfl⟩ := h.2 a
  obtain ⟨g, bg, zg, rfl⟩ := h.2 b
  rw [← h.1.shift zf, ← h.1.shift zg] at e
  congr 1
  refine funext fun x => ?_
  by_cases q : x < 0
  · rw [zf x q, zg x q]
  · have := h.1.2.2.2.2.2.2 _ _ e (x + 1) (by omega)
    (try dsimp only at this)
    rw [show x + 1 - 1 = x by omega, em_id (bf x).1 (bf x).2, em_id (bg x).1 (bg x).2] at this
    exact this
theorem HMs.can {p : Int} {O : Type} [I : Lean.Grind.CommRing O] {φ : (Int → Int) → O} (h : HMs p φ) {a b : O} : ∀ k : Nat, φ t1 ^ k * a = φ t1 ^ k * b → a = b
  | 0, e => by grind
  | k + 1, e => h.can1 (HMs.can h k (by rw [Lean.Grind.Semiring.pow_succ] at e; grind))
/-- a number as a row -/
def nC (c : Int) : Int → Int := fun x => if x = 0 then c else 0
theorem nC_cnv {f : Int → Int} {c : Int} (z : ∀ x, x < 0 → f x = 0) (x : Int) : cnv (nC c) f x = c * f x := by
  unfold cnv
  by_cases q : x < 0
  · rw [show (x + 1).toNat = 0 by omega, z x q, Int.mul_zero]
    rfl
  · rw [sm_more (n := 1) (m := (x + 1).toNat) (by omega) (fun i i0 i1 => by
      unfold nC
      rw [if_neg (by omega), Int.zero_mul])]
    show 0 + nC c 0 * f (x - 0) = _
    rw [show nC c 0 = c from rfl, Int.sub_zero, Int.zero_add]
theorem HM.scal {p : Int} {O : Type} [I : Lean.Grind.CommRing O] {φ : (Int → Int) → O} (h : HM p φ) {f : Int → Int} {c : Int} (z : ∀ x, x < 0 → f x = 0) : φ (fun x => c * f x) = φ (nC c) * φ f := by
  rw [← h.2.1]
  congr 1
  exact funext fun x => (nC_cnv z x).symm
/-- each number is its first digit and t times something -/
theorem HMs.split {p : Int} {O : Type} [I : Lean.Grind.CommRing O] {φ : (Int → Int) → O} (h : HMs p φ) (a : O) : ∃ (d : Int) (b : O), (0 ≤ d ∧ d < p) ∧ a = φ (nC d) + φ t1 * b := by
  obtain ⟨f, bf, zf, rfl⟩ := h.2 a
  refine ⟨f 0, φ (fun x => if x < 0 then 0 else f (x + 1)), bf 0, ?_⟩
  rw [← h.1.shift (f := fun x => if x < 0 then 0 else f (x + 1)) (fun x hx => if_pos hx), ← h.1.1]
  congr 1
  refine funext fun x => ?_
  show f x = (if x = 0 then f 0 else 0) + (if x - 1 < 0 then 0 else f (x - 1 + 1))
  by_cases q : x < 0
  · rw [if_neg (by omega), if_pos (by omega), zf x q]
    rfl
  · by_cases q0 : x = 0
    · rw [if_pos q0, if_pos (by omega), q0, Int.add_zero]
    · rw [if_neg q0, if_neg (by omega), show x - 1 + 1 = x by omega, Int.zero_add]
/-- a digit that is t times something is 0 -/
theorem HMs.dig {p : Int} {O : Type} [I : Lean.Grind.CommRing O] {φ : (Int → Int) → O} (h : HMs p φ) {d : Int} {b : O} (e : φ (nC d) = φ t1 * b) : d % p = 0 := by
  have := h.low (f := nC d) (a := b) 1 (by rw [e]; grind) 0 (by omega) (by omega)
  exact this
theorem HM.nC_add {p : Int} {O : Type} [I : Lean.Grind.CommRing O] {φ : (Int → Int) → O} (h : HM p φ) (a b : Int) : φ (nC (a + b)) = φ (nC a) + φ (nC b) := by
  rw [← h.1]
  congr 1
  refine funext fun x => ?_
  unfold nC
  split <;> omega
theorem HM.nC_mod {p : Int} {O : Type} [I : Lean.Grind.CommRing O] {φ : (Int → Int) → O} (h : HM p φ) (a : Int) : φ (nC (a % p)) = φ (nC a) := by
  rw [← h.2.2.1 (nC a)]
  congr 1
  refine funext fun x => ?_
  show (if x = 0 then a % p else 0) = (if x = 0 then a else 0) % p
  split
  · rfl
  · exact (Int.zero_emod p).symm
theorem HM.nC_mul {p : Int} {O : Type} [I : Lean.Grind.CommRing O] {φ : (Int → Int) → O} (h : HM p φ) (a b : Int) : φ (nC (a * b)) = φ (nC a) * φ (nC b) := by
  rw [← h.scal (f := nC b) (fun x hx => if_neg (by omega))]
  congr 1
  refine funext fun x => ?_
  unfold nC
  split
  · rfl
  · rw [Int.mul_zero]
theorem HM.nC_0 {p : Int} {O : Type} [I : Lean.Grind.CommRing O] {φ : (Int → Int) → O} (h : HM p φ) : φ (nC 0) = 0 := by
  rw [show nC 0 = fun _ => 0 from funext fun x => by unfold nC; split <;> rfl]
  exact h.2.2.2.2.2.1
theorem HM.nC_1 {p : Int} {O : Type} [I : Lean.Grind.CommRing O] {φ : (Int → Int) → O} (h : HM p φ) : φ (nC 1) = 1 := h.2.2.2.2.1
