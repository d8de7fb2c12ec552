/-! Numbers taken by p, and rows of them, in commutative rings. -/
def cs (q : Nat) [I : NeZero q] (x : Int) : Fin q := ⟨(x % q).toNat, by
  have h0 := NeZero.ne q
  have h1 := Int.emod_nonneg x (show (q : Int) ≠ 0 by omega)
  have h2 := Int.emod_lt_of_pos x (show (0 : Int) < q by omega)
  omega⟩
theorem cs_val {q : Nat} [I : NeZero q] (x : Int) : ((cs q x).val : Int) = x % q := by
  have h0 := NeZero.ne q
  have h1 := Int.emod_nonneg x (show (q : Int) ≠ 0 by omega)
  show (((x % q).toNat : Nat) : Int) = x % q
  omega
theorem fin_ext' {q : Nat} {a b : Fin q} (h : (a.val : Int) = b.val) : a = b := Fin.ext (by omega)
theorem cs_iff {q : Nat} [I : NeZero q] {x y : Int} : cs q x = cs q y ↔ x % q = y % q := ⟨fun h => by rw [← cs_val x, h, cs_val], fun h => fin_ext' (by rw [cs_val, cs_val, h])⟩
theorem cs_mod {q : Nat} [I : NeZero q] (x : Int) : cs q (x % q) = cs q x := cs_iff.mpr (Int.emod_emod_of_dvd x (Int.dvd_refl _))
theorem cs_add {q : Nat} [I : NeZero q] (x y : Int) : cs q (x + y) = cs q x + cs q y := fin_ext' (by
  rw [cs_val, Fin.val_add, Int.natCast_emod, Int.natCast_add, cs_val, cs_val, ← Int.add_emod])
theorem cs_mul {q : Nat} [I : NeZero q] (x y : Int) : cs q (x * y) = cs q x * cs q y := fin_ext' (by
  rw [cs_val, Fin.val_mul, Int.natCast_emod, Int.natCast_mul, cs_val, cs_val, ← Int.mul_emod])
theorem cs_zero {q : Nat} [I : NeZero q] : cs q 0 = 0 := fin_ext' (by
  rw [cs_val, Int.zero_emod]
  rfl)
theorem cs_one {q : Nat} [I : NeZero q] : cs q 1 = 1 := fin_ext' (by
  rw [cs_val]
  show (1 : Int) % q = ((1 % q : Nat) : Int)
  rw [Int.natCast_emod]
  rfl)
theorem cs_neg {q : Nat} [I : NeZero q] (x : Int) : cs q (-x) = - cs q x := by
  have h : cs q (-x) + cs q x = 0 := by rw [← cs_add, Int.add_left_neg, cs_zero]
  grind
/-- a map that takes rows, with their sums and products, to a commutative ring -/
def HM (p : Int) {O : Type} [I : Lean.Grind.CommRing O] (φ : (Int → Int) → O) : Prop := (∀ f g, φ (fun x => f x + g x) = φ f + φ g) ∧ (∀ f g, φ (cnv f g) = φ f * φ g) ∧ (∀ f, φ (fun x => f x % p) = φ f) ∧ (∀ f, φ (fun x => -1 * f x) = - φ f) ∧ φ (fun x => if x = 0 then 1 else 0) = 1 ∧ φ (fun _ => 0) = 0 ∧ ∀ f g, φ f = φ g → ∀ x, 0 ≤ x → f x % p = g x % p
def fn (q : Nat) [I : NeZero q] (f : Int → Int) : Nat → Fin q := fun k => cs q (f k)
def fnP (q : Nat) [I : NeZero q] (f : Int → Int) : PS (Fin q) := fn q f
theorem cnv_step (A B : Int → Int) (k : Nat) : cnv A B ((k : Int) + 1) = A 0 * B ((k : Int) + 1) + cnv (fun i => A (i + 1)) B k := by
  unfold cnv
  rw [show ((k : Int) + 1 + 1).toNat = (k + 1) + 1 by omega, sm_first, show ((k : Int) + 1).toNat = k + 1 by omega, Int.sub_zero]
  congr 1
  exact sm_congr fun i i0 i1 => by rw [show (k : Int) + 1 - (i + 1) = k - i by omega]
theorem fn_cnv {q : Nat} [I : NeZero q] (B : Int → Int) : ∀ (k : Nat) (A : Int → Int), psMul (fn q A) (fn q B) k = cs q (cnv A B k)
  | 0, A => by
    rw [psMul_zero]
    show cs q (A 0) * cs q (B 0) = cs q (cnv A B 0)
    rw [← cs_mul]
    unfold cnv
    rw [show ((0 : Int) + 1).toNat = 0 + 1 by omega, sm_succ, sm_zero]
    congr 1
    show A 0 * B 0 = 0 + A 0 * B (0 - 0)
    rw [Int.zero_add, Int.sub_zero]
  | k + 1, A => by
    rw [psMul_succ]
    have e : (fun i => fn q A (i + 1)) = fn q (fun i => A (i + 1)) := funext fun i => rfl
    rw [e, fn_cnv B k]
    show cs q (A 0) * cs q (B ((k + 1 : Nat) : Int)) + _ = cs q (cnv A B ((k + 1 : Nat) : Int))
    rw [show ((k + 1 : Nat) : Int) = (k : Int) + 1 by omega, cnv_step, cs_add, cs_mul]
theorem hm_fn (q : Nat) [I : NeZero q] : @HM (q : Int) (PS (Fin q)) (psRing (Fin q)) (fnP q) := by
  refine ⟨fun f g => ?_, fun f g => ?_, fun f => ?_, fun f => ?_, ?_, ?_, fun f g h x x0 => ?_⟩
  · exact funext fun k => cs_add _ _
  · exact funext fun k => (fn_cnv g k f).symm
  · exact funext fun k => cs_mod _
  · refine funext fun k => ?_
    show cs q (-1 * f k) = - cs q (f k)
    rw [show -1 * f k = - f k by omega]
    exact cs_neg _
  · refine funext fun k => ?_
    show cs q (if (k : Int) = 0 then 1 else 0) = psC (1 : Fin q) k
    unfold psC
    by_cases e : k = 0
    · rw [if_pos e, if_pos (by omega), cs_one]
    · rw [if_neg e, if_neg (by omega), cs_zero]
  · refine funext fun k => ?_
    show cs q 0 = psC (0 : Fin q) k
    unfold psC
    rw [cs_zero]
    split <;> rfl
  · have e : fnP q f x.toNat = fnP q g x.toNat := by rw [h]
    have e : cs q (f (x.toNat : Int)) = cs q (g (x.toNat : Int)) := e
    rw [show ((x.toNat : Nat) : Int) = x by omega] at e
    exact cs_iff.mp e
theorem hm_ex {p : Int} (hp : 2 ≤ p) : ∃ (O : Type) (I : Lean.Grind.CommRing O) (φ : (Int → Int) → O), HM p φ := by
  have : NeZero p.toNat := ⟨by omega⟩
  have h := hm_fn p.toNat
  rw [show ((p.toNat : Nat) : Int) = p by omega] at h
  exact ⟨_, _, _, h⟩
theorem HM.sm {p : Int} {O : Type} [I : Lean.Grind.CommRing O] {φ : (Int → Int) → O} (h : HM p φ) (n : Nat) (f : Int → Int → Int) : φ (fun x => sm (n + 1) (fun i => f i x)) = φ (fun x => sm n (fun i => f i x)) + φ (f n) := by
  rw [← h.1]
  rfl
theorem HM.eqv {p : Int} {O : Type} [I : Lean.Grind.CommRing O] {φ : (Int → Int) → O} (h : HM p φ) {f g : Int → Int} (e : φ f = φ g) (bf : ∀ x, 0 ≤ f x ∧ f x < p) (bg : ∀ x, 0 ≤ g x ∧ g x < p) (x : Int) (x0 : 0 ≤ x) : f x = g x := by
  have := h.2.2.2.2.2.2 f g e x x0
  rw [em_id (bf x).1 (bf x).2, em_id (bg x).1 (bg x).2] at this
  exact this
