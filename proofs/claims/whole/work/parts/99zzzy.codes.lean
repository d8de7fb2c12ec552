/-! Classes as digits: their products in the curve's ring. -/
theorem cdF_split {p : Int} {c : Int → Int} (r : Nat) : ∀ (s : Nat) (lo : Int), cdF p c (s + r) lo = cdF p c s lo + pwI p s * cdF p c r (lo + s)
  | 0, lo => by
    rw [Nat.zero_add, show lo + ((0 : Nat) : Int) = lo by omega]
    show cdF p c r lo = 0 + 1 * cdF p c r lo
    omega
  | s + 1, lo => by
    rw [show s + 1 + r = (s + r) + 1 by omega]
    show c lo + p * cdF p c (s + r) (lo + 1) = (c lo + p * cdF p c s (lo + 1)) + pwI p s * p * cdF p c r (lo + ((s + 1 : Nat) : Int))
    rw [cdF_split r s (lo + 1), show lo + 1 + (s : Int) = lo + ((s + 1 : Nat) : Int) by omega]
    grind
theorem cdF_z {p : Int} {c : Int → Int} (hp : 2 ≤ p) (hc : ∀ i, 0 ≤ c i) : ∀ (s : Nat) (lo : Int), (0 ≤ cdF p c s lo) ∧ (cdF p c s lo = 0 ↔ ∀ i, lo ≤ i → i < lo + s → c i = 0)
  | 0, lo => ⟨Int.le_refl 0, fun _ i a b => by omega, fun _ => rfl⟩
  | s + 1, lo => by
    obtain ⟨a, b⟩ := cdF_z hp hc s (lo + 1)
    have e : cdF p c (s + 1) lo = c lo + p * cdF p c s (lo + 1) := rfl
    have h0 := hc lo
    have hm : 0 ≤ p * cdF p c s (lo + 1) := Int.mul_nonneg (by omega) a
    rw [e]
    refine ⟨by omega, fun z i i0 i1 => ?_, fun z => ?_⟩
    · have z1 : c lo = 0 := by omega
      have z2 : cdF p c s (lo + 1) = 0 := by
        have : p * cdF p c s (lo + 1) = 0 := by omega
        rcases Int.mul_eq_zero.mp this with q | q
        · omega
        · exact q
      by_cases q : i = lo
      · rw [q]
        exact z1
      · exact b.mp z2 i (by omega) (by omega)
    · rw [z lo (by omega) (by omega), b.mpr (fun i i0 i1 => z i (by omega) (by omega))]
      grind
theorem pwI_le {p : Int} (hp : 2 ≤ p) (j : Nat) : ∀ k : Nat, 1 ≤ pwI p j ∧ 2 * pwI p j ≤ pwI p (j + k + 1)
  | 0 => by
    have h1 : 1 ≤ pwI p j := by
      have : ∀ j, 2 ≤ p → 1 ≤ pwI p j := fun j => by
        induction j with
        | zero => exact fun _ => by show (1 : Int) ≤ 1; omega
        | succ j ih =>
          intro hp
          have a := ih hp
          show 1 ≤ pwI p j * p
          have := Int.mul_le_mul_of_nonneg_left (show 1 ≤ p by omega) (show 0 ≤ pwI p j by omega)
          omega
      exact this j hp
    refine ⟨h1, ?_⟩
    show 2 * pwI p j ≤ pwI p j * p
    have := Int.mul_le_mul_of_nonneg_left hp (show 0 ≤ pwI p j by omega)
    omega
  | k + 1 => by
    obtain ⟨a, b⟩ := pwI_le hp j k
    refine ⟨a, ?_⟩
    show 2 * pwI p j ≤ pwI p (j + k + 1) * p
    have := Int.mul_le_mul_of_nonneg_left (show 1 ≤ p by omega) (show 0 ≤ pwI p (j + k + 1) by omega)
    omega
/-- a code whose first digit, from above, is 1 at j -/
theorem code_in {p n : Int} {c : Int → Int} (h2 : 2 ≤ p ∧ p ≤ 7) (hc : ∀ i, 0 ≤ c i ∧ c i < p) {j : Int} (j0 : 0 ≤ j) (j1 : j < n) (cj : c j = 1) (cz : ∀ i, j < i → i < n → c i = 0) : pwI p j.toNat ≤ cdF p c n.toNat 0 ∧ cdF p c n.toNat 0 < 2 * pwI p j.toNat := by
  have s := cdF_split (p := p) (c := c) (n - j).toNat j.toNat 0
  rw [show j.toNat + (n - j).toNat = n.toNat by omega, show (0 : Int) + ((j.toNat : Nat) : Int) = j by omega] at s
  have b := cdF_bd h2 hc j.toNat 0
  have e : cdF p c (n - j).toNat j = 1 := by
    rw [show (n - j).toNat = (n - j - 1).toNat + 1 by omega]
    show c j + p * cdF p c (n - j - 1).toNat (j + 1) = 1
    rw [cj, (cdF_z (by omega) (fun i => (hc i).1) (n - j - 1).toNat (j + 1)).2.mpr (fun i i0 i1 => cz i (by omega) (by omega)), Int.mul_zero]
    rfl
  rw [s, e]
  omega
theorem code_dg {p g : Int} (h2 : 2 ≤ p ∧ p ≤ 7) {j : Int} (j0 : 0 ≤ j) (g0 : pwI p j.toNat ≤ g) (g1 : g < 2 * pwI p j.toNat) : dgt p g j = 1 ∧ ∀ i, j < i → dgt p g i = 0 := by
  have w := pwI_le h2.1 j.toNat 0
  constructor
  · unfold dgt
    have : g / pwI p j.toNat = 1 := by
      have a : g = pwI p j.toNat * 1 + (g - pwI p j.toNat) := by omega
      rw [a, Int.mul_add_ediv_left _ _ (by omega), Int.ediv_eq_zero_of_lt (by omega) (by omega)]
      rfl
    rw [this]
    exact Int.emod_eq_of_lt (by omega) (by omega)
  · intro i hi
    unfold dgt
    have w2 := pwI_le h2.1 j.toNat (i - j - 1).toNat
    rw [show j.toNat + (i - j - 1).toNat + 1 = i.toNat by omega] at w2
    rw [Int.ediv_eq_zero_of_lt (by omega) (by omega)]
    exact Int.zero_emod p
theorem lwN_neg {p n t : Int} {C W : Int → Int → Int} (zW : ∀ b x, x < 0 → W b x = 0) : ∀ (s : Nat) (b x : Int), x < 0 → lwN p n C t s W b x = 0
  | 0, b, x, hx => zW b x hx
  | s + 1, b, x, hx => by
    have ih := lwN_neg (p := p) (n := n) (t := t) (C := C) zW s
    show lwS p n C (lwN p n C t s W) (t - s) b x = 0
    unfold lwS
    split
    · rfl
    · split
      · rw [ih b x hx, cnv_neg hx]
        exact Int.zero_emod p
      · exact ih b x hx
theorem mbL_can {p n i j : Int} {C : Int → Int → Int} {fig : Int → Int → Int → Int} (hp : 2 ≤ p) : CAN p (mbL p n C fig i j) := by
  refine ⟨lwN_bd hp (fun b x => ⟨em_ge (by omega), em_lt (by omega)⟩) _, lwN_neg (fun b x hx => ?_) _⟩
  show sm 84 (fun a => sm 84 (fun b' => mbI a b' b x * (flF fig i a * flF fig j b'))) % p = 0
  rw [sm_zeros (fun a a0 a1 => sm_zeros (fun c c0 c1 => by
    unfold mbI
    rw [if_neg (by omega), Int.zero_mul]))]
  exact Int.zero_emod p
theorem shN_can {p n : Int} {dp : Int → Int} {fig : Int → Int → Int → Int} {V : Int → Int → Int} (hp : 2 ≤ p) (c : CAN p V) : CAN p (shN p n dp fig V) := by
  refine ⟨fun l x => ?_, fun l x hx => ?_⟩
  · unfold shN shE
    split
    · split
      · omega
      · exact (exN_can hp c _).1 _ _
    · omega
  · unfold shN shE
    split
    · first | rfl | exact if_pos hx
    · rfl
theorem HMs.two {p : Int} {O : Type} [I : Lean.Grind.CommRing O] {φ : (Int → Int) → O} (h : HMs p φ) {f : Int → Int} (zf : ∀ x, x < 0 → f x = 0) : ∃ z, φ f = φ (nC (f 0)) + φ t1 * (φ (nC (f 1)) + φ t1 * z) := by
  have one : ∀ g : Int → Int, (∀ x, x < 0 → g x = 0) → φ g = φ (nC (g 0)) + φ t1 * φ (fun x => if x < 0 then 0 else g (x + 1)) := fun g zg => by
    rw [← h.1.shift (f := fun x => if x < 0 then 0 else g (x + 1)) (fun x hx => if_pos hx), ← h.1.1]
    congr 1
    refine funext fun x => ?_
    show g x = (if x = 0 then g 0 else 0) + (if x - 1 < 0 then 0 else g (x - 1 + 1))
    by_cases q : x < 0
    · rw [if_neg (by omega), if_pos (by omega), zg x q]
      rfl
    · by_cases q0 : x = 0
      · rw [if_pos q0, if_pos (by omega), q0, Int.add_zero]
      · rw [if_neg q0, if_neg (by omega), show x - 1 + 1 = x by omega, Int.zero_add]
  have e1 := one f zf
  have e2 := one (fun x => if x < 0 then 0 else f (x + 1)) (fun x hx => if_pos hx)
  exact ⟨_, by rw [e1, e2]; rfl⟩
theorem su_bil {O E : Type} [I : Lean.Grind.CommRing O] [J : Lean.Grind.CommRing E] {ι : O → E} {y T : E} {n : Nat} {c0 : Int → O} (a : ALG n c0 ι y) {B : Int → E} {c : Int → Int → Int → O} (hB : ∀ i j : Int, 0 ≤ i → i < n → 0 ≤ j → j < n → B i * B j = T * su n (fun l => ι (c i j l) * B l)) (α β : Int → O) : su n (fun i => ι (α i) * B i) * su n (fun j => ι (β j) * B j) = T * su n (fun l => ι (su n (fun i => su n (fun j => α i * β j * c i j l))) * B l) := by
  have e1 : ∀ i : Int, 0 ≤ i → i < n → su n (fun j => ι (β j) * B j) * (ι (α i) * B i) = T * su n (fun l => ι (su n (fun j => α i * β j * c i j l)) * B l) := fun i i0 i1 => by
    rw [show su n (fun j => ι (β j) * B j) * (ι (α i) * B i) = ι (α i) * B i * su n (fun j => ι (β j) * B j) by grind, ← su_mul, su_congr (g := fun j => T * su n (fun l => ι (α i * β j * c i j l) * B l)) (fun j j0 j1 => by
      rw [show ι (α i) * B i * (ι (β j) * B j) = ι (α i) * ι (β j) * (B i * B j) by grind, hB i j i0 i1 j0 j1, show ι (α i) * ι (β j) * (T * su n (fun l => ι (c i j l) * B l)) = T * (ι (α i) * ι (β j) * su n (fun l => ι (c i j l) * B l)) by grind, ← su_mul]
      exact congrArg (fun z => T * z) (su_congr fun l _ _ => by rw [a.2.1, a.2.1]; grind)), su_mul, su_swap]
    refine congrArg (fun z => T * z) (su_congr fun l _ _ => ?_)
    rw [a.isu, show su n (fun i_1 => ι (α i * β i_1 * c i i_1 l)) * B l = B l * su n (fun i_1 => ι (α i * β i_1 * c i i_1 l)) by grind, ← su_mul]
    exact su_congr fun j _ _ => by grind
  rw [show su n (fun i => ι (α i) * B i) * su n (fun j => ι (β j) * B j) = su n (fun j => ι (β j) * B j) * su n (fun i => ι (α i) * B i) by grind, ← su_mul, su_congr e1, su_mul, su_swap]
  refine congrArg (fun z => T * z) (su_congr fun l _ _ => ?_)
  rw [a.isu, show su n (fun i => ι (su n (fun j => α i * β j * c i j l))) * B l = B l * su n (fun i => ι (su n (fun j => α i * β j * c i j l))) by grind, ← su_mul]
  exact su_congr fun i _ _ => by grind
