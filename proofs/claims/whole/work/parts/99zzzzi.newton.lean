/-! Newton's sums are the traces of y's powers. -/
def yW {O : Type} [I : Lean.Grind.CommRing O] (n : Int) (c : Int → O) : Nat → Int → O
  | 0, l => if l = 0 then 1 else 0
  | k + 1, l => (if 0 < l then yW n c k (l - 1) else 0) - c l * yW n c k (n - 1)
theorem hm_nk {p : Int} {O : Type} [I : Lean.Grind.CommRing O] {φ : (Int → Int) → O} (h : HM p φ) : φ (nC 2) = 2 ∧ φ (nC 3) = 3 ∧ φ (nC 4) = 4 := by
  have a := h.nC_1
  have b := h.nC_add 1 1
  have c := h.nC_add 2 1
  have d := h.nC_add 3 1
  rw [show (1 : Int) + 1 = 2 from rfl, a] at b
  rw [show (2 : Int) + 1 = 3 from rfl, a, b] at c
  rw [show (3 : Int) + 1 = 4 from rfl, a, c] at d
  exact ⟨by rw [b]; grind, by rw [c]; grind, by rw [d]; grind⟩
theorem hm_mk {p k : Int} {O : Type} [I : Lean.Grind.CommRing O] {φ : (Int → Int) → O} (h : HM p φ) {f : Int → Int} (z : ∀ x, x < 0 → f x = 0) : φ (fun x => -k * f x) = - (φ (nC k) * φ f) := by
  rw [← h.scal z, ← h.2.2.2.1]
  congr 1
  exact funext fun x => by rw [Int.neg_mul, Int.neg_mul, Int.one_mul]
theorem nw_o {p n k : Int} {O : Type} [I : Lean.Grind.CommRing O] {φ : (Int → Int) → O} (h : HM p φ) {C P : Int → Int → Int} (hP : NW p n C P) (k0 : 0 ≤ k) (k1 : k ≤ 2 * n - 2) : φ (P k) = φ (fun x => (if k = 0 then (if x = 0 then n else 0) else if k ≤ n then -k * C (n - k) x else 0)) - φ (fun x => sm (min (k - 1) n).toNat (fun i => cnv (C (n - 1 - i)) (P (k - 1 - i)) x)) := by
  rw [show P k = fun x => (fun x => (fun x => if k = 0 then (if x = 0 then n else 0) else if k ≤ n then -k * C (n - k) x else 0) x + (fun x => -1 * (fun x => sm (min (k - 1) n).toNat (fun i => cnv (C (n - 1 - i)) (P (k - 1 - i)) x)) x) x) x % p from funext fun x => hP k k0 k1 x, h.2.2.1, h.1, h.2.2.2.1]
  grind
set_option maxHeartbeats 4000000 in
theorem y_st2 {O E : Type} [I : Lean.Grind.CommRing O] [J : Lean.Grind.CommRing E] {ι : O → E} {y : E} {c : Int → O} (a : ALG 2 c ι y) (k : Nat) : su 2 (fun l => ι (yW 2 c (k + 1) l) * y ^ l.toNat) = y * su 2 (fun l => ι (yW 2 c k l) * y ^ l.toNat) := by
  have yn : y ^ 2 = - (0 + ι (c 0) * y ^ 0 + ι (c 1) * y ^ 1) := a.2.2.2.2.2
  show 0 + ι (yW 2 c (k + 1) 0) * y ^ 0 + ι (yW 2 c (k + 1) 1) * y ^ 1 = y * (0 + ι (yW 2 c k 0) * y ^ 0 + ι (yW 2 c k 1) * y ^ 1)
  have t0 : yW 2 c (k + 1) 0 = 0 - c 0 * yW 2 c k 1 := rfl
  have t1 : yW 2 c (k + 1) 1 = yW 2 c k 0 - c 1 * yW 2 c k 1 := rfl
  rw [t0, t1, a.isub, a.2.1, a.isub, a.2.1]
  rw [a.i0]
  generalize ι (yW 2 c k 0) = z0 at *
  generalize ι (yW 2 c k 1) = z1 at *
  generalize ι (c 0) = c0 at *
  generalize ι (c 1) = c1 at *
  clear t0 t1 a
  have k1 : y * (0 + z0 * y ^ 0 + z1 * y ^ 1) = (z0 * y ^ 1) + z1 * y ^ 2 := by
    clear yn
    grind
  rw [k1, yn]
  clear k1 yn
  grind
theorem y_pw2 {O E : Type} [I : Lean.Grind.CommRing O] [J : Lean.Grind.CommRing E] {ι : O → E} {y : E} {c : Int → O} (a : ALG 2 c ι y) : ∀ k : Nat, y ^ k = su 2 (fun l => ι (yW 2 c k l) * y ^ l.toNat)
  | 0 => by
    rw [su_one 0 (by decide) (by decide) (fun l l0 l1 nl => by rw [show yW 2 c 0 l = 0 from if_neg nl, a.i0]; grind), show yW 2 c 0 0 = 1 from rfl, a.2.2.1]
    show y ^ 0 = 1 * y ^ 0
    grind
  | k + 1 => by rw [y_st2 a k, ← y_pw2 a k, Lean.Grind.Semiring.pow_succ]; grind
set_option maxHeartbeats 4000000 in
theorem newt2 {p : Int} {O E : Type} [I : Lean.Grind.CommRing O] [J : Lean.Grind.CommRing E] {φ : (Int → Int) → O} {ι : O → E} {y : E} {C P : Int → Int → Int} (h : HM p φ) (a : ALG 2 (fun l => φ (C l)) ι y) (zC : ∀ j x, x < 0 → C j x = 0) (hP : NW p 2 C P) : TrE a (y ^ 0) = φ (P 0) ∧ TrE a (y ^ 1) = φ (P 1) ∧ TrE a (y ^ 2) = φ (P 2) := by
  obtain ⟨n2, n3, n4⟩ := hm_nk h
  have n1 := h.nC_1
  have p0 : φ (P 0) = φ (nC 2) - (0) := by
    rw [nw_o h hP (k := 0) (by decide) (by decide)]
    rw [show (fun x : Int => if (0 : Int) = 0 then (if x = 0 then (2 : Int) else 0) else if (0 : Int) ≤ 2 then -0 * C (2 - 0) x else 0) = nC 2 from rfl]
    rw [show (fun x : Int => sm (min ((0 : Int) - 1) 2).toNat (fun i => cnv (C (2 - 1 - i)) (P (0 - 1 - i)) x)) = fun _ => 0 from rfl, h.2.2.2.2.2.1]
  have p1 : φ (P 1) = - (φ (nC 1) * φ (C 1)) - (0) := by
    rw [nw_o h hP (k := 1) (by decide) (by decide)]
    rw [show (fun x : Int => if (1 : Int) = 0 then (if x = 0 then (2 : Int) else 0) else if (1 : Int) ≤ 2 then -1 * C (2 - 1) x else 0) = fun x => -1 * C 1 x from rfl, hm_mk h (zC 1)]
    rw [show (fun x : Int => sm (min ((1 : Int) - 1) 2).toNat (fun i => cnv (C (2 - 1 - i)) (P (1 - 1 - i)) x)) = fun _ => 0 from rfl, h.2.2.2.2.2.1]
  have p2 : φ (P 2) = - (φ (nC 2) * φ (C 0)) - (φ (C 1) * φ (P 1)) := by
    rw [nw_o h hP (k := 2) (by decide) (by decide)]
    rw [show (fun x : Int => if (2 : Int) = 0 then (if x = 0 then (2 : Int) else 0) else if (2 : Int) ≤ 2 then -2 * C (2 - 2) x else 0) = fun x => -2 * C 0 x from rfl, hm_mk h (zC 0)]
    rw [show (fun x : Int => sm (min ((2 : Int) - 1) 2).toNat (fun i => cnv (C (2 - 1 - i)) (P (2 - 1 - i)) x)) = fun x => sm 1 (fun i => cnv (C (2 - 1 - i)) (P (2 - 1 - i)) x) from rfl, hm_sp1 h (fun i => C (2 - 1 - i)) (fun i => P (2 - 1 - i))]
    rfl
  have s0 : TrE a (y ^ 0) = yW 2 (fun l => φ (C l)) 0 0 + yW 2 (fun l => φ (C l)) 1 1 := by
    have e : ∀ r : Int, 0 ≤ r → r < 2 → coE a (y ^ 0 * y ^ r.toNat) r = yW 2 (fun l => φ (C l)) (0 + r.toNat) r := fun r r0 r1 => co_u a ((show y ^ 0 * y ^ r.toNat = y ^ (0 + r.toNat) by rw [Lean.Grind.Semiring.pow_add]).trans (y_pw2 a (0 + r.toNat))) r r0 (by omega)
    unfold TrE
    rw [su_congr (n := 2) (g := fun r => yW 2 (fun l => φ (C l)) (0 + r.toNat) r) (fun r r0 r1 => e r r0 (by omega))]
    show 0 + yW 2 (fun l => φ (C l)) 0 0 + yW 2 (fun l => φ (C l)) 1 1 = _
    clear e n1 n2 n3 n4 p0 p1 p2
    grind
  have s1 : TrE a (y ^ 1) = yW 2 (fun l => φ (C l)) 1 0 + yW 2 (fun l => φ (C l)) 2 1 := by
    have e : ∀ r : Int, 0 ≤ r → r < 2 → coE a (y ^ 1 * y ^ r.toNat) r = yW 2 (fun l => φ (C l)) (1 + r.toNat) r := fun r r0 r1 => co_u a ((show y ^ 1 * y ^ r.toNat = y ^ (1 + r.toNat) by rw [Lean.Grind.Semiring.pow_add]).trans (y_pw2 a (1 + r.toNat))) r r0 (by omega)
    unfold TrE
    rw [su_congr (n := 2) (g := fun r => yW 2 (fun l => φ (C l)) (1 + r.toNat) r) (fun r r0 r1 => e r r0 (by omega))]
    show 0 + yW 2 (fun l => φ (C l)) 1 0 + yW 2 (fun l => φ (C l)) 2 1 = _
    clear e n1 n2 n3 n4 p0 p1 p2 s0
    grind
  have s2 : TrE a (y ^ 2) = yW 2 (fun l => φ (C l)) 2 0 + yW 2 (fun l => φ (C l)) 3 1 := by
    have e : ∀ r : Int, 0 ≤ r → r < 2 → coE a (y ^ 2 * y ^ r.toNat) r = yW 2 (fun l => φ (C l)) (2 + r.toNat) r := fun r r0 r1 => co_u a ((show y ^ 2 * y ^ r.toNat = y ^ (2 + r.toNat) by rw [Lean.Grind.Semiring.pow_add]).trans (y_pw2 a (2 + r.toNat))) r r0 (by omega)
    unfold TrE
    rw [su_congr (n := 2) (g := fun r => yW 2 (fun l => φ (C l)) (2 + r.toNat) r) (fun r r0 r1 => e r r0 (by omega))]
    show 0 + yW 2 (fun l => φ (C l)) 2 0 + yW 2 (fun l => φ (C l)) 3 1 = _
    clear e n1 n2 n3 n4 p0 p1 p2 s0 s1
    grind
  have w0_0 : yW 2 (fun l => φ (C l)) 0 0 = 1 := rfl
  have w0_1 : yW 2 (fun l => φ (C l)) 0 1 = 0 := rfl
  have w1_0 : yW 2 (fun l => φ (C l)) 1 0 = 0 - φ (C 0) * yW 2 (fun l => φ (C l)) 0 1 := rfl
  have w1_1 : yW 2 (fun l => φ (C l)) 1 1 = yW 2 (fun l => φ (C l)) 0 0 - φ (C 1) * yW 2 (fun l => φ (C l)) 0 1 := rfl
  have w2_0 : yW 2 (fun l => φ (C l)) 2 0 = 0 - φ (C 0) * yW 2 (fun l => φ (C l)) 1 1 := rfl
  have w2_1 : yW 2 (fun l => φ (C l)) 2 1 = yW 2 (fun l => φ (C l)) 1 0 - φ (C 1) * yW 2 (fun l => φ (C l)) 1 1 := rfl
  have w3_0 : yW 2 (fun l => φ (C l)) 3 0 = 0 - φ (C 0) * yW 2 (fun l => φ (C l)) 2 1 := rfl
  have w3_1 : yW 2 (fun l => φ (C l)) 3 1 = yW 2 (fun l => φ (C l)) 2 0 - φ (C 1) * yW 2 (fun l => φ (C l)) 2 1 := rfl
  rw [s0, s1, s2]
  generalize yW 2 (fun l => φ (C l)) 0 0 = u0_0 at *
  generalize yW 2 (fun l => φ (C l)) 0 1 = u0_1 at *
  generalize yW 2 (fun l => φ (C l)) 1 0 = u1_0 at *
  generalize yW 2 (fun l => φ (C l)) 1 1 = u1_1 at *
  generalize yW 2 (fun l => φ (C l)) 2 0 = u2_0 at *
  generalize yW 2 (fun l => φ (C l)) 2 1 = u2_1 at *
  generalize yW 2 (fun l => φ (C l)) 3 0 = u3_0 at *
  generalize yW 2 (fun l => φ (C l)) 3 1 = u3_1 at *
  generalize φ (P 0) = q0 at *
  generalize φ (P 1) = q1 at *
  generalize φ (P 2) = q2 at *
  generalize φ (nC 1) = m1 at *
  generalize φ (nC 2) = m2 at *
  generalize φ (nC 3) = m3 at *
  generalize φ (nC 4) = m4 at *
  generalize φ (C 0) = c0 at *
  generalize φ (C 1) = c1 at *
  clear s0 s1 s2
  subst n1
  subst n2
  subst n3
  subst n4
  subst w0_0
  subst w0_1
  subst w1_0
  subst w1_1
  subst w2_0
  subst w2_1
  subst w3_0
  subst w3_1
  subst p0
  subst p1
  subst p2
  refine ⟨?_, ?_, ?_⟩ <;> grind
set_option maxHeartbeats 4000000 in
theorem y_st3 {O E : Type} [I : Lean.Grind.CommRing O] [J : Lean.Grind.CommRing E] {ι : O → E} {y : E} {c : Int → O} (a : ALG 3 c ι y) (k : Nat) : su 3 (fun l => ι (yW 3 c (k + 1) l) * y ^ l.toNat) = y * su 3 (fun l => ι (yW 3 c k l) * y ^ l.toNat) := by
  have yn : y ^ 3 = - (0 + ι (c 0) * y ^ 0 + ι (c 1) * y ^ 1 + ι (c 2) * y ^ 2) := a.2.2.2.2.2
  show 0 + ι (yW 3 c (k + 1) 0) * y ^ 0 + ι (yW 3 c (k + 1) 1) * y ^ 1 + ι (yW 3 c (k + 1) 2) * y ^ 2 = y * (0 + ι (yW 3 c k 0) * y ^ 0 + ι (yW 3 c k 1) * y ^ 1 + ι (yW 3 c k 2) * y ^ 2)
  have t0 : yW 3 c (k + 1) 0 = 0 - c 0 * yW 3 c k 2 := rfl
  have t1 : yW 3 c (k + 1) 1 = yW 3 c k 0 - c 1 * yW 3 c k 2 := rfl
  have t2 : yW 3 c (k + 1) 2 = yW 3 c k 1 - c 2 * yW 3 c k 2 := rfl
  rw [t0, t1, t2, a.isub, a.2.1, a.isub, a.2.1, a.isub, a.2.1]
  rw [a.i0]
  generalize ι (yW 3 c k 0) = z0 at *
  generalize ι (yW 3 c k 1) = z1 at *
  generalize ι (yW 3 c k 2) = z2 at *
  generalize ι (c 0) = c0 at *
  generalize ι (c 1) = c1 at *
  generalize ι (c 2) = c2 at *
  clear t0 t1 t2 a
  have k1 : y * (0 + z0 * y ^ 0 + z1 * y ^ 1 + z2 * y ^ 2) = (z0 * y ^ 1 + z1 * y ^ 2) + z2 * y ^ 3 := by
    clear yn
    grind
  rw [k1, yn]
  clear k1 yn
  grind
theorem y_pw3 {O E : Type} [I : Lean.Grind.CommRing O] [J : Lean.Grind.CommRing E] {ι : O → E} {y : E} {c : Int → O} (a : ALG 3 c ι y) : ∀ k : Nat, y ^ k = su 3 (fun l => ι (yW 3 c k l) * y ^ l.toNat)
  | 0 => by
    rw [su_one 0 (by decide) (by decide) (fun l l0 l1 nl => by rw [show yW 3 c 0 l = 0 from if_neg nl, a.i0]; grind), show yW 3 c 0 0 = 1 from rfl, a.2.2.1]
    show y ^ 0 = 1 * y ^ 0
    grind
  | k + 1 => by rw [y_st3 a k, ← y_pw3 a k, Lean.Grind.Semiring.pow_succ]; grind
set_option maxHeartbeats 4000000 in
theorem newt3 {p : Int} {O E : Type} [I : Lean.Grind.CommRing O] [J : Lean.Grind.CommRing E] {φ : (Int → Int) → O} {ι : O → E} {y : E} {C P : Int → Int → Int} (h : HM p φ) (a : ALG 3 (fun l => φ (C l)) ι y) (zC : ∀ j x, x < 0 → C j x = 0) (hP : NW p 3 C P) : TrE a (y ^ 0) = φ (P 0) ∧ TrE a (y ^ 1) = φ (P 1) ∧ TrE a (y ^ 2) = φ (P 2) ∧ TrE a (y ^ 3) = φ (P 3) ∧ TrE a (y ^ 4) = φ (P 4) := by
  obtain ⟨n2, n3, n4⟩ := hm_nk h
  have n1 := h.nC_1
  have p0 : φ (P 0) = φ (nC 3) - (0) := by
    rw [nw_o h hP (k := 0) (by decide) (by decide)]
    rw [show (fun x : Int => if (0 : Int) = 0 then (if x = 0 then (3 : Int) else 0) else if (0 : Int) ≤ 3 then -0 * C (3 - 0) x else 0) = nC 3 from rfl]
    rw [show (fun x : Int => sm (min ((0 : Int) - 1) 3).toNat (fun i => cnv (C (3 - 1 - i)) (P (0 - 1 - i)) x)) = fun _ => 0 from rfl, h.2.2.2.2.2.1]
  have p1 : φ (P 1) = - (φ (nC 1) * φ (C 2)) - (0) := by
    rw [nw_o h hP (k := 1) (by decide) (by decide)]
    rw [show (fun x : Int => if (1 : Int) = 0 then (if x = 0 then (3 : Int) else 0) else if (1 : Int) ≤ 3 then -1 * C (3 - 1) x else 0) = fun x => -1 * C 2 x from rfl, hm_mk h (zC 2)]
    rw [show (fun x : Int => sm (min ((1 : Int) - 1) 3).toNat (fun i => cnv (C (3 - 1 - i)) (P (1 - 1 - i)) x)) = fun _ => 0 from rfl, h.2.2.2.2.2.1]
  have p2 : φ (P 2) = - (φ (nC 2) * φ (C 1)) - (φ (C 2) * φ (P 1)) := by
    rw [nw_o h hP (k := 2) (by decide) (by decide)]
    rw [show (fun x : Int => if (2 : Int) = 0 then (if x = 0 then (3 : Int) else 0) else if (2 : Int) ≤ 3 then -2 * C (3 - 2) x else 0) = fun x => -2 * C 1 x from rfl, hm_mk h (zC 1)]
    rw [show (fun x : Int => sm (min ((2 : Int) - 1) 3).toNat (fun i => cnv (C (3 - 1 - i)) (P (2 - 1 - i)) x)) = fun x => sm 1 (fun i => cnv (C (3 - 1 - i)) (P (2 - 1 - i)) x) from rfl, hm_sp1 h (fun i => C (3 - 1 - i)) (fun i => P (2 - 1 - i))]
    rfl
  have p3 : φ (P 3) = - (φ (nC 3) * φ (C 0)) - (φ (C 2) * φ (P 2) + φ (C 1) * φ (P 1)) := by
    rw [nw_o h hP (k := 3) (by decide) (by decide)]
    rw [show (fun x : Int => if (3 : Int) = 0 then (if x = 0 then (3 : Int) else 0) else if (3 : Int) ≤ 3 then -3 * C (3 - 3) x else 0) = fun x => -3 * C 0 x from rfl, hm_mk h (zC 0)]
    rw [show (fun x : Int => sm (min ((3 : Int) - 1) 3).toNat (fun i => cnv (C (3 - 1 - i)) (P (3 - 1 - i)) x)) = fun x => sm 2 (fun i => cnv (C (3 - 1 - i)) (P (3 - 1 - i)) x) from rfl, hm_sp2 h (fun i => C (3 - 1 - i)) (fun i => P (3 - 1 - i))]
    rfl
  have p4 : φ (P 4) = 0 - (φ (C 2) * φ (P 3) + φ (C 1) * φ (P 2) + φ (C 0) * φ (P 1)) := by
    rw [nw_o h hP (k := 4) (by decide) (by decide)]
    rw [show (fun x : Int => if (4 : Int) = 0 then (if x = 0 then (3 : Int) else 0) else if (4 : Int) ≤ 3 then -4 * C (3 - 4) x else 0) = fun _ => 0 from rfl, h.2.2.2.2.2.1]
    rw [show (fun x : Int => sm (min ((4 : Int) - 1) 3).toNat (fun i => cnv (C (3 - 1 - i)) (P (4 - 1 - i)) x)) = fun x => sm 3 (fun i => cnv (C (3 - 1 - i)) (P (4 - 1 - i)) x) from rfl, hm_sp3 h (fun i => C (3 - 1 - i)) (fun i => P (4 - 1 - i))]
    rfl
  have s0 : TrE a (y ^ 0) = yW 3 (fun l => φ (C l)) 0 0 + yW 3 (fun l => φ (C l)) 1 1 + yW 3 (fun l => φ (C l)) 2 2 := by
    have e : ∀ r : Int, 0 ≤ r → r < 3 → coE a (y ^ 0 * y ^ r.toNat) r = yW 3 (fun l => φ (C l)) (0 + r.toNat) r := fun r r0 r1 => co_u a ((show y ^ 0 * y ^ r.toNat = y ^ (0 + r.toNat) by rw [Lean.Grind.Semiring.pow_add]).trans (y_pw3 a (0 + r.toNat))) r r0 (by omega)
    unfold TrE
    rw [su_congr (n := 3) (g := fun r => yW 3 (fun l => φ (C l)) (0 + r.toNat) r) (fun r r0 r1 => e r r0 (by omega))]
    show 0 + yW 3 (fun l => φ (C l)) 0 0 + yW 3 (fun l => φ (C l)) 1 1 + yW 3 (fun l => φ (C l)) 2 2 = _
    clear e n1 n2 n3 n4 p0 p1 p2 p3 p4
    grind
  have s1 : TrE a (y ^ 1) = yW 3 (fun l => φ (C l)) 1 0 + yW 3 (fun l => φ (C l)) 2 1 + yW 3 (fun l => φ (C l)) 3 2 := by
    have e : ∀ r : Int, 0 ≤ r → r < 3 → coE a (y ^ 1 * y ^ r.toNat) r = yW 3 (fun l => φ (C l)) (1 + r.toNat) r := fun r r0 r1 => co_u a ((show y ^ 1 * y ^ r.toNat = y ^ (1 + r.toNat) by rw [Lean.Grind.Semiring.pow_add]).trans (y_pw3 a (1 + r.toNat))) r r0 (by omega)
    unfold TrE
    rw [su_congr (n := 3) (g := fun r => yW 3 (fun l => φ (C l)) (1 + r.toNat) r) (fun r r0 r1 => e r r0 (by omega))]
    show 0 + yW 3 (fun l => φ (C l)) 1 0 + yW 3 (fun l => φ (C l)) 2 1 + yW 3 (fun l => φ (C l)) 3 2 = _
    clear e n1 n2 n3 n4 p0 p1 p2 p3 p4 s0
    grind
  have s2 : TrE a (y ^ 2) = yW 3 (fun l => φ (C l)) 2 0 + yW 3 (fun l => φ (C l)) 3 1 + yW 3 (fun l => φ (C l)) 4 2 := by
    have e : ∀ r : Int, 0 ≤ r → r < 3 → coE a (y ^ 2 * y ^ r.toNat) r = yW 3 (fun l => φ (C l)) (2 + r.toNat) r := fun r r0 r1 => co_u a ((show y ^ 2 * y ^ r.toNat = y ^ (2 + r.toNat) by rw [Lean.Grind.Semiring.pow_add]).trans (y_pw3 a (2 + r.toNat))) r r0 (by omega)
    unfold TrE
    rw [su_congr (n := 3) (g := fun r => yW 3 (fun l => φ (C l)) (2 + r.toNat) r) (fun r r0 r1 => e r r0 (by omega))]
    show 0 + yW 3 (fun l => φ (C l)) 2 0 + yW 3 (fun l => φ (C l)) 3 1 + yW 3 (fun l => φ (C l)) 4 2 = _
    clear e n1 n2 n3 n4 p0 p1 p2 p3 p4 s0 s1
    grind
  have s3 : TrE a (y ^ 3) = yW 3 (fun l => φ (C l)) 3 0 + yW 3 (fun l => φ (C l)) 4 1 + yW 3 (fun l => φ (C l)) 5 2 := by
    have e : ∀ r : Int, 0 ≤ r → r < 3 → coE a (y ^ 3 * y ^ r.toNat) r = yW 3 (fun l => φ (C l)) (3 + r.toNat) r := fun r r0 r1 => co_u a ((show y ^ 3 * y ^ r.toNat = y ^ (3 + r.toNat) by rw [Lean.Grind.Semiring.pow_add]).trans (y_pw3 a (3 + r.toNat))) r r0 (by omega)
    unfold TrE
    rw [su_congr (n := 3) (g := fun r => yW 3 (fun l => φ (C l)) (3 + r.toNat) r) (fun r r0 r1 => e r r0 (by omega))]
    show 0 + yW 3 (fun l => φ (C l)) 3 0 + yW 3 (fun l => φ (C l)) 4 1 + yW 3 (fun l => φ (C l)) 5 2 = _
    clear e n1 n2 n3 n4 p0 p1 p2 p3 p4 s0 s1 s2
    grind
  have s4 : TrE a (y ^ 4) = yW 3 (fun l => φ (C l)) 4 0 + yW 3 (fun l => φ (C l)) 5 1 + yW 3 (fun l => φ (C l)) 6 2 := by
    have e : ∀ r : Int, 0 ≤ r → r < 3 → coE a (y ^ 4 * y ^ r.toNat) r = yW 3 (fun l => φ (C l)) (4 + r.toNat) r := fun r r0 r1 => co_u a ((show y ^ 4 * y ^ r.toNat = y ^ (4 + r.toNat) by rw [Lean.Grind.Semiring.pow_add]).trans (y_pw3 a (4 + r.toNat))) r r0 (by omega)
    unfold TrE
    rw [su_congr (n := 3) (g := fun r => yW 3 (fun l => φ (C l)) (4 + r.toNat) r) (fun r r0 r1 => e r r0 (by omega))]
    show 0 + yW 3 (fun l => φ (C l)) 4 0 + yW 3 (fun l => φ (C l)) 5 1 + yW 3 (fun l => φ (C l)) 6 2 = _
    clear e n1 n2 n3 n4 p0 p1 p2 p3 p4 s0 s1 s2 s3
    grind
  have w0_0 : yW 3 (fun l => φ (C l)) 0 0 = 1 := rfl
  have w0_1 : yW 3 (fun l => φ (C l)) 0 1 = 0 := rfl
  have w0_2 : yW 3 (fun l => φ (C l)) 0 2 = 0 := rfl
  have w1_0 : yW 3 (fun l => φ (C l)) 1 0 = 0 - φ (C 0) * yW 3 (fun l => φ (C l)) 0 2 := rfl
  have w1_1 : yW 3 (fun l => φ (C l)) 1 1 = yW 3 (fun l => φ (C l)) 0 0 - φ (C 1) * yW 3 (fun l => φ (C l)) 0 2 := rfl
  have w1_2 : yW 3 (fun l => φ (C l)) 1 2 = yW 3 (fun l => φ (C l)) 0 1 - φ (C 2) * yW 3 (fun l => φ (C l)) 0 2 := rfl
  have w2_0 : yW 3 (fun l => φ (C l)) 2 0 = 0 - φ (C 0) * yW 3 (fun l => φ (C l)) 1 2 := rfl
  have w2_1 : yW 3 (fun l => φ (C l)) 2 1 = yW 3 (fun l => φ (C l)) 1 0 - φ (C 1) * yW 3 (fun l => φ (C l)) 1 2 := rfl
  have w2_2 : yW 3 (fun l => φ (C l)) 2 2 = yW 3 (fun l => φ (C l)) 1 1 - φ (C 2) * yW 3 (fun l => φ (C l)) 1 2 := rfl
  have w3_0 : yW 3 (fun l => φ (C l)) 3 0 = 0 - φ (C 0) * yW 3 (fun l => φ (C l)) 2 2 := rfl
  have w3_1 : yW 3 (fun l => φ (C l)) 3 1 = yW 3 (fun l => φ (C l)) 2 0 - φ (C 1) * yW 3 (fun l => φ (C l)) 2 2 := rfl
  have w3_2 : yW 3 (fun l => φ (C l)) 3 2 = yW 3 (fun l => φ (C l)) 2 1 - φ (C 2) * yW 3 (fun l => φ (C l)) 2 2 := rfl
  have w4_0 : yW 3 (fun l => φ (C l)) 4 0 = 0 - φ (C 0) * yW 3 (fun l => φ (C l)) 3 2 := rfl
  have w4_1 : yW 3 (fun l => φ (C l)) 4 1 = yW 3 (fun l => φ (C l)) 3 0 - φ (C 1) * yW 3 (fun l => φ (C l)) 3 2 := rfl
  have w4_2 : yW 3 (fun l => φ (C l)) 4 2 = yW 3 (fun l => φ (C l)) 3 1 - φ (C 2) * yW 3 (fun l => φ (C l)) 3 2 := rfl
  have w5_0 : yW 3 (fun l => φ (C l)) 5 0 = 0 - φ (C 0) * yW 3 (fun l => φ (C l)) 4 2 := rfl
  have w5_1 : yW 3 (fun l => φ (C l)) 5 1 = yW 3 (fun l => φ (C l)) 4 0 - φ (C 1) * yW 3 (fun l => φ (C l)) 4 2 := rfl
  have w5_2 : yW 3 (fun l => φ (C l)) 5 2 = yW 3 (fun l => φ (C l)) 4 1 - φ (C 2) * yW 3 (fun l => φ (C l)) 4 2 := rfl
  have w6_0 : yW 3 (fun l => φ (C l)) 6 0 = 0 - φ (C 0) * yW 3 (fun l => φ (C l)) 5 2 := rfl
  have w6_1 : yW 3 (fun l => φ (C l)) 6 1 = yW 3 (fun l => φ (C l)) 5 0 - φ (C 1) * yW 3 (fun l => φ (C l)) 5 2 := rfl
  have w6_2 : yW 3 (fun l => φ (C l)) 6 2 = yW 3 (fun l => φ (C l)) 5 1 - φ (C 2) * yW 3 (fun l => φ (C l)) 5 2 := rfl
  rw [s0, s1, s2, s3, s4]
  generalize yW 3 (fun l => φ (C l)) 0 0 = u0_0 at *
  generalize yW 3 (fun l => φ (C l)) 0 1 = u0_1 at *
  generalize yW 3 (fun l => φ (C l)) 0 2 = u0_2 at *
  generalize yW 3 (fun l => φ (C l)) 1 0 = u1_0 at *
  generalize yW 3 (fun l => φ (C l)) 1 1 = u1_1 at *
  generalize yW 3 (fun l => φ (C l)) 1 2 = u1_2 at *
  generalize yW 3 (fun l => φ (C l)) 2 0 = u2_0 at *
  generalize yW 3 (fun l => φ (C l)) 2 1 = u2_1 at *
  generalize yW 3 (fun l => φ (C l)) 2 2 = u2_2 at *
  generalize yW 3 (fun l => φ (C l)) 3 0 = u3_0 at *
  generalize yW 3 (fun l => φ (C l)) 3 1 = u3_1 at *
  generalize yW 3 (fun l => φ (C l)) 3 2 = u3_2 at *
  generalize yW 3 (fun l => φ (C l)) 4 0 = u4_0 at *
  generalize yW 3 (fun l => φ (C l)) 4 1 = u4_1 at *
  generalize yW 3 (fun l => φ (C l)) 4 2 = u4_2 at *
  generalize yW 3 (fun l => φ (C l)) 5 0 = u5_0 at *
  generalize yW 3 (fun l => φ (C l)) 5 1 = u5_1 at *
  generalize yW 3 (fun l => φ (C l)) 5 2 = u5_2 at *
  generalize yW 3 (fun l => φ (C l)) 6 0 = u6_0 at *
  generalize yW 3 (fun l => φ (C l)) 6 1 = u6_1 at *
  generalize yW 3 (fun l => φ (C l)) 6 2 = u6_2 at *
  generalize φ (P 0) = q0 at *
  generalize φ (P 1) = q1 at *
  generalize φ (P 2) = q2 at *
  generalize φ (P 3) = q3 at *
  generalize φ (P 4) = q4 at *
  generalize φ (nC 1) = m1 at *
  generalize φ (nC 2) = m2 at *
  generalize φ (nC 3) = m3 at *
  generalize φ (nC 4) = m4 at *
  generalize φ (C 0) = c0 at *
  generalize φ (C 1) = c1 at *
  generalize φ (C 2) = c2 at *
  clear s0 s1 s2 s3 s4
  subst n1
  subst n2
  subst n3
  subst n4
  subst w0_0
  subst w0_1
  subst w0_2
  subst w1_0
  subst w1_1
  subst w1_2
  subst w2_0
  subst w2_1
  subst w2_2
  subst w3_0
  subst w3_1
  subst w3_2
  subst w4_0
  subst w4_1
  subst w4_2
  subst w5_0
  subst w5_1
  subst w5_2
  subst w6_0
  subst w6_1
  subst w6_2
  subst p0
  subst p1
  subst p2
  subst p3
  subst p4
  refine ⟨?_, ?_, ?_, ?_, ?_⟩ <;> grind
set_option maxHeartbeats 4000000 in
theorem y_st4 {O E : Type} [I : Lean.Grind.CommRing O] [J : Lean.Grind.CommRing E] {ι : O → E} {y : E} {c : Int → O} (a : ALG 4 c ι y) (k : Nat) : su 4 (fun l => ι (yW 4 c (k + 1) l) * y ^ l.toNat) = y * su 4 (fun l => ι (yW 4 c k l) * y ^ l.toNat) := by
  have yn : y ^ 4 = - (0 + ι (c 0) * y ^ 0 + ι (c 1) * y ^ 1 + ι (c 2) * y ^ 2 + ι (c 3) * y ^ 3) := a.2.2.2.2.2
  show 0 + ι (yW 4 c (k + 1) 0) * y ^ 0 + ι (yW 4 c (k + 1) 1) * y ^ 1 + ι (yW 4 c (k + 1) 2) * y ^ 2 + ι (yW 4 c (k + 1) 3) * y ^ 3 = y * (0 + ι (yW 4 c k 0) * y ^ 0 + ι (yW 4 c k 1) * y ^ 1 + ι (yW 4 c k 2) * y ^ 2 + ι (yW 4 c k 3) * y ^ 3)
  have t0 : yW 4 c (k + 1) 0 = 0 - c 0 * yW 4 c k 3 := rfl
  have t1 : yW 4 c (k + 1) 1 = yW 4 c k 0 - c 1 * yW 4 c k 3 := rfl
  have t2 : yW 4 c (k + 1) 2 = yW 4 c k 1 - c 2 * yW 4 c k 3 := rfl
  have t3 : yW 4 c (k + 1) 3 = yW 4 c k 2 - c 3 * yW 4 c k 3 := rfl
  rw [t0, t1, t2, t3, a.isub, a.2.1, a.isub, a.2.1, a.isub, a.2.1, a.isub, a.2.1]
  rw [a.i0]
  generalize ι (yW 4 c k 0) = z0 at *
  generalize ι (yW 4 c k 1) = z1 at *
  generalize ι (yW 4 c k 2) = z2 at *
  generalize ι (yW 4 c k 3) = z3 at *
  generalize ι (c 0) = c0 at *
  generalize ι (c 1) = c1 at *
  generalize ι (c 2) = c2 at *
  generalize ι (c 3) = c3 at *
  clear t0 t1 t2 t3 a
  have k1 : y * (0 + z0 * y ^ 0 + z1 * y ^ 1 + z2 * y ^ 2 + z3 * y ^ 3) = (z0 * y ^ 1 + z1 * y ^ 2 + z2 * y ^ 3) + z3 * y ^ 4 := by
    clear yn
    grind
  rw [k1, yn]
  clear k1 yn
  grind
theorem y_pw4 {O E : Type} [I : Lean.Grind.CommRing O] [J : Lean.Grind.CommRing E] {ι : O → E} {y : E} {c : Int → O} (a : ALG 4 c ι y) : ∀ k : Nat, y ^ k = su 4 (fun l => ι (yW 4 c k l) * y ^ l.toNat)
  | 0 => by
    rw [su_one 0 (by decide) (by decide) (fun l l0 l1 nl => by rw [show yW 4 c 0 l = 0 from if_neg nl, a.i0]; grind), show yW 4 c 0 0 = 1 from rfl, a.2.2.1]
    show y ^ 0 = 1 * y ^ 0
    grind
  | k + 1 => by rw [y_st4 a k, ← y_pw4 a k, Lean.Grind.Semiring.pow_succ]; grind
set_option maxHeartbeats 4000000 in
theorem newt4 {p : Int} {O E : Type} [I : Lean.Grind.CommRing O] [J : Lean.Grind.CommRing E] {φ : (Int → Int) → O} {ι : O → E} {y : E} {C P : Int → Int → Int} (h : HM p φ) (a : ALG 4 (fun l => φ (C l)) ι y) (zC : ∀ j x, x < 0 → C j x = 0) (hP : NW p 4 C P) : TrE a (y ^ 0) = φ (P 0) ∧ TrE a (y ^ 1) = φ (P 1) ∧ TrE a (y ^ 2) = φ (P 2) ∧ TrE a (y ^ 3) = φ (P 3) ∧ TrE a (y ^ 4) = φ (P 4) ∧ TrE a (y ^ 5) = φ (P 5) ∧ TrE a (y ^ 6) = φ (P 6) := by
  obtain ⟨n2, n3, n4⟩ := hm_nk h
  have n1 := h.nC_1
  have p0 : φ (P 0) = φ (nC 4) - (0) := by
    rw [nw_o h hP (k := 0) (by decide) (by decide)]
    rw [show (fun x : Int => if (0 : Int) = 0 then (if x = 0 then (4 : Int) else 0) else if (0 : Int) ≤ 4 then -0 * C (4 - 0) x else 0) = nC 4 from rfl]
    rw [show (fun x : Int => sm (min ((0 : Int) - 1) 4).toNat (fun i => cnv (C (4 - 1 - i)) (P (0 - 1 - i)) x)) = fun _ => 0 from rfl, h.2.2.2.2.2.1]
  have p1 : φ (P 1) = - (φ (nC 1) * φ (C 3)) - (0) := by
    rw [nw_o h hP (k := 1) (by decide) (by decide)]
    rw [show (fun x : Int => if (1 : Int) = 0 then (if x = 0 then (4 : Int) else 0) else if (1 : Int) ≤ 4 then -1 * C (4 - 1) x else 0) = fun x => -1 * C 3 x from rfl, hm_mk h (zC 3)]
    rw [show (fun x : Int => sm (min ((1 : Int) - 1) 4).toNat (fun i => cnv (C (4 - 1 - i)) (P (1 - 1 - i)) x)) = fun _ => 0 from rfl, h.2.2.2.2.2.1]
  have p2 : φ (P 2) = - (φ (nC 2) * φ (C 2)) - (φ (C 3) * φ (P 1)) := by
    rw [nw_o h hP (k := 2) (by decide) (by decide)]
    rw [show (fun x : Int => if (2 : Int) = 0 then (if x = 0 then (4 : Int) else 0) else if (2 : Int) ≤ 4 then -2 * C (4 - 2) x else 0) = fun x => -2 * C 2 x from rfl, hm_mk h (zC 2)]
    rw [show (fun x : Int => sm (min ((2 : Int) - 1) 4).toNat (fun i => cnv (C (4 - 1 - i)) (P (2 - 1 - i)) x)) = fun x => sm 1 (fun i => cnv (C (4 - 1 - i)) (P (2 - 1 - i)) x) from rfl, hm_sp1 h (fun i => C (4 - 1 - i)) (fun i => P (2 - 1 - i))]
    rfl
  have p3 : φ (P 3) = - (φ (nC 3) * φ (C 1)) - (φ (C 3) * φ (P 2) + φ (C 2) * φ (P 1)) := by
    rw [nw_o h hP (k := 3) (by decide) (by decide)]
    rw [show (fun x : Int => if (3 : Int) = 0 then (if x = 0 then (4 : Int) else 0) else if (3 : Int) ≤ 4 then -3 * C (4 - 3) x else 0) = fun x => -3 * C 1 x from rfl, hm_mk h (zC 1)]
    rw [show (fun x : Int => sm (min ((3 : Int) - 1) 4).toNat (fun i => cnv (C (4 - 1 - i)) (P (3 - 1 - i)) x)) = fun x => sm 2 (fun i => cnv (C (4 - 1 - i)) (P (3 - 1 - i)) x) from rfl, hm_sp2 h (fun i => C (4 - 1 - i)) (fun i => P (3 - 1 - i))]
    rfl
  have p4 : φ (P 4) = - (φ (nC 4) * φ (C 0)) - (φ (C 3) * φ (P 3) + φ (C 2) * φ (P 2) + φ (C 1) * φ (P 1)) := by
    rw [nw_o h hP (k := 4) (by decide) (by decide)]
    rw [show (fun x : Int => if (4 : Int) = 0 then (if x = 0 then (4 : Int) else 0) else if (4 : Int) ≤ 4 then -4 * C (4 - 4) x else 0) = fun x => -4 * C 0 x from rfl, hm_mk h (zC 0)]
    rw [show (fun x : Int => sm (min ((4 : Int) - 1) 4).toNat (fun i => cnv (C (4 - 1 - i)) (P (4 - 1 - i)) x)) = fun x => sm 3 (fun i => cnv (C (4 - 1 - i)) (P (4 - 1 - i)) x) from rfl, hm_sp3 h (fun i => C (4 - 1 - i)) (fun i => P (4 - 1 - i))]
    rfl
  have p5 : φ (P 5) = 0 - (φ (C 3) * φ (P 4) + φ (C 2) * φ (P 3) + φ (C 1) * φ (P 2) + φ (C 0) * φ (P 1)) := by
    rw [nw_o h hP (k := 5) (by decide) (by decide)]
    rw [show (fun x : Int => if (5 : Int) = 0 then (if x = 0 then (4 : Int) else 0) else if (5 : Int) ≤ 4 then -5 * C (4 - 5) x else 0) = fun _ => 0 from rfl, h.2.2.2.2.2.1]
    rw [show (fun x : Int => sm (min ((5 : Int) - 1) 4).toNat (fun i => cnv (C (4 - 1 - i)) (P (5 - 1 - i)) x)) = fun x => sm 4 (fun i => cnv (C (4 - 1 - i)) (P (5 - 1 - i)) x) from rfl, hm_sp4 h (fun i => C (4 - 1 - i)) (fun i => P (5 - 1 - i))]
    rfl
  have p6 : φ (P 6) = 0 - (φ (C 3) * φ (P 5) + φ (C 2) * φ (P 4) + φ (C 1) * φ (P 3) + φ (C 0) * φ (P 2)) := by
    rw [nw_o h hP (k := 6) (by decide) (by decide)]
    rw [show (fun x : Int => if (6 : Int) = 0 then (if x = 0 then (4 : Int) else 0) else if (6 : Int) ≤ 4 then -6 * C (4 - 6) x else 0) = fun _ => 0 from rfl, h.2.2.2.2.2.1]
    rw [show (fun x : Int => sm (min ((6 : Int) - 1) 4).toNat (fun i => cnv (C (4 - 1 - i)) (P (6 - 1 - i)) x)) = fun x => sm 4 (fun i => cnv (C (4 - 1 - i)) (P (6 - 1 - i)) x) from rfl, hm_sp4 h (fun i => C (4 - 1 - i)) (fun i => P (6 - 1 - i))]
    rfl
  have s0 : TrE a (y ^ 0) = yW 4 (fun l => φ (C l)) 0 0 + yW 4 (fun l => φ (C l)) 1 1 + yW 4 (fun l => φ (C l)) 2 2 + yW 4 (fun l => φ (C l)) 3 3 := by
    have e : ∀ r : Int, 0 ≤ r → r < 4 → coE a (y ^ 0 * y ^ r.toNat) r = yW 4 (fun l => φ (C l)) (0 + r.toNat) r := fun r r0 r1 => co_u a ((show y ^ 0 * y ^ r.toNat = y ^ (0 + r.toNat) by rw [Lean.Grind.Semiring.pow_add]).trans (y_pw4 a (0 + r.toNat))) r r0 (by omega)
    unfold TrE
    rw [su_congr (n := 4) (g := fun r => yW 4 (fun l => φ (C l)) (0 + r.toNat) r) (fun r r0 r1 => e r r0 (by omega))]
    show 0 + yW 4 (fun l => φ (C l)) 0 0 + yW 4 (fun l => φ (C l)) 1 1 + yW 4 (fun l => φ (C l)) 2 2 + yW 4 (fun l => φ (C l)) 3 3 = _
    clear e n1 n2 n3 n4 p0 p1 p2 p3 p4 p5 p6
    grind
  have s1 : TrE a (y ^ 1) = yW 4 (fun l => φ (C l)) 1 0 + yW 4 (fun l => φ (C l)) 2 1 + yW 4 (fun l => φ (C l)) 3 2 + yW 4 (fun l => φ (C l)) 4 3 := by
    have e : ∀ r : Int, 0 ≤ r → r < 4 → coE a (y ^ 1 * y ^ r.toNat) r = yW 4 (fun l => φ (C l)) (1 + r.toNat) r := fun r r0 r1 => co_u a ((show y ^ 1 * y ^ r.toNat = y ^ (1 + r.toNat) by rw [Lean.Grind.Semiring.pow_add]).trans (y_pw4 a (1 + r.toNat))) r r0 (by omega)
    unfold TrE
    rw [su_congr (n := 4) (g := fun r => yW 4 (fun l => φ (C l)) (1 + r.toNat) r) (fun r r0 r1 => e r r0 (by omega))]
    show 0 + yW 4 (fun l => φ (C l)) 1 0 + yW 4 (fun l => φ (C l)) 2 1 + yW 4 (fun l => φ (C l)) 3 2 + yW 4 (fun l => φ (C l)) 4 3 = _
    clear e n1 n2 n3 n4 p0 p1 p2 p3 p4 p5 p6 s0
    grind
  have s2 : TrE a (y ^ 2) = yW 4 (fun l => φ (C l)) 2 0 + yW 4 (fun l => φ (C l)) 3 1 + yW 4 (fun l => φ (C l)) 4 2 + yW 4 (fun l => φ (C l)) 5 3 := by
    have e : ∀ r : Int, 0 ≤ r → r < 4 → coE a (y ^ 2 * y ^ r.toNat) r = yW 4 (fun l => φ (C l)) (2 + r.toNat) r := fun r r0 r1 => co_u a ((show y ^ 2 * y ^ r.toNat = y ^ (2 + r.toNat) by rw [Lean.Grind.Semiring.pow_add]).trans (y_pw4 a (2 + r.toNat))) r r0 (by omega)
    unfold TrE
    rw [su_congr (n := 4) (g := fun r => yW 4 (fun l => φ (C l)) (2 + r.toNat) r) (fun r r0 r1 => e r r0 (by omega))]
    show 0 + yW 4 (fun l => φ (C l)) 2 0 + yW 4 (fun l => φ (C l)) 3 1 + yW 4 (fun l => φ (C l)) 4 2 + yW 4 (fun l => φ (C l)) 5 3 = _
    clear e n1 n2 n3 n4 p0 p1 p2 p3 p4 p5 p6 s0 s1
    grind
  have s3 : TrE a (y ^ 3) = yW 4 (fun l => φ (C l)) 3 0 + yW 4 (fun l => φ (C l)) 4 1 + yW 4 (fun l => φ (C l)) 5 2 + yW 4 (fun l => φ (C l)) 6 3 := by
    have e : ∀ r : Int, 0 ≤ r → r < 4 → coE a (y ^ 3 * y ^ r.toNat) r = yW 4 (fun l => φ (C l)) (3 + r.toNat) r := fun r r0 r1 => co_u a ((show y ^ 3 * y ^ r.toNat = y ^ (3 + r.toNat) by rw [Lean.Grind.Semiring.pow_add]).trans (y_pw4 a (3 + r.toNat))) r r0 (by omega)
    unfold TrE
    rw [su_congr (n := 4) (g := fun r => yW 4 (fun l => φ (C l)) (3 + r.toNat) r) (fun r r0 r1 => e r r0 (by omega))]
    show 0 + yW 4 (fun l => φ (C l)) 3 0 + yW 4 (fun l => φ (C l)) 4 1 + yW 4 (fun l => φ (C l)) 5 2 + yW 4 (fun l => φ (C l)) 6 3 = _
    clear e n1 n2 n3 n4 p0 p1 p2 p3 p4 p5 p6 s0 s1 s2
    grind
  have s4 : TrE a (y ^ 4) = yW 4 (fun l => φ (C l)) 4 0 + yW 4 (fun l => φ (C l)) 5 1 + yW 4 (fun l => φ (C l)) 6 2 + yW 4 (fun l => φ (C l)) 7 3 := by
    have e : ∀ r : Int, 0 ≤ r → r < 4 → coE a (y ^ 4 * y ^ r.toNat) r = yW 4 (fun l => φ (C l)) (4 + r.toNat) r := fun r r0 r1 => co_u a ((show y ^ 4 * y ^ r.toNat = y ^ (4 + r.toNat) by rw [Lean.Grind.Semiring.pow_add]).trans (y_pw4 a (4 + r.toNat))) r r0 (by omega)
    unfold TrE
    rw [su_congr (n := 4) (g := fun r => yW 4 (fun l => φ (C l)) (4 + r.toNat) r) (fun r r0 r1 => e r r0 (by omega))]
    show 0 + yW 4 (fun l => φ (C l)) 4 0 + yW 4 (fun l => φ (C l)) 5 1 + yW 4 (fun l => φ (C l)) 6 2 + yW 4 (fun l => φ (C l)) 7 3 = _
    clear e n1 n2 n3 n4 p0 p1 p2 p3 p4 p5 p6 s0 s1 s2 s3
    grind
  have s5 : TrE a (y ^ 5) = yW 4 (fun l => φ (C l)) 5 0 + yW 4 (fun l => φ (C l)) 6 1 + yW 4 (fun l => φ (C l)) 7 2 + yW 4 (fun l => φ (C l)) 8 3 := by
    have e : ∀ r : Int, 0 ≤ r → r < 4 → coE a (y ^ 5 * y ^ r.toNat) r = yW 4 (fun l => φ (C l)) (5 + r.toNat) r := fun r r0 r1 => co_u a ((show y ^ 5 * y ^ r.toNat = y ^ (5 + r.toNat) by rw [Lean.Grind.Semiring.pow_add]).trans (y_pw4 a (5 + r.toNat))) r r0 (by omega)
    unfold TrE
    rw [su_congr (n := 4) (g := fun r => yW 4 (fun l => φ (C l)) (5 + r.toNat) r) (fun r r0 r1 => e r r0 (by omega))]
    show 0 + yW 4 (fun l => φ (C l)) 5 0 + yW 4 (fun l => φ (C l)) 6 1 + yW 4 (fun l => φ (C l)) 7 2 + yW 4 (fun l => φ (C l)) 8 3 = _
    clear e n1 n2 n3 n4 p0 p1 p2 p3 p4 p5 p6 s0 s1 s2 s3 s4
    grind
  have s6 : TrE a (y ^ 6) = yW 4 (fun l => φ (C l)) 6 0 + yW 4 (fun l => φ (C l)) 7 1 + yW 4 (fun l => φ (C l)) 8 2 + yW 4 (fun l => φ (C l)) 9 3 := by
    have e : ∀ r : Int, 0 ≤ r → r < 4 → coE a (y ^ 6 * y ^ r.toNat) r = yW 4 (fun l => φ (C l)) (6 + r.toNat) r := fun r r0 r1 => co_u a ((show y ^ 6 * y ^ r.toNat = y ^ (6 + r.toNat) by rw [Lean.Grind.Semiring.pow_add]).trans (y_pw4 a (6 + r.toNat))) r r0 (by omega)
    unfold TrE
    rw [su_congr (n := 4) (g := fun r => yW 4 (fun l => φ (C l)) (6 + r.toNat) r) (fun r r0 r1 => e r r0 (by omega))]
    show 0 + yW 4 (fun l => φ (C l)) 6 0 + yW 4 (fun l => φ (C l)) 7 1 + yW 4 (fun l => φ (C l)) 8 2 + yW 4 (fun l => φ (C l)) 9 3 = _
    clear e n1 n2 n3 n4 p0 p1 p2 p3 p4 p5 p6 s0 s1 s2 s3 s4 s5
    grind
  have w0_0 : yW 4 (fun l => φ (C l)) 0 0 = 1 := rfl
  have w0_1 : yW 4 (fun l => φ (C l)) 0 1 = 0 := rfl
  have w0_2 : yW 4 (fun l => φ (C l)) 0 2 = 0 := rfl
  have w0_3 : yW 4 (fun l => φ (C l)) 0 3 = 0 := rfl
  have w1_0 : yW 4 (fun l => φ (C l)) 1 0 = 0 - φ (C 0) * yW 4 (fun l => φ (C l)) 0 3 := rfl
  have w1_1 : yW 4 (fun l => φ (C l)) 1 1 = yW 4 (fun l => φ (C l)) 0 0 - φ (C 1) * yW 4 (fun l => φ (C l)) 0 3 := rfl
  have w1_2 : yW 4 (fun l => φ (C l)) 1 2 = yW 4 (fun l => φ (C l)) 0 1 - φ (C 2) * yW 4 (fun l => φ (C l)) 0 3 := rfl
  have w1_3 : yW 4 (fun l => φ (C l)) 1 3 = yW 4 (fun l => φ (C l)) 0 2 - φ (C 3) * yW 4 (fun l => φ (C l)) 0 3 := rfl
  have w2_0 : yW 4 (fun l => φ (C l)) 2 0 = 0 - φ (C 0) * yW 4 (fun l => φ (C l)) 1 3 := rfl
  have w2_1 : yW 4 (fun l => φ (C l)) 2 1 = yW 4 (fun l => φ (C l)) 1 0 - φ (C 1) * yW 4 (fun l => φ (C l)) 1 3 := rfl
  have w2_2 : yW 4 (fun l => φ (C l)) 2 2 = yW 4 (fun l => φ (C l)) 1 1 - φ (C 2) * yW 4 (fun l => φ (C l)) 1 3 := rfl
  have w2_3 : yW 4 (fun l => φ (C l)) 2 3 = yW 4 (fun l => φ (C l)) 1 2 - φ (C 3) * yW 4 (fun l => φ (C l)) 1 3 := rfl
  have w3_0 : yW 4 (fun l => φ (C l)) 3 0 = 0 - φ (C 0) * yW 4 (fun l => φ (C l)) 2 3 := rfl
  have w3_1 : yW 4 (fun l => φ (C l)) 3 1 = yW 4 (fun l => φ (C l)) 2 0 - φ (C 1) * yW 4 (fun l => φ (C l)) 2 3 := rfl
  have w3_2 : yW 4 (fun l => φ (C l)) 3 2 = yW 4 (fun l => φ (C l)) 2 1 - φ (C 2) * yW 4 (fun l => φ (C l)) 2 3 := rfl
  have w3_3 : yW 4 (fun l => φ (C l)) 3 3 = yW 4 (fun l => φ (C l)) 2 2 - φ (C 3) * yW 4 (fun l => φ (C l)) 2 3 := rfl
  have w4_0 : yW 4 (fun l => φ (C l)) 4 0 = 0 - φ (C 0) * yW 4 (fun l => φ (C l)) 3 3 := rfl
  have w4_1 : yW 4 (fun l => φ (C l)) 4 1 = yW 4 (fun l => φ (C l)) 3 0 - φ (C 1) * yW 4 (fun l => φ (C l)) 3 3 := rfl
  have w4_2 : yW 4 (fun l => φ (C l)) 4 2 = yW 4 (fun l => φ (C l)) 3 1 - φ (C 2) * yW 4 (fun l => φ (C l)) 3 3 := rfl
  have w4_3 : yW 4 (fun l => φ (C l)) 4 3 = yW 4 (fun l => φ (C l)) 3 2 - φ (C 3) * yW 4 (fun l => φ (C l)) 3 3 := rfl
  have w5_0 : yW 4 (fun l => φ (C l)) 5 0 = 0 - φ (C 0) * yW 4 (fun l => φ (C l)) 4 3 := rfl
  have w5_1 : yW 4 (fun l => φ (C l)) 5 1 = yW 4 (fun l => φ (C l)) 4 0 - φ (C 1) * yW 4 (fun l => φ (C l)) 4 3 := rfl
  have w5_2 : yW 4 (fun l => φ (C l)) 5 2 = yW 4 (fun l => φ (C l)) 4 1 - φ (C 2) * yW 4 (fun l => φ (C l)) 4 3 := rfl
  have w5_3 : yW 4 (fun l => φ (C l)) 5 3 = yW 4 (fun l => φ (C l)) 4 2 - φ (C 3) * yW 4 (fun l => φ (C l)) 4 3 := rfl
  have w6_0 : yW 4 (fun l => φ (C l)) 6 0 = 0 - φ (C 0) * yW 4 (fun l => φ (C l)) 5 3 := rfl
  have w6_1 : yW 4 (fun l => φ (C l)) 6 1 = yW 4 (fun l => φ (C l)) 5 0 - φ (C 1) * yW 4 (fun l => φ (C l)) 5 3 := rfl
  have w6_2 : yW 4 (fun l => φ (C l)) 6 2 = yW 4 (fun l => φ (C l)) 5 1 - φ (C 2) * yW 4 (fun l => φ (C l)) 5 3 := rfl
  have w6_3 : yW 4 (fun l => φ (C l)) 6 3 = yW 4 (fun l => φ (C l)) 5 2 - φ (C 3) * yW 4 (fun l => φ (C l)) 5 3 := rfl
  have w7_0 : yW 4 (fun l => φ (C l)) 7 0 = 0 - φ (C 0) * yW 4 (fun l => φ (C l)) 6 3 := rfl
  have w7_1 : yW 4 (fun l => φ (C l)) 7 1 = yW 4 (fun l => φ (C l)) 6 0 - φ (C 1) * yW 4 (fun l => φ (C l)) 6 3 := rfl
  have w7_2 : yW 4 (fun l => φ (C l)) 7 2 = yW 4 (fun l => φ (C l)) 6 1 - φ (C 2) * yW 4 (fun l => φ (C l)) 6 3 := rfl
  have w7_3 : yW 4 (fun l => φ (C l)) 7 3 = yW 4 (fun l => φ (C l)) 6 2 - φ (C 3) * yW 4 (fun l => φ (C l)) 6 3 := rfl
  have w8_0 : yW 4 (fun l => φ (C l)) 8 0 = 0 - φ (C 0) * yW 4 (fun l => φ (C l)) 7 3 := rfl
  have w8_1 : yW 4 (fun l => φ (C l)) 8 1 = yW 4 (fun l => φ (C l)) 7 0 - φ (C 1) * yW 4 (fun l => φ (C l)) 7 3 := rfl
  have w8_2 : yW 4 (fun l => φ (C l)) 8 2 = yW 4 (fun l => φ (C l)) 7 1 - φ (C 2) * yW 4 (fun l => φ (C l)) 7 3 := rfl
  have w8_3 : yW 4 (fun l => φ (C l)) 8 3 = yW 4 (fun l => φ (C l)) 7 2 - φ (C 3) * yW 4 (fun l => φ (C l)) 7 3 := rfl
  have w9_0 : yW 4 (fun l => φ (C l)) 9 0 = 0 - φ (C 0) * yW 4 (fun l => φ (C l)) 8 3 := rfl
  have w9_1 : yW 4 (fun l => φ (C l)) 9 1 = yW 4 (fun l => φ (C l)) 8 0 - φ (C 1) * yW 4 (fun l => φ (C l)) 8 3 := rfl
  have w9_2 : yW 4 (fun l => φ (C l)) 9 2 = yW 4 (fun l => φ (C l)) 8 1 - φ (C 2) * yW 4 (fun l => φ (C l)) 8 3 := rfl
  have w9_3 : yW 4 (fun l => φ (C l)) 9 3 = yW 4 (fun l => φ (C l)) 8 2 - φ (C 3) * yW 4 (fun l => φ (C l)) 8 3 := rfl
  rw [s0, s1, s2, s3, s4, s5, s6]
  generalize yW 4 (fun l => φ (C l)) 0 0 = u0_0 at *
  generalize yW 4 (fun l => φ (C l)) 0 1 = u0_1 at *
  generalize yW 4 (fun l => φ (C l)) 0 2 = u0_2 at *
  generalize yW 4 (fun l => φ (C l)) 0 3 = u0_3 at *
  generalize yW 4 (fun l => φ (C l)) 1 0 = u1_0 at *
  generalize yW 4 (fun l => φ (C l)) 1 1 = u1_1 at *
  generalize yW 4 (fun l => φ (C l)) 1 2 = u1_2 at *
  generalize yW 4 (fun l => φ (C l)) 1 3 = u1_3 at *
  generalize yW 4 (fun l => φ (C l)) 2 0 = u2_0 at *
  generalize yW 4 (fun l => φ (C l)) 2 1 = u2_1 at *
  generalize yW 4 (fun l => φ (C l)) 2 2 = u2_2 at *
  generalize yW 4 (fun l => φ (C l)) 2 3 = u2_3 at *
  generalize yW 4 (fun l => φ (C l)) 3 0 = u3_0 at *
  generalize yW 4 (fun l => φ (C l)) 3 1 = u3_1 at *
  generalize yW 4 (fun l => φ (C l)) 3 2 = u3_2 at *
  generalize yW 4 (fun l => φ (C l)) 3 3 = u3_3 at *
  generalize yW 4 (fun l => φ (C l)) 4 0 = u4_0 at *
  generalize yW 4 (fun l => φ (C l)) 4 1 = u4_1 at *
  generalize yW 4 (fun l => φ (C l)) 4 2 = u4_2 at *
  generalize yW 4 (fun l => φ (C l)) 4 3 = u4_3 at *
  generalize yW 4 (fun l => φ (C l)) 5 0 = u5_0 at *
  generalize yW 4 (fun l => φ (C l)) 5 1 = u5_1 at *
  generalize yW 4 (fun l => φ (C l)) 5 2 = u5_2 at *
  generalize yW 4 (fun l => φ (C l)) 5 3 = u5_3 at *
  generalize yW 4 (fun l => φ (C l)) 6 0 = u6_0 at *
  generalize yW 4 (fun l => φ (C l)) 6 1 = u6_1 at *
  generalize yW 4 (fun l => φ (C l)) 6 2 = u6_2 at *
  generalize yW 4 (fun l => φ (C l)) 6 3 = u6_3 at *
  generalize yW 4 (fun l => φ (C l)) 7 0 = u7_0 at *
  generalize yW 4 (fun l => φ (C l)) 7 1 = u7_1 at *
  generalize yW 4 (fun l => φ (C l)) 7 2 = u7_2 at *
  generalize yW 4 (fun l => φ (C l)) 7 3 = u7_3 at *
  generalize yW 4 (fun l => φ (C l)) 8 0 = u8_0 at *
  generalize yW 4 (fun l => φ (C l)) 8 1 = u8_1 at *
  generalize yW 4 (fun l => φ (C l)) 8 2 = u8_2 at *
  generalize yW 4 (fun l => φ (C l)) 8 3 = u8_3 at *
  generalize yW 4 (fun l => φ (C l)) 9 0 = u9_0 at *
  generalize yW 4 (fun l => φ (C l)) 9 1 = u9_1 at *
  generalize yW 4 (fun l => φ (C l)) 9 2 = u9_2 at *
  generalize yW 4 (fun l => φ (C l)) 9 3 = u9_3 at *
  generalize φ (P 0) = q0 at *
  generalize φ (P 1) = q1 at *
  generalize φ (P 2) = q2 at *
  generalize φ (P 3) = q3 at *
  generalize φ (P 4) = q4 at *
  generalize φ (P 5) = q5 at *
  generalize φ (P 6) = q6 at *
  generalize φ (nC 1) = m1 at *
  generalize φ (nC 2) = m2 at *
  generalize φ (nC 3) = m3 at *
  generalize φ (nC 4) = m4 at *
  generalize φ (C 0) = c0 at *
  generalize φ (C 1) = c1 at *
  generalize φ (C 2) = c2 at *
  generalize φ (C 3) = c3 at *
  clear s0 s1 s2 s3 s4 s5 s6
  subst n1
  subst n2
  subst n3
  subst n4
  subst w0_0
  subst w0_1
  subst w0_2
  subst w0_3
  subst w1_0
  subst w1_1
  subst w1_2
  subst w1_3
  subst w2_0
  subst w2_1
  subst w2_2
  subst w2_3
  subst w3_0
  subst w3_1
  subst w3_2
  subst w3_3
  subst w4_0
  subst w4_1
  subst w4_2
  subst w4_3
  subst w5_0
  subst w5_1
  subst w5_2
  subst w5_3
  subst w6_0
  subst w6_1
  subst w6_2
  subst w6_3
  subst w7_0
  subst w7_1
  subst w7_2
  subst w7_3
  subst w8_0
  subst w8_1
  subst w8_2
  subst w8_3
  subst w9_0
  subst w9_1
  subst w9_2
  subst w9_3
  subst p0
  subst p1
  subst p2
  subst p3
  subst p4
  subst p5
  subst p6
  refine ⟨?_, ?_, ?_, ?_, ?_, ?_, ?_⟩ <;> grind
