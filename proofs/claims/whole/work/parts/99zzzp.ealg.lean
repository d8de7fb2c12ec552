/-! The ring of a curve: sums of a_l y^l, l below n. -/
def su {E : Type} [I : Lean.Grind.CommRing E] : Nat → (Int → E) → E
  | 0, _ => 0
  | n + 1, f => su n f + f n
def ALG {O E : Type} [I : Lean.Grind.CommRing O] [J : Lean.Grind.CommRing E] (n : Nat) (c : Int → O) (ι : O → E) (y : E) : Prop := (∀ a b, ι (a + b) = ι a + ι b) ∧ (∀ a b, ι (a * b) = ι a * ι b) ∧ ι 1 = 1 ∧ (∀ e, ∃ v : Int → O, e = su n (fun l => ι (v l) * y ^ l.toNat)) ∧ (∀ v : Int → O, su n (fun l => ι (v l) * y ^ l.toNat) = 0 → ∀ l, 0 ≤ l → l < n → v l = 0) ∧ y ^ n = - su n (fun l => ι (c l) * y ^ l.toNat)
def e2a {O : Type} [I : Lean.Grind.CommRing O] (u v : O × O) : O × O := (u.1 + v.1, u.2 + v.2)
def e2n {O : Type} [I : Lean.Grind.CommRing O] (u : O × O) : O × O := (- u.1, - u.2)
def e2m {O : Type} [I : Lean.Grind.CommRing O] (c0 c1 : O) (u v : O × O) : O × O :=
  let r2 := u.2 * v.2
  (u.1 * v.1 - c0 * r2, u.1 * v.2 + u.2 * v.1 - c1 * r2)
set_option maxHeartbeats 4000000 in
theorem e2_a0 {O : Type} [I : Lean.Grind.CommRing O] (c0 c1 : O) (a0 a1 : O) : e2a (a0, a1) (0, 0) = (a0, a1) := by
  simp only [e2a, e2n, e2m]
  refine Prod.ext ?_ ?_ <;> grind
set_option maxHeartbeats 4000000 in
theorem e2_ac {O : Type} [I : Lean.Grind.CommRing O] (c0 c1 : O) (a0 a1 b0 b1 : O) : e2a (a0, a1) (b0, b1) = e2a (b0, b1) (a0, a1) := by
  simp only [e2a, e2n, e2m]
  refine Prod.ext ?_ ?_ <;> grind
set_option maxHeartbeats 4000000 in
theorem e2_aa {O : Type} [I : Lean.Grind.CommRing O] (c0 c1 : O) (a0 a1 b0 b1 d0 d1 : O) : e2a (e2a (a0, a1) (b0, b1)) (d0, d1) = e2a (a0, a1) (e2a (b0, b1) (d0, d1)) := by
  simp only [e2a, e2n, e2m]
  refine Prod.ext ?_ ?_ <;> grind
set_option maxHeartbeats 4000000 in
theorem e2_mc {O : Type} [I : Lean.Grind.CommRing O] (c0 c1 : O) (a0 a1 b0 b1 : O) : e2m c0 c1 (a0, a1) (b0, b1) = e2m c0 c1 (b0, b1) (a0, a1) := by
  simp only [e2a, e2n, e2m]
  refine Prod.ext ?_ ?_ <;> grind
set_option maxHeartbeats 4000000 in
theorem e2_ma {O : Type} [I : Lean.Grind.CommRing O] (c0 c1 : O) (a0 a1 b0 b1 d0 d1 : O) : e2m c0 c1 (e2m c0 c1 (a0, a1) (b0, b1)) (d0, d1) = e2m c0 c1 (a0, a1) (e2m c0 c1 (b0, b1) (d0, d1)) := by
  simp only [e2a, e2n, e2m]
  refine Prod.ext ?_ ?_ <;> grind
set_option maxHeartbeats 4000000 in
theorem e2_m1 {O : Type} [I : Lean.Grind.CommRing O] (c0 c1 : O) (a0 a1 : O) : e2m c0 c1 (a0, a1) (1, 0) = (a0, a1) := by
  simp only [e2a, e2n, e2m]
  refine Prod.ext ?_ ?_ <;> grind
set_option maxHeartbeats 4000000 in
theorem e2_md {O : Type} [I : Lean.Grind.CommRing O] (c0 c1 : O) (a0 a1 b0 b1 d0 d1 : O) : e2m c0 c1 (a0, a1) (e2a (b0, b1) (d0, d1)) = e2a (e2m c0 c1 (a0, a1) (b0, b1)) (e2m c0 c1 (a0, a1) (d0, d1)) := by
  simp only [e2a, e2n, e2m]
  refine Prod.ext ?_ ?_ <;> grind
set_option maxHeartbeats 4000000 in
theorem e2_m0 {O : Type} [I : Lean.Grind.CommRing O] (c0 c1 : O) (a0 a1 : O) : e2m c0 c1 (0, 0) (a0, a1) = (0, 0) := by
  simp only [e2a, e2n, e2m]
  refine Prod.ext ?_ ?_ <;> grind
set_option maxHeartbeats 4000000 in
theorem e2_na {O : Type} [I : Lean.Grind.CommRing O] (c0 c1 : O) (a0 a1 : O) : e2a (e2n (a0, a1)) (a0, a1) = (0, 0) := by
  simp only [e2a, e2n, e2m]
  refine Prod.ext ?_ ?_ <;> grind
def e2R {O : Type} [I : Lean.Grind.CommRing O] (c0 c1 : O) : Lean.Grind.CommRing (O × O) := mkRing (O × O) e2a (e2m c0 c1) e2n (0, 0) (1, 0) (fun qa => e2_a0 c0 c1 qa.1 qa.2) (fun qa qb => e2_ac c0 c1 qa.1 qa.2 qb.1 qb.2) (fun qa qb qd => e2_aa c0 c1 qa.1 qa.2 qb.1 qb.2 qd.1 qd.2) (fun qa qb => e2_mc c0 c1 qa.1 qa.2 qb.1 qb.2) (fun qa qb qd => e2_ma c0 c1 qa.1 qa.2 qb.1 qb.2 qd.1 qd.2) (fun qa => e2_m1 c0 c1 qa.1 qa.2) (fun qa qb qd => e2_md c0 c1 qa.1 qa.2 qb.1 qb.2 qd.1 qd.2) (fun qa => e2_m0 c0 c1 qa.1 qa.2) (fun qa => e2_na c0 c1 qa.1 qa.2)
set_option maxHeartbeats 4000000 in
theorem e2_su {O : Type} [I : Lean.Grind.CommRing O] (c0 c1 x0 x1 : O) : (e2a (e2a (0, 0) (e2m c0 c1 (x0, 0) (e2a (0, 0) (1, 0)))) (e2m c0 c1 (x1, 0) (e2m c0 c1 (e2a (0, 0) (1, 0)) (0, 1)))) = (x0, x1) := by
  simp only [e2a, e2m]
  refine Prod.ext ?_ ?_ <;> grind
set_option maxHeartbeats 4000000 in
theorem e2_yy {O : Type} [I : Lean.Grind.CommRing O] (c0 c1 : O) : (e2m c0 c1 (e2a (0, 0) (1, 0)) (0, 1)) = (0, 1) := by
  simp only [e2a, e2m]
  refine Prod.ext ?_ ?_ <;> grind
theorem e2_y {O : Type} [I : Lean.Grind.CommRing O] (c0 c1 : O) : e2m c0 c1 (0, 1) (0, 1) = (- c0, - c1) := by
  simp only [e2a, e2m]
  refine Prod.ext ?_ ?_ <;> grind
theorem alg_ex2 {O : Type} [I : Lean.Grind.CommRing O] (c : Int → O) : ∃ (E : Type) (J : Lean.Grind.CommRing E) (ι : O → E) (y : E), ALG 2 c ι y := by
  refine ⟨O × O, e2R (c 0) (c 1), fun a => (a, 0), (0, 1), ?_⟩
  have hs : ∀ v : Int → O, @su (O × O) (e2R (c 0) (c 1)) 2 (fun l => (e2R (c 0) (c 1)).toMul.mul (v l, 0) ((e2R (c 0) (c 1)).npow.hPow (0, 1) l.toNat)) = (v 0, v 1) := fun v => e2_su (c 0) (c 1) (v 0) (v 1)
  refine ⟨fun a b => ?_, fun a b => ?_, ?_, fun e => ⟨fun l => if l = 0 then e.1 else e.2, ?_⟩, fun v h l l0 l1 => ?_, ?_⟩
  · show (a + b, 0) = e2a (a, 0) (b, 0)
    simp only [e2a]
    refine Prod.ext ?_ ?_ <;> grind
  · show (a * b, 0) = e2m (c 0) (c 1) (a, 0) (b, 0)
    simp only [e2m]
    refine Prod.ext ?_ ?_ <;> grind
  · show (1, 0) = e2a (0, 0) (1, 0)
    simp only [e2a]
    refine Prod.ext ?_ ?_ <;> grind
  · refine Eq.trans ?_ (hs (fun l => if l = 0 then e.1 else e.2)).symm
    rfl
  · have h : (v 0, v 1) = (0, 0) := (hs v).symm.trans h
    simp only [Prod.mk.injEq] at h
    rcases (show l = 0 ∨ l = 1 by omega) with rfl | rfl
    · exact h.1
    · exact h.2
  · have y1 : (e2R (c 0) (c 1)).npow.hPow (0, 1) 1 = (0, 1) := e2_yy (c 0) (c 1)
    have y2 : (e2R (c 0) (c 1)).npow.hPow (0, 1) 2 = e2m (c 0) (c 1) ((e2R (c 0) (c 1)).npow.hPow (0, 1) 1) (0, 1) := rfl
    rw [y1, e2_y] at y2
    refine Eq.trans y2 ?_
    have e := hs c
    refine Eq.trans ?_ (congrArg e2n e).symm
    rfl
def e3a {O : Type} [I : Lean.Grind.CommRing O] (u v : O × O × O) : O × O × O := (u.1 + v.1, u.2.1 + v.2.1, u.2.2 + v.2.2)
def e3n {O : Type} [I : Lean.Grind.CommRing O] (u : O × O × O) : O × O × O := (- u.1, - u.2.1, - u.2.2)
def e3m {O : Type} [I : Lean.Grind.CommRing O] (c0 c1 c2 : O) (u v : O × O × O) : O × O × O :=
  let r4 := u.2.2 * v.2.2
  let r3 := u.2.1 * v.2.2 + u.2.2 * v.2.1 - c2 * r4
  (u.1 * v.1 - c0 * r3, u.1 * v.2.1 + u.2.1 * v.1 - c0 * r4 - c1 * r3, u.1 * v.2.2 + u.2.1 * v.2.1 + u.2.2 * v.1 - c1 * r4 - c2 * r3)
set_option maxHeartbeats 4000000 in
theorem e3_a0 {O : Type} [I : Lean.Grind.CommRing O] (c0 c1 c2 : O) (a0 a1 a2 : O) : e3a (a0, a1, a2) (0, 0, 0) = (a0, a1, a2) := by
  simp only [e3a, e3n, e3m]
  refine Prod.ext ?_ (Prod.ext ?_ ?_) <;> grind
set_option maxHeartbeats 4000000 in
theorem e3_ac {O : Type} [I : Lean.Grind.CommRing O] (c0 c1 c2 : O) (a0 a1 a2 b0 b1 b2 : O) : e3a (a0, a1, a2) (b0, b1, b2) = e3a (b0, b1, b2) (a0, a1, a2) := by
  simp only [e3a, e3n, e3m]
  refine Prod.ext ?_ (Prod.ext ?_ ?_) <;> grind
set_option maxHeartbeats 4000000 in
theorem e3_aa {O : Type} [I : Lean.Grind.CommRing O] (c0 c1 c2 : O) (a0 a1 a2 b0 b1 b2 d0 d1 d2 : O) : e3a (e3a (a0, a1, a2) (b0, b1, b2)) (d0, d1, d2) = e3a (a0, a1, a2) (e3a (b0, b1, b2) (d0, d1, d2)) := by
  simp only [e3a, e3n, e3m]
  refine Prod.ext ?_ (Prod.ext ?_ ?_) <;> grind
set_option maxHeartbeats 4000000 in
theorem e3_mc {O : Type} [I : Lean.Grind.CommRing O] (c0 c1 c2 : O) (a0 a1 a2 b0 b1 b2 : O) : e3m c0 c1 c2 (a0, a1, a2) (b0, b1, b2) = e3m c0 c1 c2 (b0, b1, b2) (a0, a1, a2) := by
  simp only [e3a, e3n, e3m]
  refine Prod.ext ?_ (Prod.ext ?_ ?_) <;> grind
set_option maxHeartbeats 4000000 in
theorem e3_ma {O : Type} [I : Lean.Grind.CommRing O] (c0 c1 c2 : O) (a0 a1 a2 b0 b1 b2 d0 d1 d2 : O) : e3m c0 c1 c2 (e3m c0 c1 c2 (a0, a1, a2) (b0, b1, b2)) (d0, d1, d2) = e3m c0 c1 c2 (a0, a1, a2) (e3m c0 c1 c2 (b0, b1, b2) (d0, d1, d2)) := by
  simp only [e3a, e3n, e3m]
  refine Prod.ext ?_ (Prod.ext ?_ ?_) <;> grind
set_option maxHeartbeats 4000000 in
theorem e3_m1 {O : Type} [I : Lean.Grind.CommRing O] (c0 c1 c2 : O) (a0 a1 a2 : O) : e3m c0 c1 c2 (a0, a1, a2) (1, 0, 0) = (a0, a1, a2) := by
  simp only [e3a, e3n, e3m]
  refine Prod.ext ?_ (Prod.ext ?_ ?_) <;> grind
set_option maxHeartbeats 4000000 in
theorem e3_md {O : Type} [I : Lean.Grind.CommRing O] (c0 c1 c2 : O) (a0 a1 a2 b0 b1 b2 d0 d1 d2 : O) : e3m c0 c1 c2 (a0, a1, a2) (e3a (b0, b1, b2) (d0, d1, d2)) = e3a (e3m c0 c1 c2 (a0, a1, a2) (b0, b1, b2)) (e3m c0 c1 c2 (a0, a1, a2) (d0, d1, d2)) := by
  simp only [e3a, e3n, e3m]
  refine Prod.ext ?_ (Prod.ext ?_ ?_) <;> grind
set_option maxHeartbeats 4000000 in
theorem e3_m0 {O : Type} [I : Lean.Grind.CommRing O] (c0 c1 c2 : O) (a0 a1 a2 : O) : e3m c0 c1 c2 (0, 0, 0) (a0, a1, a2) = (0, 0, 0) := by
  simp only [e3a, e3n, e3m]
  refine Prod.ext ?_ (Prod.ext ?_ ?_) <;> grind
set_option maxHeartbeats 4000000 in
theorem e3_na {O : Type} [I : Lean.Grind.CommRing O] (c0 c1 c2 : O) (a0 a1 a2 : O) : e3a (e3n (a0, a1, a2)) (a0, a1, a2) = (0, 0, 0) := by
  simp only [e3a, e3n, e3m]
  refine Prod.ext ?_ (Prod.ext ?_ ?_) <;> grind
def e3R {O : Type} [I : Lean.Grind.CommRing O] (c0 c1 c2 : O) : Lean.Grind.CommRing (O × O × O) := mkRing (O × O × O) e3a (e3m c0 c1 c2) e3n (0, 0, 0) (1, 0, 0) (fun qa => e3_a0 c0 c1 c2 qa.1 qa.2.1 qa.2.2) (fun qa qb => e3_ac c0 c1 c2 qa.1 qa.2.1 qa.2.2 qb.1 qb.2.1 qb.2.2) (fun qa qb qd => e3_aa c0 c1 c2 qa.1 qa.2.1 qa.2.2 qb.1 qb.2.1 qb.2.2 qd.1 qd.2.1 qd.2.2) (fun qa qb => e3_mc c0 c1 c2 qa.1 qa.2.1 qa.2.2 qb.1 qb.2.1 qb.2.2) (fun qa qb qd => e3_ma c0 c1 c2 qa.1 qa.2.1 qa.2.2 qb.1 qb.2.1 qb.2.2 qd.1 qd.2.1 qd.2.2) (fun qa => e3_m1 c0 c1 c2 qa.1 qa.2.1 qa.2.2) (fun qa qb qd => e3_md c0 c1 c2 qa.1 qa.2.1 qa.2.2 qb.1 qb.2.1 qb.2.2 qd.1 qd.2.1 qd.2.2) (fun qa => e3_m0 c0 c1 c2 qa.1 qa.2.1 qa.2.2) (fun qa => e3_na c0 c1 c2 qa.1 qa.2.1 qa.2.2)
set_option maxHeartbeats 4000000 in
theorem e3_su {O : Type} [I : Lean.Grind.CommRing O] (c0 c1 c2 x0 x1 x2 : O) : (e3a (e3a (e3a (0, 0, 0) (e3m c0 c1 c2 (x0, 0, 0) (e3a (0, 0, 0) (1, 0, 0)))) (e3m c0 c1 c2 (x1, 0, 0) (e3m c0 c1 c2 (e3a (0, 0, 0) (1, 0, 0)) (0, 1, 0)))) (e3m c0 c1 c2 (x2, 0, 0) (e3m c0 c1 c2 (e3m c0 c1 c2 (e3a (0, 0, 0) (1, 0, 0)) (0, 1, 0)) (0, 1, 0)))) = (x0, x1, x2) := by
  simp only [e3a, e3m]
  refine Prod.ext ?_ (Prod.ext ?_ ?_) <;> grind
set_option maxHeartbeats 4000000 in
theorem e3_yy {O : Type} [I : Lean.Grind.CommRing O] (c0 c1 c2 : O) : (e3m c0 c1 c2 (e3m c0 c1 c2 (e3a (0, 0, 0) (1, 0, 0)) (0, 1, 0)) (0, 1, 0)) = (0, 0, 1) := by
  simp only [e3a, e3m]
  refine Prod.ext ?_ (Prod.ext ?_ ?_) <;> grind
theorem e3_y {O : Type} [I : Lean.Grind.CommRing O] (c0 c1 c2 : O) : e3m c0 c1 c2 (0, 0, 1) (0, 1, 0) = (- c0, - c1, - c2) := by
  simp only [e3a, e3m]
  refine Prod.ext ?_ (Prod.ext ?_ ?_) <;> grind
theorem alg_ex3 {O : Type} [I : Lean.Grind.CommRing O] (c : Int → O) : ∃ (E : Type) (J : Lean.Grind.CommRing E) (ι : O → E) (y : E), ALG 3 c ι y := by
  refine ⟨O × O × O, e3R (c 0) (c 1) (c 2), fun a => (a, 0, 0), (0, 1, 0), ?_⟩
  have hs : ∀ v : Int → O, @su (O × O × O) (e3R (c 0) (c 1) (c 2)) 3 (fun l => (e3R (c 0) (c 1) (c 2)).toMul.mul (v l, 0, 0) ((e3R (c 0) (c 1) (c 2)).npow.hPow (0, 1, 0) l.toNat)) = (v 0, v 1, v 2) := fun v => e3_su (c 0) (c 1) (c 2) (v 0) (v 1) (v 2)
  refine ⟨fun a b => ?_, fun a b => ?_, ?_, fun e => ⟨fun l => if l = 0 then e.1 else if l = 1 then e.2.1 else e.2.2, ?_⟩, fun v h l l0 l1 => ?_, ?_⟩
  · show (a + b, 0, 0) = e3a (a, 0, 0) (b, 0, 0)
    simp only [e3a]
    refine Prod.ext ?_ (Prod.ext ?_ ?_) <;> grind
  · show (a * b, 0, 0) = e3m (c 0) (c 1) (c 2) (a, 0, 0) (b, 0, 0)
    simp only [e3m]
    refine Prod.ext ?_ (Prod.ext ?_ ?_) <;> grind
  · show (1, 0, 0) = e3a (0, 0, 0) (1, 0, 0)
    simp only [e3a]
    refine Prod.ext ?_ (Prod.ext ?_ ?_) <;> grind
  · refine Eq.trans ?_ (hs (fun l => if l = 0 then e.1 else if l = 1 then e.2.1 else e.2.2)).symm
    rfl
  · have h : (v 0, v 1, v 2) = (0, 0, 0) := (hs v).symm.trans h
    simp only [Prod.mk.injEq] at h
    rcases (show l = 0 ∨ l = 1 ∨ l = 2 by omega) with rfl | rfl | rfl
    · exact h.1
    · exact h.2.1
    · exact h.2.2
  · have y1 : (e3R (c 0) (c 1) (c 2)).npow.hPow (0, 1, 0) 2 = (0, 0, 1) := e3_yy (c 0) (c 1) (c 2)
    have y2 : (e3R (c 0) (c 1) (c 2)).npow.hPow (0, 1, 0) 3 = e3m (c 0) (c 1) (c 2) ((e3R (c 0) (c 1) (c 2)).npow.hPow (0, 1, 0) 2) (0, 1, 0) := rfl
    rw [y1, e3_y] at y2
    refine Eq.trans y2 ?_
    have e := hs c
    refine Eq.trans ?_ (congrArg e3n e).symm
    rfl
def e4a {O : Type} [I : Lean.Grind.CommRing O] (u v : O × O × O × O) : O × O × O × O := (u.1 + v.1, u.2.1 + v.2.1, u.2.2.1 + v.2.2.1, u.2.2.2 + v.2.2.2)
def e4n {O : Type} [I : Lean.Grind.CommRing O] (u : O × O × O × O) : O × O × O × O := (- u.1, - u.2.1, - u.2.2.1, - u.2.2.2)
def e4m {O : Type} [I : Lean.Grind.CommRing O] (c0 c1 c2 c3 : O) (u v : O × O × O × O) : O × O × O × O :=
  let r6 := u.2.2.2 * v.2.2.2
  let r5 := u.2.2.1 * v.2.2.2 + u.2.2.2 * v.2.2.1 - c3 * r6
  let r4 := u.2.1 * v.2.2.2 + u.2.2.1 * v.2.2.1 + u.2.2.2 * v.2.1 - c2 * r6 - c3 * r5
  (u.1 * v.1 - c0 * r4, u.1 * v.2.1 + u.2.1 * v.1 - c0 * r5 - c1 * r4, u.1 * v.2.2.1 + u.2.1 * v.2.1 + u.2.2.1 * v.1 - c0 * r6 - c1 * r5 - c2 * r4, u.1 * v.2.2.2 + u.2.1 * v.2.2.1 + u.2.2.1 * v.2.1 + u.2.2.2 * v.1 - c1 * r6 - c2 * r5 - c3 * r4)
set_option maxHeartbeats 4000000 in
theorem e4_a0 {O : Type} [I : Lean.Grind.CommRing O] (c0 c1 c2 c3 : O) (a0 a1 a2 a3 : O) : e4a (a0, a1, a2, a3) (0, 0, 0, 0) = (a0, a1, a2, a3) := by
  simp only [e4a, e4n, e4m]
  refine Prod.ext ?_ (Prod.ext ?_ (Prod.ext ?_ ?_)) <;> grind
set_option maxHeartbeats 4000000 in
theorem e4_ac {O : Type} [I : Lean.Grind.CommRing O] (c0 c1 c2 c3 : O) (a0 a1 a2 a3 b0 b1 b2 b3 : O) : e4a (a0, a1, a2, a3) (b0, b1, b2, b3) = e4a (b0, b1, b2, b3) (a0, a1, a2, a3) := by
  simp only [e4a, e4n, e4m]
  refine Prod.ext ?_ (Prod.ext ?_ (Prod.ext ?_ ?_)) <;> grind
set_option maxHeartbeats 4000000 in
theorem e4_aa {O : Type} [I : Lean.Grind.CommRing O] (c0 c1 c2 c3 : O) (a0 a1 a2 a3 b0 b1 b2 b3 d0 d1 d2 d3 : O) : e4a (e4a (a0, a1, a2, a3) (b0, b1, b2, b3)) (d0, d1, d2, d3) = e4a (a0, a1, a2, a3) (e4a (b0, b1, b2, b3) (d0, d1, d2, d3)) := by
  simp only [e4a, e4n, e4m]
  refine Prod.ext ?_ (Prod.ext ?_ (Prod.ext ?_ ?_)) <;> grind
set_option maxHeartbeats 4000000 in
theorem e4_mc {O : Type} [I : Lean.Grind.CommRing O] (c0 c1 c2 c3 : O) (a0 a1 a2 a3 b0 b1 b2 b3 : O) : e4m c0 c1 c2 c3 (a0, a1, a2, a3) (b0, b1, b2, b3) = e4m c0 c1 c2 c3 (b0, b1, b2, b3) (a0, a1, a2, a3) := by
  simp only [e4a, e4n, e4m]
  refine Prod.ext ?_ (Prod.ext ?_ (Prod.ext ?_ ?_)) <;> grind
set_option maxHeartbeats 4000000 in
theorem e4_ma {O : Type} [I : Lean.Grind.CommRing O] (c0 c1 c2 c3 : O) (a0 a1 a2 a3 b0 b1 b2 b3 d0 d1 d2 d3 : O) : e4m c0 c1 c2 c3 (e4m c0 c1 c2 c3 (a0, a1, a2, a3) (b0, b1, b2, b3)) (d0, d1, d2, d3) = e4m c0 c1 c2 c3 (a0, a1, a2, a3) (e4m c0 c1 c2 c3 (b0, b1, b2, b3) (d0, d1, d2, d3)) := by
  simp only [e4a, e4n, e4m]
  refine Prod.ext ?_ (Prod.ext ?_ (Prod.ext ?_ ?_)) <;> grind
set_option maxHeartbeats 4000000 in
theorem e4_m1 {O : Type} [I : Lean.Grind.CommRing O] (c0 c1 c2 c3 : O) (a0 a1 a2 a3 : O) : e4m c0 c1 c2 c3 (a0, a1, a2, a3) (1, 0, 0, 0) = (a0, a1, a2, a3) := by
  simp only [e4a, e4n, e4m]
  refine Prod.ext ?_ (Prod.ext ?_ (Prod.ext ?_ ?_)) <;> grind
set_option maxHeartbeats 4000000 in
theorem e4_md {O : Type} [I : Lean.Grind.CommRing O] (c0 c1 c2 c3 : O) (a0 a1 a2 a3 b0 b1 b2 b3 d0 d1 d2 d3 : O) : e4m c0 c1 c2 c3 (a0, a1, a2, a3) (e4a (b0, b1, b2, b3) (d0, d1, d2, d3)) = e4a (e4m c0 c1 c2 c3 (a0, a1, a2, a3) (b0, b1, b2, b3)) (e4m c0 c1 c2 c3 (a0, a1, a2, a3) (d0, d1, d2, d3)) := by
  simp only [e4a, e4n, e4m]
  refine Prod.ext ?_ (Prod.ext ?_ (Prod.ext ?_ ?_)) <;> grind
set_option maxHeartbeats 4000000 in
theorem e4_m0 {O : Type} [I : Lean.Grind.CommRing O] (c0 c1 c2 c3 : O) (a0 a1 a2 a3 : O) : e4m c0 c1 c2 c3 (0, 0, 0, 0) (a0, a1, a2, a3) = (0, 0, 0, 0) := by
  simp only [e4a, e4n, e4m]
  refine Prod.ext ?_ (Prod.ext ?_ (Prod.ext ?_ ?_)) <;> grind
set_option maxHeartbeats 4000000 in
theorem e4_na {O : Type} [I : Lean.Grind.CommRing O] (c0 c1 c2 c3 : O) (a0 a1 a2 a3 : O) : e4a (e4n (a0, a1, a2, a3)) (a0, a1, a2, a3) = (0, 0, 0, 0) := by
  simp only [e4a, e4n, e4m]
  refine Prod.ext ?_ (Prod.ext ?_ (Prod.ext ?_ ?_)) <;> grind
def e4R {O : Type} [I : Lean.Grind.CommRing O] (c0 c1 c2 c3 : O) : Lean.Grind.CommRing (O × O × O × O) := mkRing (O × O × O × O) e4a (e4m c0 c1 c2 c3) e4n (0, 0, 0, 0) (1, 0, 0, 0) (fun qa => e4_a0 c0 c1 c2 c3 qa.1 qa.2.1 qa.2.2.1 qa.2.2.2) (fun qa qb => e4_ac c0 c1 c2 c3 qa.1 qa.2.1 qa.2.2.1 qa.2.2.2 qb.1 qb.2.1 qb.2.2.1 qb.2.2.2) (fun qa qb qd => e4_aa c0 c1 c2 c3 qa.1 qa.2.1 qa.2.2.1 qa.2.2.2 qb.1 qb.2.1 qb.2.2.1 qb.2.2.2 qd.1 qd.2.1 qd.2.2.1 qd.2.2.2) (fun qa qb => e4_mc c0 c1 c2 c3 qa.1 qa.2.1 qa.2.2.1 qa.2.2.2 qb.1 qb.2.1 qb.2.2.1 qb.2.2.2) (fun qa qb qd => e4_ma c0 c1 c2 c3 qa.1 qa.2.1 qa.2.2.1 qa.2.2.2 qb.1 qb.2.1 qb.2.2.1 qb.2.2.2 qd.1 qd.2.1 qd.2.2.1 qd.2.2.2) (fun qa => e4_m1 c0 c1 c2 c3 qa.1 qa.2.1 qa.2.2.1 qa.2.2.2) (fun qa qb qd => e4_md c0 c1 c2 c3 qa.1 qa.2.1 qa.2.2.1 qa.2.2.2 qb.1 qb.2.1 qb.2.2.1 qb.2.2.2 qd.1 qd.2.1 qd.2.2.1 qd.2.2.2) (fun qa => e4_m0 c0 c1 c2 c3 qa.1 qa.2.1 qa.2.2.1 qa.2.2.2) (fun qa => e4_na c0 c1 c2 c3 qa.1 qa.2.1 qa.2.2.1 qa.2.2.2)
set_option maxHeartbeats 4000000 in
theorem e4_su {O : Type} [I : Lean.Grind.CommRing O] (c0 c1 c2 c3 x0 x1 x2 x3 : O) : (e4a (e4a (e4a (e4a (0, 0, 0, 0) (e4m c0 c1 c2 c3 (x0, 0, 0, 0) (e4a (0, 0, 0, 0) (1, 0, 0, 0)))) (e4m c0 c1 c2 c3 (x1, 0, 0, 0) (e4m c0 c1 c2 c3 (e4a (0, 0, 0, 0) (1, 0, 0, 0)) (0, 1, 0, 0)))) (e4m c0 c1 c2 c3 (x2, 0, 0, 0) (e4m c0 c1 c2 c3 (e4m c0 c1 c2 c3 (e4a (0, 0, 0, 0) (1, 0, 0, 0)) (0, 1, 0, 0)) (0, 1, 0, 0)))) (e4m c0 c1 c2 c3 (x3, 0, 0, 0) (e4m c0 c1 c2 c3 (e4m c0 c1 c2 c3 (e4m c0 c1 c2 c3 (e4a (0, 0, 0, 0) (1, 0, 0, 0)) (0, 1, 0, 0)) (0, 1, 0, 0)) (0, 1, 0, 0)))) = (x0, x1, x2, x3) := by
  simp only [e4a, e4m]
  refine Prod.ext ?_ (Prod.ext ?_ (Prod.ext ?_ ?_)) <;> grind
set_option maxHeartbeats 4000000 in
theorem e4_yy {O : Type} [I : Lean.Grind.CommRing O] (c0 c1 c2 c3 : O) : (e4m c0 c1 c2 c3 (e4m c0 c1 c2 c3 (e4m c0 c1 c2 c3 (e4a (0, 0, 0, 0) (1, 0, 0, 0)) (0, 1, 0, 0)) (0, 1, 0, 0)) (0, 1, 0, 0)) = (0, 0, 0, 1) := by
  simp only [e4a, e4m]
  refine Prod.ext ?_ (Prod.ext ?_ (Prod.ext ?_ ?_)) <;> grind
theorem e4_y {O : Type} [I : Lean.Grind.CommRing O] (c0 c1 c2 c3 : O) : e4m c0 c1 c2 c3 (0, 0, 0, 1) (0, 1, 0, 0) = (- c0, - c1, - c2, - c3) := by
  simp only [e4a, e4m]
  refine Prod.ext ?_ (Prod.ext ?_ (Prod.ext ?_ ?_)) <;> grind
theorem alg_ex4 {O : Type} [I : Lean.Grind.CommRing O] (c : Int → O) : ∃ (E : Type) (J : Lean.Grind.CommRing E) (ι : O → E) (y : E), ALG 4 c ι y := by
  refine ⟨O × O × O × O, e4R (c 0) (c 1) (c 2) (c 3), fun a => (a, 0, 0, 0), (0, 1, 0, 0), ?_⟩
  have hs : ∀ v : Int → O, @su (O × O × O × O) (e4R (c 0) (c 1) (c 2) (c 3)) 4 (fun l => (e4R (c 0) (c 1) (c 2) (c 3)).toMul.mul (v l, 0, 0, 0) ((e4R (c 0) (c 1) (c 2) (c 3)).npow.hPow (0, 1, 0, 0) l.toNat)) = (v 0, v 1, v 2, v 3) := fun v => e4_su (c 0) (c 1) (c 2) (c 3) (v 0) (v 1) (v 2) (v 3)
  refine ⟨fun a b => ?_, fun a b => ?_, ?_, fun e => ⟨fun l => if l = 0 then e.1 else if l = 1 then e.2.1 else if l = 2 then e.2.2.1 else e.2.2.2, ?_⟩, fun v h l l0 l1 => ?_, ?_⟩
  · show (a + b, 0, 0, 0) = e4a (a, 0, 0, 0) (b, 0, 0, 0)
    simp only [e4a]
    refine Prod.ext ?_ (Prod.ext ?_ (Prod.ext ?_ ?_)) <;> grind
  · show (a * b, 0, 0, 0) = e4m (c 0) (c 1) (c 2) (c 3) (a, 0, 0, 0) (b, 0, 0, 0)
    simp only [e4m]
    refine Prod.ext ?_ (Prod.ext ?_ (Prod.ext ?_ ?_)) <;> grind
  · show (1, 0, 0, 0) = e4a (0, 0, 0, 0) (1, 0, 0, 0)
    simp only [e4a]
    refine Prod.ext ?_ (Prod.ext ?_ (Prod.ext ?_ ?_)) <;> grind
  · refine Eq.trans ?_ (hs (fun l => if l = 0 then e.1 else if l = 1 then e.2.1 else if l = 2 then e.2.2.1 else e.2.2.2)).symm
    rfl
  · have h : (v 0, v 1, v 2, v 3) = (0, 0, 0, 0) := (hs v).symm.trans h
    simp only [Prod.mk.injEq] at h
    rcases (show l = 0 ∨ l = 1 ∨ l = 2 ∨ l = 3 by omega) with rfl | rfl | rfl | rfl
    · exact h.1
    · exact h.2.1
    · exact h.2.2.1
    · exact h.2.2.2
  · have y1 : (e4R (c 0) (c 1) (c 2) (c 3)).npow.hPow (0, 1, 0, 0) 3 = (0, 0, 0, 1) := e4_yy (c 0) (c 1) (c 2) (c 3)
    have y2 : (e4R (c 0) (c 1) (c 2) (c 3)).npow.hPow (0, 1, 0, 0) 4 = e4m (c 0) (c 1) (c 2) (c 3) ((e4R (c 0) (c 1) (c 2) (c 3)).npow.hPow (0, 1, 0, 0) 3) (0, 1, 0, 0) := rfl
    rw [y1, e4_y] at y2
    refine Eq.trans y2 ?_
    have e := hs c
    refine Eq.trans ?_ (congrArg e4n e).symm
    rfl
