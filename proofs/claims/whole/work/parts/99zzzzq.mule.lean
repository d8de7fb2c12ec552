/-! The product by a table, in the curve's ring. -/
set_option maxHeartbeats 4000000 in
theorem mul_e2 {p : Int} {O E : Type} [I : Lean.Grind.CommRing O] [J : Lean.Grind.CommRing E] {φ : (Int → Int) → O} {ι : O → E} {y : E} {C : Int → Int → Int} (h : HM p φ) (a : ALG 2 (fun l => φ (C l)) ι y) (A B : Int → Int → Int) : vE φ ι y 2 (mulF p 2 B (fun i j => tbl p 2 C A i.toNat j)) = vE φ ι y 2 A * vE φ ι y 2 B := by
  have e0 : φ (mulF p 2 B (fun i j => tbl p 2 C A i.toNat j) 0) = φ (B 0) * φ (tbl p 2 C A 0 0) + φ (B 1) * φ (tbl p 2 C A 1 0) := (mul_o (n := 2) (B := B) (T := (fun i j => tbl p 2 C A i.toNat j)) (l := 0) h (by decide) (by decide)).trans (hm_sp2 h B (fun j => tbl p 2 C A j.toNat 0))
  have e1 : φ (mulF p 2 B (fun i j => tbl p 2 C A i.toNat j) 1) = φ (B 0) * φ (tbl p 2 C A 0 1) + φ (B 1) * φ (tbl p 2 C A 1 1) := (mul_o (n := 2) (B := B) (T := (fun i j => tbl p 2 C A i.toNat j)) (l := 1) h (by decide) (by decide)).trans (hm_sp2 h B (fun j => tbl p 2 C A j.toNat 1))
  show 0 + ι (φ (mulF p 2 B (fun i j => tbl p 2 C A i.toNat j) 0)) * y ^ 0 + ι (φ (mulF p 2 B (fun i j => tbl p 2 C A i.toNat j) 1)) * y ^ 1 = (0 + ι (φ (A 0)) * y ^ 0 + ι (φ (A 1)) * y ^ 1) * (0 + ι (φ (B 0)) * y ^ 0 + ι (φ (B 1)) * y ^ 1)
  rw [e0, e1]
  have q0 : ι (φ (tbl p 2 C A 0 0)) * y ^ 0 + ι (φ (tbl p 2 C A 0 1)) * y ^ 1 = ι (φ (A 0)) * y ^ 0 + ι (φ (A 1)) * y ^ 1 := rfl
  have q1 := tb_e2 h a A 0
  simp only [a.1, a.2.1]
  clear e0 e1
  generalize ι (φ (tbl p 2 C A 0 0)) = z00 at *
  generalize ι (φ (tbl p 2 C A 0 1)) = z01 at *
  generalize ι (φ (tbl p 2 C A 1 0)) = z10 at *
  generalize ι (φ (tbl p 2 C A 1 1)) = z11 at *
  generalize ι (φ (A 0)) = u0 at *
  generalize ι (φ (B 0)) = v0 at *
  generalize ι (φ (A 1)) = u1 at *
  generalize ι (φ (B 1)) = v1 at *
  clear a h
  have k1 : 0 + (v0 * z00 + v1 * z10) * y ^ 0 + (v0 * z01 + v1 * z11) * y ^ 1 = v0 * (z00 * y ^ 0 + z01 * y ^ 1) + v1 * (z10 * y ^ 0 + z11 * y ^ 1) := by
    clear q0 q1
    grind
  rw [k1, q1, q0]
  clear k1 q0 q1
  grind
set_option maxHeartbeats 4000000 in
theorem mul_e3 {p : Int} {O E : Type} [I : Lean.Grind.CommRing O] [J : Lean.Grind.CommRing E] {φ : (Int → Int) → O} {ι : O → E} {y : E} {C : Int → Int → Int} (h : HM p φ) (a : ALG 3 (fun l => φ (C l)) ι y) (A B : Int → Int → Int) : vE φ ι y 3 (mulF p 3 B (fun i j => tbl p 3 C A i.toNat j)) = vE φ ι y 3 A * vE φ ι y 3 B := by
  have e0 : φ (mulF p 3 B (fun i j => tbl p 3 C A i.toNat j) 0) = φ (B 0) * φ (tbl p 3 C A 0 0) + φ (B 1) * φ (tbl p 3 C A 1 0) + φ (B 2) * φ (tbl p 3 C A 2 0) := (mul_o (n := 3) (B := B) (T := (fun i j => tbl p 3 C A i.toNat j)) (l := 0) h (by decide) (by decide)).trans (hm_sp3 h B (fun j => tbl p 3 C A j.toNat 0))
  have e1 : φ (mulF p 3 B (fun i j => tbl p 3 C A i.toNat j) 1) = φ (B 0) * φ (tbl p 3 C A 0 1) + φ (B 1) * φ (tbl p 3 C A 1 1) + φ (B 2) * φ (tbl p 3 C A 2 1) := (mul_o (n := 3) (B := B) (T := (fun i j => tbl p 3 C A i.toNat j)) (l := 1) h (by decide) (by decide)).trans (hm_sp3 h B (fun j => tbl p 3 C A j.toNat 1))
  have e2 : φ (mulF p 3 B (fun i j => tbl p 3 C A i.toNat j) 2) = φ (B 0) * φ (tbl p 3 C A 0 2) + φ (B 1) * φ (tbl p 3 C A 1 2) + φ (B 2) * φ (tbl p 3 C A 2 2) := (mul_o (n := 3) (B := B) (T := (fun i j => tbl p 3 C A i.toNat j)) (l := 2) h (by decide) (by decide)).trans (hm_sp3 h B (fun j => tbl p 3 C A j.toNat 2))
  show 0 + ι (φ (mulF p 3 B (fun i j => tbl p 3 C A i.toNat j) 0)) * y ^ 0 + ι (φ (mulF p 3 B (fun i j => tbl p 3 C A i.toNat j) 1)) * y ^ 1 + ι (φ (mulF p 3 B (fun i j => tbl p 3 C A i.toNat j) 2)) * y ^ 2 = (0 + ι (φ (A 0)) * y ^ 0 + ι (φ (A 1)) * y ^ 1 + ι (φ (A 2)) * y ^ 2) * (0 + ι (φ (B 0)) * y ^ 0 + ι (φ (B 1)) * y ^ 1 + ι (φ (B 2)) * y ^ 2)
  rw [e0, e1, e2]
  have q0 : ι (φ (tbl p 3 C A 0 0)) * y ^ 0 + ι (φ (tbl p 3 C A 0 1)) * y ^ 1 + ι (φ (tbl p 3 C A 0 2)) * y ^ 2 = ι (φ (A 0)) * y ^ 0 + ι (φ (A 1)) * y ^ 1 + ι (φ (A 2)) * y ^ 2 := rfl
  have q1 := tb_e3 h a A 0
  have q2 := tb_e3 h a A 1
  simp only [a.1, a.2.1]
  clear e0 e1 e2
  generalize ι (φ (tbl p 3 C A 0 0)) = z00 at *
  generalize ι (φ (tbl p 3 C A 0 1)) = z01 at *
  generalize ι (φ (tbl p 3 C A 0 2)) = z02 at *
  generalize ι (φ (tbl p 3 C A 1 0)) = z10 at *
  generalize ι (φ (tbl p 3 C A 1 1)) = z11 at *
  generalize ι (φ (tbl p 3 C A 1 2)) = z12 at *
  generalize ι (φ (tbl p 3 C A 2 0)) = z20 at *
  generalize ι (φ (tbl p 3 C A 2 1)) = z21 at *
  generalize ι (φ (tbl p 3 C A 2 2)) = z22 at *
  generalize ι (φ (A 0)) = u0 at *
  generalize ι (φ (B 0)) = v0 at *
  generalize ι (φ (A 1)) = u1 at *
  generalize ι (φ (B 1)) = v1 at *
  generalize ι (φ (A 2)) = u2 at *
  generalize ι (φ (B 2)) = v2 at *
  clear a h
  have k1 : 0 + (v0 * z00 + v1 * z10 + v2 * z20) * y ^ 0 + (v0 * z01 + v1 * z11 + v2 * z21) * y ^ 1 + (v0 * z02 + v1 * z12 + v2 * z22) * y ^ 2 = v0 * (z00 * y ^ 0 + z01 * y ^ 1 + z02 * y ^ 2) + v1 * (z10 * y ^ 0 + z11 * y ^ 1 + z12 * y ^ 2) + v2 * (z20 * y ^ 0 + z21 * y ^ 1 + z22 * y ^ 2) := by
    clear q0 q1 q2
    grind
  rw [k1, q2, q1, q0]
  clear k1 q0 q1 q2
  grind
set_option maxHeartbeats 4000000 in
theorem mul_e4 {p : Int} {O E : Type} [I : Lean.Grind.CommRing O] [J : Lean.Grind.CommRing E] {φ : (Int → Int) → O} {ι : O → E} {y : E} {C : Int → Int → Int} (h : HM p φ) (a : ALG 4 (fun l => φ (C l)) ι y) (A B : Int → Int → Int) : vE φ ι y 4 (mulF p 4 B (fun i j => tbl p 4 C A i.toNat j)) = vE φ ι y 4 A * vE φ ι y 4 B := by
  have e0 : φ (mulF p 4 B (fun i j => tbl p 4 C A i.toNat j) 0) = φ (B 0) * φ (tbl p 4 C A 0 0) + φ (B 1) * φ (tbl p 4 C A 1 0) + φ (B 2) * φ (tbl p 4 C A 2 0) + φ (B 3) * φ (tbl p 4 C A 3 0) := (mul_o (n := 4) (B := B) (T := (fun i j => tbl p 4 C A i.toNat j)) (l := 0) h (by decide) (by decide)).trans (hm_sp4 h B (fun j => tbl p 4 C A j.toNat 0))
  have e1 : φ (mulF p 4 B (fun i j => tbl p 4 C A i.toNat j) 1) = φ (B 0) * φ (tbl p 4 C A 0 1) + φ (B 1) * φ (tbl p 4 C A 1 1) + φ (B 2) * φ (tbl p 4 C A 2 1) + φ (B 3) * φ (tbl p 4 C A 3 1) := (mul_o (n := 4) (B := B) (T := (fun i j => tbl p 4 C A i.toNat j)) (l := 1) h (by decide) (by decide)).trans (hm_sp4 h B (fun j => tbl p 4 C A j.toNat 1))
  have e2 : φ (mulF p 4 B (fun i j => tbl p 4 C A i.toNat j) 2) = φ (B 0) * φ (tbl p 4 C A 0 2) + φ (B 1) * φ (tbl p 4 C A 1 2) + φ (B 2) * φ (tbl p 4 C A 2 2) + φ (B 3) * φ (tbl p 4 C A 3 2) := (mul_o (n := 4) (B := B) (T := (fun i j => tbl p 4 C A i.toNat j)) (l := 2) h (by decide) (by decide)).trans (hm_sp4 h B (fun j => tbl p 4 C A j.toNat 2))
  have e3 : φ (mulF p 4 B (fun i j => tbl p 4 C A i.toNat j) 3) = φ (B 0) * φ (tbl p 4 C A 0 3) + φ (B 1) * φ (tbl p 4 C A 1 3) + φ (B 2) * φ (tbl p 4 C A 2 3) + φ (B 3) * φ (tbl p 4 C A 3 3) := (mul_o (n := 4) (B := B) (T := (fun i j => tbl p 4 C A i.toNat j)) (l := 3) h (by decide) (by decide)).trans (hm_sp4 h B (fun j => tbl p 4 C A j.toNat 3))
  show 0 + ι (φ (mulF p 4 B (fun i j => tbl p 4 C A i.toNat j) 0)) * y ^ 0 + ι (φ (mulF p 4 B (fun i j => tbl p 4 C A i.toNat j) 1)) * y ^ 1 + ι (φ (mulF p 4 B (fun i j => tbl p 4 C A i.toNat j) 2)) * y ^ 2 + ι (φ (mulF p 4 B (fun i j => tbl p 4 C A i.toNat j) 3)) * y ^ 3 = (0 + ι (φ (A 0)) * y ^ 0 + ι (φ (A 1)) * y ^ 1 + ι (φ (A 2)) * y ^ 2 + ι (φ (A 3)) * y ^ 3) * (0 + ι (φ (B 0)) * y ^ 0 + ι (φ (B 1)) * y ^ 1 + ι (φ (B 2)) * y ^ 2 + ι (φ (B 3)) * y ^ 3)
  rw [e0, e1, e2, e3]
  have q0 : ι (φ (tbl p 4 C A 0 0)) * y ^ 0 + ι (φ (tbl p 4 C A 0 1)) * y ^ 1 + ι (φ (tbl p 4 C A 0 2)) * y ^ 2 + ι (φ (tbl p 4 C A 0 3)) * y ^ 3 = ι (φ (A 0)) * y ^ 0 + ι (φ (A 1)) * y ^ 1 + ι (φ (A 2)) * y ^ 2 + ι (φ (A 3)) * y ^ 3 := rfl
  have q1 := tb_e4 h a A 0
  have q2 := tb_e4 h a A 1
  have q3 := tb_e4 h a A 2
  simp only [a.1, a.2.1]
  clear e0 e1 e2 e3
  generalize ι (φ (tbl p 4 C A 0 0)) = z00 at *
  generalize ι (φ (tbl p 4 C A 0 1)) = z01 at *
  generalize ι (φ (tbl p 4 C A 0 2)) = z02 at *
  generalize ι (φ (tbl p 4 C A 0 3)) = z03 at *
  generalize ι (φ (tbl p 4 C A 1 0)) = z10 at *
  generalize ι (φ (tbl p 4 C A 1 1)) = z11 at *
  generalize ι (φ (tbl p 4 C A 1 2)) = z12 at *
  generalize ι (φ (tbl p 4 C A 1 3)) = z13 at *
  generalize ι (φ (tbl p 4 C A 2 0)) = z20 at *
  generalize ι (φ (tbl p 4 C A 2 1)) = z21 at *
  generalize ι (φ (tbl p 4 C A 2 2)) = z22 at *
  generalize ι (φ (tbl p 4 C A 2 3)) = z23 at *
  generalize ι (φ (tbl p 4 C A 3 0)) = z30 at *
  generalize ι (φ (tbl p 4 C A 3 1)) = z31 at *
  generalize ι (φ (tbl p 4 C A 3 2)) = z32 at *
  generalize ι (φ (tbl p 4 C A 3 3)) = z33 at *
  generalize ι (φ (A 0)) = u0 at *
  generalize ι (φ (B 0)) = v0 at *
  generalize ι (φ (A 1)) = u1 at *
  generalize ι (φ (B 1)) = v1 at *
  generalize ι (φ (A 2)) = u2 at *
  generalize ι (φ (B 2)) = v2 at *
  generalize ι (φ (A 3)) = u3 at *
  generalize ι (φ (B 3)) = v3 at *
  clear a h
  have k1 : 0 + (v0 * z00 + v1 * z10 + v2 * z20 + v3 * z30) * y ^ 0 + (v0 * z01 + v1 * z11 + v2 * z21 + v3 * z31) * y ^ 1 + (v0 * z02 + v1 * z12 + v2 * z22 + v3 * z32) * y ^ 2 + (v0 * z03 + v1 * z13 + v2 * z23 + v3 * z33) * y ^ 3 = v0 * (z00 * y ^ 0 + z01 * y ^ 1 + z02 * y ^ 2 + z03 * y ^ 3) + v1 * (z10 * y ^ 0 + z11 * y ^ 1 + z12 * y ^ 2 + z13 * y ^ 3) + v2 * (z20 * y ^ 0 + z21 * y ^ 1 + z22 * y ^ 2 + z23 * y ^ 3) + v3 * (z30 * y ^ 0 + z31 * y ^ 1 + z32 * y ^ 2 + z33 * y ^ 3) := by
    clear q0 q1 q2 q3
    grind
  rw [k1, q3, q2, q1, q0]
  clear k1 q0 q1 q2 q3
  grind
theorem mul_e {p n : Int} {O E : Type} [I : Lean.Grind.CommRing O] [J : Lean.Grind.CommRing E] {φ : (Int → Int) → O} {ι : O → E} {y : E} {C : Int → Int → Int} (h : HM p φ) (hn : 2 ≤ n ∧ n ≤ 4) (a : ALG n.toNat (fun l => φ (C l)) ι y) (A B : Int → Int → Int) : vE φ ι y n.toNat (mulF p n B (fun i j => tbl p n C A i.toNat j)) = vE φ ι y n.toNat A * vE φ ι y n.toNat B := by
  rcases (show n = 2 ∨ n = 3 ∨ n = 4 by omega) with rfl | rfl | rfl
  · exact mul_e2 h a A B
  · exact mul_e3 h a A B
  · exact mul_e4 h a A B
