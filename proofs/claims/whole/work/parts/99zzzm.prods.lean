/-! Products by a table are products lowered by the curve. -/
theorem lw_a {p n : Int} {O : Type} [I : Lean.Grind.CommRing O] {φ : (Int → Int) → O} (h : HM p φ) {C V : Int → Int → Int} {e b : Int} (q : b = e) : φ (lwS p n C V e b) = 0 := by
  rw [show lwS p n C V e b = fun _ => 0 from funext fun x => if_pos q]
  exact h.2.2.2.2.2.1
theorem lw_b {p n : Int} {O : Type} [I : Lean.Grind.CommRing O] {φ : (Int → Int) → O} (h : HM p φ) {C V : Int → Int → Int} {e b k : Int} (q : ¬ b = e) (q2 : e - n ≤ b ∧ b < e) (q3 : b - (e - n) = k) : φ (lwS p n C V e b) = φ (V b) - φ (C k) * φ (V e) := by
  rw [show lwS p n C V e b = fun x => (fun x => V b x + (fun x => -1 * cnv (C k) (V e) x) x) x % p from funext fun x => by rw [← q3]; exact (if_neg q).trans (if_pos q2), h.2.2.1, h.1, h.2.2.2.1, h.2.1]
  grind
theorem lw_c {p n : Int} {O : Type} [I : Lean.Grind.CommRing O] {φ : (Int → Int) → O} {C V : Int → Int → Int} {e b : Int} (q : ¬ b = e) (q2 : ¬ (e - n ≤ b ∧ b < e)) : φ (lwS p n C V e b) = φ (V b) := by
  rw [show lwS p n C V e b = V b from funext fun x => (if_neg q).trans (if_neg q2)]
theorem tb_a {p n : Int} {O : Type} [I : Lean.Grind.CommRing O] {φ : (Int → Int) → O} (h : HM p φ) {C A : Int → Int → Int} {i : Nat} : φ (tbl p n C A (i + 1) 0) = - (φ (C 0) * φ (tbl p n C A i (n - 1))) := by
  rw [show tbl p n C A (i + 1) 0 = fun x => (fun x => (fun _ => 0) x + (fun x => -1 * cnv (C 0) (tbl p n C A i (n - 1)) x) x) x % p from rfl, h.2.2.1, h.1, h.2.2.2.1, h.2.1, h.2.2.2.2.2.1]
  grind
theorem tb_b {p n : Int} {O : Type} [I : Lean.Grind.CommRing O] {φ : (Int → Int) → O} (h : HM p φ) {C A : Int → Int → Int} {i : Nat} {j k : Int} (j0 : 0 < j) (hk : j - 1 = k) : φ (tbl p n C A (i + 1) j) = φ (tbl p n C A i k) - φ (C j) * φ (tbl p n C A i (n - 1)) := by
  rw [show tbl p n C A (i + 1) j = fun x => (fun x => tbl p n C A i k x + (fun x => -1 * cnv (C j) (tbl p n C A i (n - 1)) x) x) x % p from funext fun x => by show ((if 0 < j then tbl p n C A i (j - 1) x else 0) + (-1) * cnv (C j) (tbl p n C A i (n - 1)) x) % p = _; rw [if_pos j0, hk], h.2.2.1, h.1, h.2.2.2.1, h.2.1]
  grind
set_option maxHeartbeats 4000000 in
theorem lw_pr2_2 {p : Int} {O : Type} [I : Lean.Grind.CommRing O] {φ : (Int → Int) → O} (h : HM p φ) {C A B W : Int → Int → Int} (w0 : φ (W 0) = φ (A 0) * φ (B 0)) (w1 : φ (W 1) = φ (A 0) * φ (B 1) + φ (A 1) * φ (B 0)) (w2 : φ (W 2) = φ (A 1) * φ (B 1)) : φ (lwN p 2 C 2 1 W 0) = φ (B 0) * φ (tbl p 2 C A 0 0) + φ (B 1) * φ (tbl p 2 C A 1 0) ∧ φ (lwN p 2 C 2 1 W 1) = φ (B 0) * φ (tbl p 2 C A 0 1) + φ (B 1) * φ (tbl p 2 C A 1 1) := by
  have t0_0 : φ (tbl p 2 C A 0 0) = φ (A 0) := rfl
  have t0_1 : φ (tbl p 2 C A 0 1) = φ (A 1) := rfl
  have t1_0 : φ (tbl p 2 C A 1 0) = - (φ (C 0) * φ (tbl p 2 C A 0 1)) := tb_a h
  have t1_1 : φ (tbl p 2 C A 1 1) = φ (tbl p 2 C A 0 0) - φ (C 1) * φ (tbl p 2 C A 0 1) := tb_b h (by decide) rfl
  have l0_0 : φ (lwN p 2 C 2 0 W 0) = φ (W 0) := rfl
  have l0_1 : φ (lwN p 2 C 2 0 W 1) = φ (W 1) := rfl
  have l0_2 : φ (lwN p 2 C 2 0 W 2) = φ (W 2) := rfl
  have l1_0 : φ (lwN p 2 C 2 1 W 0) = φ (lwN p 2 C 2 0 W 0) - φ (C 0) * φ (lwN p 2 C 2 0 W 2) := lw_b (e := 2) h (by decide) (by decide) rfl
  have l1_1 : φ (lwN p 2 C 2 1 W 1) = φ (lwN p 2 C 2 0 W 1) - φ (C 1) * φ (lwN p 2 C 2 0 W 2) := lw_b (e := 2) h (by decide) (by decide) rfl
  have l1_2 : φ (lwN p 2 C 2 1 W 2) = 0 := lw_a (e := 2) h rfl
  generalize φ (tbl p 2 C A 0 0) = zt0_0 at *
  generalize φ (tbl p 2 C A 0 1) = zt0_1 at *
  generalize φ (tbl p 2 C A 1 0) = zt1_0 at *
  generalize φ (tbl p 2 C A 1 1) = zt1_1 at *
  generalize φ (lwN p 2 C 2 0 W 0) = zl0_0 at *
  generalize φ (lwN p 2 C 2 0 W 1) = zl0_1 at *
  generalize φ (lwN p 2 C 2 0 W 2) = zl0_2 at *
  generalize φ (lwN p 2 C 2 1 W 0) = zl1_0 at *
  generalize φ (lwN p 2 C 2 1 W 1) = zl1_1 at *
  generalize φ (lwN p 2 C 2 1 W 2) = zl1_2 at *
  generalize φ (W 0) = v0 at *
  generalize φ (W 1) = v1 at *
  generalize φ (W 2) = v2 at *
  generalize φ (A 0) = a0 at *
  generalize φ (B 0) = b0 at *
  generalize φ (C 0) = c0 at *
  generalize φ (A 1) = a1 at *
  generalize φ (B 1) = b1 at *
  generalize φ (C 1) = c1 at *
  subst w0
  subst w1
  subst w2
  subst t0_0
  subst t0_1
  subst t1_0
  subst t1_1
  subst l0_0
  subst l0_1
  subst l0_2
  subst l1_0
  subst l1_1
  subst l1_2
  refine ⟨?_, ?_⟩ <;> grind
set_option maxHeartbeats 4000000 in
theorem lw_pr2_6 {p : Int} {O : Type} [I : Lean.Grind.CommRing O] {φ : (Int → Int) → O} (h : HM p φ) {C A B W : Int → Int → Int} (w0 : φ (W 0) = φ (A 0) * φ (B 0)) (w1 : φ (W 1) = φ (A 0) * φ (B 1) + φ (A 1) * φ (B 0)) (w2 : φ (W 2) = φ (A 1) * φ (B 1)) (w3 : φ (W 3) = 0) (w4 : φ (W 4) = 0) (w5 : φ (W 5) = 0) (w6 : φ (W 6) = 0) : φ (lwN p 2 C 6 5 W 0) = φ (B 0) * φ (tbl p 2 C A 0 0) + φ (B 1) * φ (tbl p 2 C A 1 0) ∧ φ (lwN p 2 C 6 5 W 1) = φ (B 0) * φ (tbl p 2 C A 0 1) + φ (B 1) * φ (tbl p 2 C A 1 1) := by
  have t0_0 : φ (tbl p 2 C A 0 0) = φ (A 0) := rfl
  have t0_1 : φ (tbl p 2 C A 0 1) = φ (A 1) := rfl
  have t1_0 : φ (tbl p 2 C A 1 0) = - (φ (C 0) * φ (tbl p 2 C A 0 1)) := tb_a h
  have t1_1 : φ (tbl p 2 C A 1 1) = φ (tbl p 2 C A 0 0) - φ (C 1) * φ (tbl p 2 C A 0 1) := tb_b h (by decide) rfl
  have l0_0 : φ (lwN p 2 C 6 0 W 0) = φ (W 0) := rfl
  have l0_1 : φ (lwN p 2 C 6 0 W 1) = φ (W 1) := rfl
  have l0_2 : φ (lwN p 2 C 6 0 W 2) = φ (W 2) := rfl
  have l0_3 : φ (lwN p 2 C 6 0 W 3) = φ (W 3) := rfl
  have l0_4 : φ (lwN p 2 C 6 0 W 4) = φ (W 4) := rfl
  have l0_5 : φ (lwN p 2 C 6 0 W 5) = φ (W 5) := rfl
  have l0_6 : φ (lwN p 2 C 6 0 W 6) = φ (W 6) := rfl
  have l1_0 : φ (lwN p 2 C 6 1 W 0) = φ (lwN p 2 C 6 0 W 0) := lw_c (e := 6) (by decide) (by decide)
  have l1_1 : φ (lwN p 2 C 6 1 W 1) = φ (lwN p 2 C 6 0 W 1) := lw_c (e := 6) (by decide) (by decide)
  have l1_2 : φ (lwN p 2 C 6 1 W 2) = φ (lwN p 2 C 6 0 W 2) := lw_c (e := 6) (by decide) (by decide)
  have l1_3 : φ (lwN p 2 C 6 1 W 3) = φ (lwN p 2 C 6 0 W 3) := lw_c (e := 6) (by decide) (by decide)
  have l1_4 : φ (lwN p 2 C 6 1 W 4) = φ (lwN p 2 C 6 0 W 4) - φ (C 0) * φ (lwN p 2 C 6 0 W 6) := lw_b (e := 6) h (by decide) (by decide) rfl
  have l1_5 : φ (lwN p 2 C 6 1 W 5) = φ (lwN p 2 C 6 0 W 5) - φ (C 1) * φ (lwN p 2 C 6 0 W 6) := lw_b (e := 6) h (by decide) (by decide) rfl
  have l1_6 : φ (lwN p 2 C 6 1 W 6) = 0 := lw_a (e := 6) h rfl
  have l2_0 : φ (lwN p 2 C 6 2 W 0) = φ (lwN p 2 C 6 1 W 0) := lw_c (e := 5) (by decide) (by decide)
  have l2_1 : φ (lwN p 2 C 6 2 W 1) = φ (lwN p 2 C 6 1 W 1) := lw_c (e := 5) (by decide) (by decide)
  have l2_2 : φ (lwN p 2 C 6 2 W 2) = φ (lwN p 2 C 6 1 W 2) := lw_c (e := 5) (by decide) (by decide)
  have l2_3 : φ (lwN p 2 C 6 2 W 3) = φ (lwN p 2 C 6 1 W 3) - φ (C 0) * φ (lwN p 2 C 6 1 W 5) := lw_b (e := 5) h (by decide) (by decide) rfl
  have l2_4 : φ (lwN p 2 C 6 2 W 4) = φ (lwN p 2 C 6 1 W 4) - φ (C 1) * φ (lwN p 2 C 6 1 W 5) := lw_b (e := 5) h (by decide) (by decide) rfl
  have l2_5 : φ (lwN p 2 C 6 2 W 5) = 0 := lw_a (e := 5) h rfl
  have l2_6 : φ (lwN p 2 C 6 2 W 6) = φ (lwN p 2 C 6 1 W 6) := lw_c (e := 5) (by decide) (by decide)
  have l3_0 : φ (lwN p 2 C 6 3 W 0) = φ (lwN p 2 C 6 2 W 0) := lw_c (e := 4) (by decide) (by decide)
  have l3_1 : φ (lwN p 2 C 6 3 W 1) = φ (lwN p 2 C 6 2 W 1) := lw_c (e := 4) (by decide) (by decide)
  have l3_2 : φ (lwN p 2 C 6 3 W 2) = φ (lwN p 2 C 6 2 W 2) - φ (C 0) * φ (lwN p 2 C 6 2 W 4) := lw_b (e := 4) h (by decide) (by decide) rfl
  have l3_3 : φ (lwN p 2 C 6 3 W 3) = φ (lwN p 2 C 6 2 W 3) - φ (C 1) * φ (lwN p 2 C 6 2 W 4) := lw_b (e := 4) h (by decide) (by decide) rfl
  have l3_4 : φ (lwN p 2 C 6 3 W 4) = 0 := lw_a (e := 4) h rfl
  have l3_5 : φ (lwN p 2 C 6 3 W 5) = φ (lwN p 2 C 6 2 W 5) := lw_c (e := 4) (by decide) (by decide)
  have l3_6 : φ (lwN p 2 C 6 3 W 6) = φ (lwN p 2 C 6 2 W 6) := lw_c (e := 4) (by decide) (by decide)
  have l4_0 : φ (lwN p 2 C 6 4 W 0) = φ (lwN p 2 C 6 3 W 0) := lw_c (e := 3) (by decide) (by decide)
  have l4_1 : φ (lwN p 2 C 6 4 W 1) = φ (lwN p 2 C 6 3 W 1) - φ (C 0) * φ (lwN p 2 C 6 3 W 3) := lw_b (e := 3) h (by decide) (by decide) rfl
  have l4_2 : φ (lwN p 2 C 6 4 W 2) = φ (lwN p 2 C 6 3 W 2) - φ (C 1) * φ (lwN p 2 C 6 3 W 3) := lw_b (e := 3) h (by decide) (by decide) rfl
  have l4_3 : φ (lwN p 2 C 6 4 W 3) = 0 := lw_a (e := 3) h rfl
  have l4_4 : φ (lwN p 2 C 6 4 W 4) = φ (lwN p 2 C 6 3 W 4) := lw_c (e := 3) (by decide) (by decide)
  have l4_5 : φ (lwN p 2 C 6 4 W 5) = φ (lwN p 2 C 6 3 W 5) := lw_c (e := 3) (by decide) (by decide)
  have l4_6 : φ (lwN p 2 C 6 4 W 6) = φ (lwN p 2 C 6 3 W 6) := lw_c (e := 3) (by decide) (by decide)
  have l5_0 : φ (lwN p 2 C 6 5 W 0) = φ (lwN p 2 C 6 4 W 0) - φ (C 0) * φ (lwN p 2 C 6 4 W 2) := lw_b (e := 2) h (by decide) (by decide) rfl
  have l5_1 : φ (lwN p 2 C 6 5 W 1) = φ (lwN p 2 C 6 4 W 1) - φ (C 1) * φ (lwN p 2 C 6 4 W 2) := lw_b (e := 2) h (by decide) (by decide) rfl
  have l5_2 : φ (lwN p 2 C 6 5 W 2) = 0 := lw_a (e := 2) h rfl
  have l5_3 : φ (lwN p 2 C 6 5 W 3) = φ (lwN p 2 C 6 4 W 3) := lw_c (e := 2) (by decide) (by decide)
  have l5_4 : φ (lwN p 2 C 6 5 W 4) = φ (lwN p 2 C 6 4 W 4) := lw_c (e := 2) (by decide) (by decide)
  have l5_5 : φ (lwN p 2 C 6 5 W 5) = φ (lwN p 2 C 6 4 W 5) := lw_c (e := 2) (by decide) (by decide)
  have l5_6 : φ (lwN p 2 C 6 5 W 6) = φ (lwN p 2 C 6 4 W 6) := lw_c (e := 2) (by decide) (by decide)
  generalize φ (tbl p 2 C A 0 0) = zt0_0 at *
  generalize φ (tbl p 2 C A 0 1) = zt0_1 at *
  generalize φ (tbl p 2 C A 1 0) = zt1_0 at *
  generalize φ (tbl p 2 C A 1 1) = zt1_1 at *
  generalize φ (lwN p 2 C 6 0 W 0) = zl0_0 at *
  generalize φ (lwN p 2 C 6 0 W 1) = zl0_1 at *
  generalize φ (lwN p 2 C 6 0 W 2) = zl0_2 at *
  generalize φ (lwN p 2 C 6 0 W 3) = zl0_3 at *
  generalize φ (lwN p 2 C 6 0 W 4) = zl0_4 at *
  generalize φ (lwN p 2 C 6 0 W 5) = zl0_5 at *
  generalize φ (lwN p 2 C 6 0 W 6) = zl0_6 at *
  generalize φ (lwN p 2 C 6 1 W 0) = zl1_0 at *
  generalize φ (lwN p 2 C 6 1 W 1) = zl1_1 at *
  generalize φ (lwN p 2 C 6 1 W 2) = zl1_2 at *
  generalize φ (lwN p 2 C 6 1 W 3) = zl1_3 at *
  generalize φ (lwN p 2 C 6 1 W 4) = zl1_4 at *
  generalize φ (lwN p 2 C 6 1 W 5) = zl1_5 at *
  generalize φ (lwN p 2 C 6 1 W 6) = zl1_6 at *
  generalize φ (lwN p 2 C 6 2 W 0) = zl2_0 at *
  generalize φ (lwN p 2 C 6 2 W 1) = zl2_1 at *
  generalize φ (lwN p 2 C 6 2 W 2) = zl2_2 at *
  generalize φ (lwN p 2 C 6 2 W 3) = zl2_3 at *
  generalize φ (lwN p 2 C 6 2 W 4) = zl2_4 at *
  generalize φ (lwN p 2 C 6 2 W 5) = zl2_5 at *
  generalize φ (lwN p 2 C 6 2 W 6) = zl2_6 at *
  generalize φ (lwN p 2 C 6 3 W 0) = zl3_0 at *
  generalize φ (lwN p 2 C 6 3 W 1) = zl3_1 at *
  generalize φ (lwN p 2 C 6 3 W 2) = zl3_2 at *
  generalize φ (lwN p 2 C 6 3 W 3) = zl3_3 at *
  generalize φ (lwN p 2 C 6 3 W 4) = zl3_4 at *
  generalize φ (lwN p 2 C 6 3 W 5) = zl3_5 at *
  generalize φ (lwN p 2 C 6 3 W 6) = zl3_6 at *
  generalize φ (lwN p 2 C 6 4 W 0) = zl4_0 at *
  generalize φ (lwN p 2 C 6 4 W 1) = zl4_1 at *
  generalize φ (lwN p 2 C 6 4 W 2) = zl4_2 at *
  generalize φ (lwN p 2 C 6 4 W 3) = zl4_3 at *
  generalize φ (lwN p 2 C 6 4 W 4) = zl4_4 at *
  generalize φ (lwN p 2 C 6 4 W 5) = zl4_5 at *
  generalize φ (lwN p 2 C 6 4 W 6) = zl4_6 at *
  generalize φ (lwN p 2 C 6 5 W 0) = zl5_0 at *
  generalize φ (lwN p 2 C 6 5 W 1) = zl5_1 at *
  generalize φ (lwN p 2 C 6 5 W 2) = zl5_2 at *
  generalize φ (lwN p 2 C 6 5 W 3) = zl5_3 at *
  generalize φ (lwN p 2 C 6 5 W 4) = zl5_4 at *
  generalize φ (lwN p 2 C 6 5 W 5) = zl5_5 at *
  generalize φ (lwN p 2 C 6 5 W 6) = zl5_6 at *
  generalize φ (W 0) = v0 at *
  generalize φ (W 1) = v1 at *
  generalize φ (W 2) = v2 at *
  generalize φ (W 3) = v3 at *
  generalize φ (W 4) = v4 at *
  generalize φ (W 5) = v5 at *
  generalize φ (W 6) = v6 at *
  generalize φ (A 0) = a0 at *
  generalize φ (B 0) = b0 at *
  generalize φ (C 0) = c0 at *
  generalize φ (A 1) = a1 at *
  generalize φ (B 1) = b1 at *
  generalize φ (C 1) = c1 at *
  subst w0
  subst w1
  subst w2
  subst w3
  subst w4
  subst w5
  subst w6
  subst t0_0
  subst t0_1
  subst t1_0
  subst t1_1
  subst l0_0
  subst l0_1
  subst l0_2
  subst l0_3
  subst l0_4
  subst l0_5
  subst l0_6
  subst l1_0
  subst l1_1
  subst l1_2
  subst l1_3
  subst l1_4
  subst l1_5
  subst l1_6
  subst l2_0
  subst l2_1
  subst l2_2
  subst l2_3
  subst l2_4
  subst l2_5
  subst l2_6
  subst l3_0
  subst l3_1
  subst l3_2
  subst l3_3
  subst l3_4
  subst l3_5
  subst l3_6
  subst l4_0
  subst l4_1
  subst l4_2
  subst l4_3
  subst l4_4
  subst l4_5
  subst l4_6
  subst l5_0
  subst l5_1
  subst l5_2
  subst l5_3
  subst l5_4
  subst l5_5
  subst l5_6
  refine ⟨?_, ?_⟩ <;> grind
set_option maxHeartbeats 4000000 in
theorem lw_pr3_4 {p : Int} {O : Type} [I : Lean.Grind.CommRing O] {φ : (Int → Int) → O} (h : HM p φ) {C A B W : Int → Int → Int} (w0 : φ (W 0) = φ (A 0) * φ (B 0)) (w1 : φ (W 1) = φ (A 0) * φ (B 1) + φ (A 1) * φ (B 0)) (w2 : φ (W 2) = φ (A 0) * φ (B 2) + φ (A 1) * φ (B 1) + φ (A 2) * φ (B 0)) (w3 : φ (W 3) = φ (A 1) * φ (B 2) + φ (A 2) * φ (B 1)) (w4 : φ (W 4) = φ (A 2) * φ (B 2)) : φ (lwN p 3 C 4 2 W 0) = φ (B 0) * φ (tbl p 3 C A 0 0) + φ (B 1) * φ (tbl p 3 C A 1 0) + φ (B 2) * φ (tbl p 3 C A 2 0) ∧ φ (lwN p 3 C 4 2 W 1) = φ (B 0) * φ (tbl p 3 C A 0 1) + φ (B 1) * φ (tbl p 3 C A 1 1) + φ (B 2) * φ (tbl p 3 C A 2 1) ∧ φ (lwN p 3 C 4 2 W 2) = φ (B 0) * φ (tbl p 3 C A 0 2) + φ (B 1) * φ (tbl p 3 C A 1 2) + φ (B 2) * φ (tbl p 3 C A 2 2) := by
  have t0_0 : φ (tbl p 3 C A 0 0) = φ (A 0) := rfl
  have t0_1 : φ (tbl p 3 C A 0 1) = φ (A 1) := rfl
  have t0_2 : φ (tbl p 3 C A 0 2) = φ (A 2) := rfl
  have t1_0 : φ (tbl p 3 C A 1 0) = - (φ (C 0) * φ (tbl p 3 C A 0 2)) := tb_a h
  have t1_1 : φ (tbl p 3 C A 1 1) = φ (tbl p 3 C A 0 0) - φ (C 1) * φ (tbl p 3 C A 0 2) := tb_b h (by decide) rfl
  have t1_2 : φ (tbl p 3 C A 1 2) = φ (tbl p 3 C A 0 1) - φ (C 2) * φ (tbl p 3 C A 0 2) := tb_b h (by decide) rfl
  have t2_0 : φ (tbl p 3 C A 2 0) = - (φ (C 0) * φ (tbl p 3 C A 1 2)) := tb_a h
  have t2_1 : φ (tbl p 3 C A 2 1) = φ (tbl p 3 C A 1 0) - φ (C 1) * φ (tbl p 3 C A 1 2) := tb_b h (by decide) rfl
  have t2_2 : φ (tbl p 3 C A 2 2) = φ (tbl p 3 C A 1 1) - φ (C 2) * φ (tbl p 3 C A 1 2) := tb_b h (by decide) rfl
  have l0_0 : φ (lwN p 3 C 4 0 W 0) = φ (W 0) := rfl
  have l0_1 : φ (lwN p 3 C 4 0 W 1) = φ (W 1) := rfl
  have l0_2 : φ (lwN p 3 C 4 0 W 2) = φ (W 2) := rfl
  have l0_3 : φ (lwN p 3 C 4 0 W 3) = φ (W 3) := rfl
  have l0_4 : φ (lwN p 3 C 4 0 W 4) = φ (W 4) := rfl
  have l1_0 : φ (lwN p 3 C 4 1 W 0) = φ (lwN p 3 C 4 0 W 0) := lw_c (e := 4) (by decide) (by decide)
  have l1_1 : φ (lwN p 3 C 4 1 W 1) = φ (lwN p 3 C 4 0 W 1) - φ (C 0) * φ (lwN p 3 C 4 0 W 4) := lw_b (e := 4) h (by decide) (by decide) rfl
  have l1_2 : φ (lwN p 3 C 4 1 W 2) = φ (lwN p 3 C 4 0 W 2) - φ (C 1) * φ (lwN p 3 C 4 0 W 4) := lw_b (e := 4) h (by decide) (by decide) rfl
  have l1_3 : φ (lwN p 3 C 4 1 W 3) = φ (lwN p 3 C 4 0 W 3) - φ (C 2) * φ (lwN p 3 C 4 0 W 4) := lw_b (e := 4) h (by decide) (by decide) rfl
  have l1_4 : φ (lwN p 3 C 4 1 W 4) = 0 := lw_a (e := 4) h rfl
  have l2_0 : φ (lwN p 3 C 4 2 W 0) = φ (lwN p 3 C 4 1 W 0) - φ (C 0) * φ (lwN p 3 C 4 1 W 3) := lw_b (e := 3) h (by decide) (by decide) rfl
  have l2_1 : φ (lwN p 3 C 4 2 W 1) = φ (lwN p 3 C 4 1 W 1) - φ (C 1) * φ (lwN p 3 C 4 1 W 3) := lw_b (e := 3) h (by decide) (by decide) rfl
  have l2_2 : φ (lwN p 3 C 4 2 W 2) = φ (lwN p 3 C 4 1 W 2) - φ (C 2) * φ (lwN p 3 C 4 1 W 3) := lw_b (e := 3) h (by decide) (by decide) rfl
  have l2_3 : φ (lwN p 3 C 4 2 W 3) = 0 := lw_a (e := 3) h rfl
  have l2_4 : φ (lwN p 3 C 4 2 W 4) = φ (lwN p 3 C 4 1 W 4) := lw_c (e := 3) (by decide) (by decide)
  generalize φ (tbl p 3 C A 0 0) = zt0_0 at *
  generalize φ (tbl p 3 C A 0 1) = zt0_1 at *
  generalize φ (tbl p 3 C A 0 2) = zt0_2 at *
  generalize φ (tbl p 3 C A 1 0) = zt1_0 at *
  generalize φ (tbl p 3 C A 1 1) = zt1_1 at *
  generalize φ (tbl p 3 C A 1 2) = zt1_2 at *
  generalize φ (tbl p 3 C A 2 0) = zt2_0 at *
  generalize φ (tbl p 3 C A 2 1) = zt2_1 at *
  generalize φ (tbl p 3 C A 2 2) = zt2_2 at *
  generalize φ (lwN p 3 C 4 0 W 0) = zl0_0 at *
  generalize φ (lwN p 3 C 4 0 W 1) = zl0_1 at *
  generalize φ (lwN p 3 C 4 0 W 2) = zl0_2 at *
  generalize φ (lwN p 3 C 4 0 W 3) = zl0_3 at *
  generalize φ (lwN p 3 C 4 0 W 4) = zl0_4 at *
  generalize φ (lwN p 3 C 4 1 W 0) = zl1_0 at *
  generalize φ (lwN p 3 C 4 1 W 1) = zl1_1 at *
  generalize φ (lwN p 3 C 4 1 W 2) = zl1_2 at *
  generalize φ (lwN p 3 C 4 1 W 3) = zl1_3 at *
  generalize φ (lwN p 3 C 4 1 W 4) = zl1_4 at *
  generalize φ (lwN p 3 C 4 2 W 0) = zl2_0 at *
  generalize φ (lwN p 3 C 4 2 W 1) = zl2_1 at *
  generalize φ (lwN p 3 C 4 2 W 2) = zl2_2 at *
  generalize φ (lwN p 3 C 4 2 W 3) = zl2_3 at *
  generalize φ (lwN p 3 C 4 2 W 4) = zl2_4 at *
  generalize φ (W 0) = v0 at *
  generalize φ (W 1) = v1 at *
  generalize φ (W 2) = v2 at *
  generalize φ (W 3) = v3 at *
  generalize φ (W 4) = v4 at *
  generalize φ (A 0) = a0 at *
  generalize φ (B 0) = b0 at *
  generalize φ (C 0) = c0 at *
  generalize φ (A 1) = a1 at *
  generalize φ (B 1) = b1 at *
  generalize φ (C 1) = c1 at *
  generalize φ (A 2) = a2 at *
  generalize φ (B 2) = b2 at *
  generalize φ (C 2) = c2 at *
  subst w0
  subst w1
  subst w2
  subst w3
  subst w4
  subst t0_0
  subst t0_1
  subst t0_2
  subst t1_0
  subst t1_1
  subst t1_2
  subst t2_0
  subst t2_1
  subst t2_2
  subst l0_0
  subst l0_1
  subst l0_2
  subst l0_3
  subst l0_4
  subst l1_0
  subst l1_1
  subst l1_2
  subst l1_3
  subst l1_4
  subst l2_0
  subst l2_1
  subst l2_2
  subst l2_3
  subst l2_4
  refine ⟨?_, ?_, ?_⟩ <;> grind
set_option maxHeartbeats 4000000 in
theorem lw_pr3_6 {p : Int} {O : Type} [I : Lean.Grind.CommRing O] {φ : (Int → Int) → O} (h : HM p φ) {C A B W : Int → Int → Int} (w0 : φ (W 0) = φ (A 0) * φ (B 0)) (w1 : φ (W 1) = φ (A 0) * φ (B 1) + φ (A 1) * φ (B 0)) (w2 : φ (W 2) = φ (A 0) * φ (B 2) + φ (A 1) * φ (B 1) + φ (A 2) * φ (B 0)) (w3 : φ (W 3) = φ (A 1) * φ (B 2) + φ (A 2) * φ (B 1)) (w4 : φ (W 4) = φ (A 2) * φ (B 2)) (w5 : φ (W 5) = 0) (w6 : φ (W 6) = 0) : φ (lwN p 3 C 6 4 W 0) = φ (B 0) * φ (tbl p 3 C A 0 0) + φ (B 1) * φ (tbl p 3 C A 1 0) + φ (B 2) * φ (tbl p 3 C A 2 0) ∧ φ (lwN p 3 C 6 4 W 1) = φ (B 0) * φ (tbl p 3 C A 0 1) + φ (B 1) * φ (tbl p 3 C A 1 1) + φ (B 2) * φ (tbl p 3 C A 2 1) ∧ φ (lwN p 3 C 6 4 W 2) = φ (B 0) * φ (tbl p 3 C A 0 2) + φ (B 1) * φ (tbl p 3 C A 1 2) + φ (B 2) * φ (tbl p 3 C A 2 2) := by
  have t0_0 : φ (tbl p 3 C A 0 0) = φ (A 0) := rfl
  have t0_1 : φ (tbl p 3 C A 0 1) = φ (A 1) := rfl
  have t0_2 : φ (tbl p 3 C A 0 2) = φ (A 2) := rfl
  have t1_0 : φ (tbl p 3 C A 1 0) = - (φ (C 0) * φ (tbl p 3 C A 0 2)) := tb_a h
  have t1_1 : φ (tbl p 3 C A 1 1) = φ (tbl p 3 C A 0 0) - φ (C 1) * φ (tbl p 3 C A 0 2) := tb_b h (by decide) rfl
  have t1_2 : φ (tbl p 3 C A 1 2) = φ (tbl p 3 C A 0 1) - φ (C 2) * φ (tbl p 3 C A 0 2) := tb_b h (by decide) rfl
  have t2_0 : φ (tbl p 3 C A 2 0) = - (φ (C 0) * φ (tbl p 3 C A 1 2)) := tb_a h
  have t2_1 : φ (tbl p 3 C A 2 1) = φ (tbl p 3 C A 1 0) - φ (C 1) * φ (tbl p 3 C A 1 2) := tb_b h (by decide) rfl
  have t2_2 : φ (tbl p 3 C A 2 2) = φ (tbl p 3 C A 1 1) - φ (C 2) * φ (tbl p 3 C A 1 2) := tb_b h (by decide) rfl
  have l0_0 : φ (lwN p 3 C 6 0 W 0) = φ (W 0) := rfl
  have l0_1 : φ (lwN p 3 C 6 0 W 1) = φ (W 1) := rfl
  have l0_2 : φ (lwN p 3 C 6 0 W 2) = φ (W 2) := rfl
  have l0_3 : φ (lwN p 3 C 6 0 W 3) = φ (W 3) := rfl
  have l0_4 : φ (lwN p 3 C 6 0 W 4) = φ (W 4) := rfl
  have l0_5 : φ (lwN p 3 C 6 0 W 5) = φ (W 5) := rfl
  have l0_6 : φ (lwN p 3 C 6 0 W 6) = φ (W 6) := rfl
  have l1_0 : φ (lwN p 3 C 6 1 W 0) = φ (lwN p 3 C 6 0 W 0) := lw_c (e := 6) (by decide) (by decide)
  have l1_1 : φ (lwN p 3 C 6 1 W 1) = φ (lwN p 3 C 6 0 W 1) := lw_c (e := 6) (by decide) (by decide)
  have l1_2 : φ (lwN p 3 C 6 1 W 2) = φ (lwN p 3 C 6 0 W 2) := lw_c (e := 6) (by decide) (by decide)
  have l1_3 : φ (lwN p 3 C 6 1 W 3) = φ (lwN p 3 C 6 0 W 3) - φ (C 0) * φ (lwN p 3 C 6 0 W 6) := lw_b (e := 6) h (by decide) (by decide) rfl
  have l1_4 : φ (lwN p 3 C 6 1 W 4) = φ (lwN p 3 C 6 0 W 4) - φ (C 1) * φ (lwN p 3 C 6 0 W 6) := lw_b (e := 6) h (by decide) (by decide) rfl
  have l1_5 : φ (lwN p 3 C 6 1 W 5) = φ (lwN p 3 C 6 0 W 5) - φ (C 2) * φ (lwN p 3 C 6 0 W 6) := lw_b (e := 6) h (by decide) (by decide) rfl
  have l1_6 : φ (lwN p 3 C 6 1 W 6) = 0 := lw_a (e := 6) h rfl
  have l2_0 : φ (lwN p 3 C 6 2 W 0) = φ (lwN p 3 C 6 1 W 0) := lw_c (e := 5) (by decide) (by decide)
  have l2_1 : φ (lwN p 3 C 6 2 W 1) = φ (lwN p 3 C 6 1 W 1) := lw_c (e := 5) (by decide) (by decide)
  have l2_2 : φ (lwN p 3 C 6 2 W 2) = φ (lwN p 3 C 6 1 W 2) - φ (C 0) * φ (lwN p 3 C 6 1 W 5) := lw_b (e := 5) h (by decide) (by decide) rfl
  have l2_3 : φ (lwN p 3 C 6 2 W 3) = φ (lwN p 3 C 6 1 W 3) - φ (C 1) * φ (lwN p 3 C 6 1 W 5) := lw_b (e := 5) h (by decide) (by decide) rfl
  have l2_4 : φ (lwN p 3 C 6 2 W 4) = φ (lwN p 3 C 6 1 W 4) - φ (C 2) * φ (lwN p 3 C 6 1 W 5) := lw_b (e := 5) h (by decide) (by decide) rfl
  have l2_5 : φ (lwN p 3 C 6 2 W 5) = 0 := lw_a (e := 5) h rfl
  have l2_6 : φ (lwN p 3 C 6 2 W 6) = φ (lwN p 3 C 6 1 W 6) := lw_c (e := 5) (by decide) (by decide)
  have l3_0 : φ (lwN p 3 C 6 3 W 0) = φ (lwN p 3 C 6 2 W 0) := lw_c (e := 4) (by decide) (by decide)
  have l3_1 : φ (lwN p 3 C 6 3 W 1) = φ (lwN p 3 C 6 2 W 1) - φ (C 0) * φ (lwN p 3 C 6 2 W 4) := lw_b (e := 4) h (by decide) (by decide) rfl
  have l3_2 : φ (lwN p 3 C 6 3 W 2) = φ (lwN p 3 C 6 2 W 2) - φ (C 1) * φ (lwN p 3 C 6 2 W 4) := lw_b (e := 4) h (by decide) (by decide) rfl
  have l3_3 : φ (lwN p 3 C 6 3 W 3) = φ (lwN p 3 C 6 2 W 3) - φ (C 2) * φ (lwN p 3 C 6 2 W 4) := lw_b (e := 4) h (by decide) (by decide) rfl
  have l3_4 : φ (lwN p 3 C 6 3 W 4) = 0 := lw_a (e := 4) h rfl
  have l3_5 : φ (lwN p 3 C 6 3 W 5) = φ (lwN p 3 C 6 2 W 5) := lw_c (e := 4) (by decide) (by decide)
  have l3_6 : φ (lwN p 3 C 6 3 W 6) = φ (lwN p 3 C 6 2 W 6) := lw_c (e := 4) (by decide) (by decide)
  have l4_0 : φ (lwN p 3 C 6 4 W 0) = φ (lwN p 3 C 6 3 W 0) - φ (C 0) * φ (lwN p 3 C 6 3 W 3) := lw_b (e := 3) h (by decide) (by decide) rfl
  have l4_1 : φ (lwN p 3 C 6 4 W 1) = φ (lwN p 3 C 6 3 W 1) - φ (C 1) * φ (lwN p 3 C 6 3 W 3) := lw_b (e := 3) h (by decide) (by decide) rfl
  have l4_2 : φ (lwN p 3 C 6 4 W 2) = φ (lwN p 3 C 6 3 W 2) - φ (C 2) * φ (lwN p 3 C 6 3 W 3) := lw_b (e := 3) h (by decide) (by decide) rfl
  have l4_3 : φ (lwN p 3 C 6 4 W 3) = 0 := lw_a (e := 3) h rfl
  have l4_4 : φ (lwN p 3 C 6 4 W 4) = φ (lwN p 3 C 6 3 W 4) := lw_c (e := 3) (by decide) (by decide)
  have l4_5 : φ (lwN p 3 C 6 4 W 5) = φ (lwN p 3 C 6 3 W 5) := lw_c (e := 3) (by decide) (by decide)
  have l4_6 : φ (lwN p 3 C 6 4 W 6) = φ (lwN p 3 C 6 3 W 6) := lw_c (e := 3) (by decide) (by decide)
  generalize φ (tbl p 3 C A 0 0) = zt0_0 at *
  generalize φ (tbl p 3 C A 0 1) = zt0_1 at *
  generalize φ (tbl p 3 C A 0 2) = zt0_2 at *
  generalize φ (tbl p 3 C A 1 0) = zt1_0 at *
  generalize φ (tbl p 3 C A 1 1) = zt1_1 at *
  generalize φ (tbl p 3 C A 1 2) = zt1_2 at *
  generalize φ (tbl p 3 C A 2 0) = zt2_0 at *
  generalize φ (tbl p 3 C A 2 1) = zt2_1 at *
  generalize φ (tbl p 3 C A 2 2) = zt2_2 at *
  generalize φ (lwN p 3 C 6 0 W 0) = zl0_0 at *
  generalize φ (lwN p 3 C 6 0 W 1) = zl0_1 at *
  generalize φ (lwN p 3 C 6 0 W 2) = zl0_2 at *
  generalize φ (lwN p 3 C 6 0 W 3) = zl0_3 at *
  generalize φ (lwN p 3 C 6 0 W 4) = zl0_4 at *
  generalize φ (lwN p 3 C 6 0 W 5) = zl0_5 at *
  generalize φ (lwN p 3 C 6 0 W 6) = zl0_6 at *
  generalize φ (lwN p 3 C 6 1 W 0) = zl1_0 at *
  generalize φ (lwN p 3 C 6 1 W 1) = zl1_1 at *
  generalize φ (lwN p 3 C 6 1 W 2) = zl1_2 at *
  generalize φ (lwN p 3 C 6 1 W 3) = zl1_3 at *
  generalize φ (lwN p 3 C 6 1 W 4) = zl1_4 at *
  generalize φ (lwN p 3 C 6 1 W 5) = zl1_5 at *
  generalize φ (lwN p 3 C 6 1 W 6) = zl1_6 at *
  generalize φ (lwN p 3 C 6 2 W 0) = zl2_0 at *
  generalize φ (lwN p 3 C 6 2 W 1) = zl2_1 at *
  generalize φ (lwN p 3 C 6 2 W 2) = zl2_2 at *
  generalize φ (lwN p 3 C 6 2 W 3) = zl2_3 at *
  generalize φ (lwN p 3 C 6 2 W 4) = zl2_4 at *
  generalize φ (lwN p 3 C 6 2 W 5) = zl2_5 at *
  generalize φ (lwN p 3 C 6 2 W 6) = zl2_6 at *
  generalize φ (lwN p 3 C 6 3 W 0) = zl3_0 at *
  generalize φ (lwN p 3 C 6 3 W 1) = zl3_1 at *
  generalize φ (lwN p 3 C 6 3 W 2) = zl3_2 at *
  generalize φ (lwN p 3 C 6 3 W 3) = zl3_3 at *
  generalize φ (lwN p 3 C 6 3 W 4) = zl3_4 at *
  generalize φ (lwN p 3 C 6 3 W 5) = zl3_5 at *
  generalize φ (lwN p 3 C 6 3 W 6) = zl3_6 at *
  generalize φ (lwN p 3 C 6 4 W 0) = zl4_0 at *
  generalize φ (lwN p 3 C 6 4 W 1) = zl4_1 at *
  generalize φ (lwN p 3 C 6 4 W 2) = zl4_2 at *
  generalize φ (lwN p 3 C 6 4 W 3) = zl4_3 at *
  generalize φ (lwN p 3 C 6 4 W 4) = zl4_4 at *
  generalize φ (lwN p 3 C 6 4 W 5) = zl4_5 at *
  generalize φ (lwN p 3 C 6 4 W 6) = zl4_6 at *
  generalize φ (W 0) = v0 at *
  generalize φ (W 1) = v1 at *
  generalize φ (W 2) = v2 at *
  generalize φ (W 3) = v3 at *
  generalize φ (W 4) = v4 at *
  generalize φ (W 5) = v5 at *
  generalize φ (W 6) = v6 at *
  generalize φ (A 0) = a0 at *
  generalize φ (B 0) = b0 at *
  generalize φ (C 0) = c0 at *
  generalize φ (A 1) = a1 at *
  generalize φ (B 1) = b1 at *
  generalize φ (C 1) = c1 at *
  generalize φ (A 2) = a2 at *
  generalize φ (B 2) = b2 at *
  generalize φ (C 2) = c2 at *
  subst w0
  subst w1
  subst w2
  subst w3
  subst w4
  subst w5
  subst w6
  subst t0_0
  subst t0_1
  subst t0_2
  subst t1_0
  subst t1_1
  subst t1_2
  subst t2_0
  subst t2_1
  subst t2_2
  subst l0_0
  subst l0_1
  subst l0_2
  subst l0_3
  subst l0_4
  subst l0_5
  subst l0_6
  subst l1_0
  subst l1_1
  subst l1_2
  subst l1_3
  subst l1_4
  subst l1_5
  subst l1_6
  subst l2_0
  subst l2_1
  subst l2_2
  subst l2_3
  subst l2_4
  subst l2_5
  subst l2_6
  subst l3_0
  subst l3_1
  subst l3_2
  subst l3_3
  subst l3_4
  subst l3_5
  subst l3_6
  subst l4_0
  subst l4_1
  subst l4_2
  subst l4_3
  subst l4_4
  subst l4_5
  subst l4_6
  refine ⟨?_, ?_, ?_⟩ <;> grind
set_option maxHeartbeats 4000000 in
theorem lw_pr4_6 {p : Int} {O : Type} [I : Lean.Grind.CommRing O] {φ : (Int → Int) → O} (h : HM p φ) {C A B W : Int → Int → Int} (w0 : φ (W 0) = φ (A 0) * φ (B 0)) (w1 : φ (W 1) = φ (A 0) * φ (B 1) + φ (A 1) * φ (B 0)) (w2 : φ (W 2) = φ (A 0) * φ (B 2) + φ (A 1) * φ (B 1) + φ (A 2) * φ (B 0)) (w3 : φ (W 3) = φ (A 0) * φ (B 3) + φ (A 1) * φ (B 2) + φ (A 2) * φ (B 1) + φ (A 3) * φ (B 0)) (w4 : φ (W 4) = φ (A 1) * φ (B 3) + φ (A 2) * φ (B 2) + φ (A 3) * φ (B 1)) (w5 : φ (W 5) = φ (A 2) * φ (B 3) + φ (A 3) * φ (B 2)) (w6 : φ (W 6) = φ (A 3) * φ (B 3)) : φ (lwN p 4 C 6 3 W 0) = φ (B 0) * φ (tbl p 4 C A 0 0) + φ (B 1) * φ (tbl p 4 C A 1 0) + φ (B 2) * φ (tbl p 4 C A 2 0) + φ (B 3) * φ (tbl p 4 C A 3 0) ∧ φ (lwN p 4 C 6 3 W 1) = φ (B 0) * φ (tbl p 4 C A 0 1) + φ (B 1) * φ (tbl p 4 C A 1 1) + φ (B 2) * φ (tbl p 4 C A 2 1) + φ (B 3) * φ (tbl p 4 C A 3 1) ∧ φ (lwN p 4 C 6 3 W 2) = φ (B 0) * φ (tbl p 4 C A 0 2) + φ (B 1) * φ (tbl p 4 C A 1 2) + φ (B 2) * φ (tbl p 4 C A 2 2) + φ (B 3) * φ (tbl p 4 C A 3 2) ∧ φ (lwN p 4 C 6 3 W 3) = φ (B 0) * φ (tbl p 4 C A 0 3) + φ (B 1) * φ (tbl p 4 C A 1 3) + φ (B 2) * φ (tbl p 4 C A 2 3) + φ (B 3) * φ (tbl p 4 C A 3 3) := by
  have t0_0 : φ (tbl p 4 C A 0 0) = φ (A 0) := rfl
  have t0_1 : φ (tbl p 4 C A 0 1) = φ (A 1) := rfl
  have t0_2 : φ (tbl p 4 C A 0 2) = φ (A 2) := rfl
  have t0_3 : φ (tbl p 4 C A 0 3) = φ (A 3) := rfl
  have t1_0 : φ (tbl p 4 C A 1 0) = - (φ (C 0) * φ (tbl p 4 C A 0 3)) := tb_a h
  have t1_1 : φ (tbl p 4 C A 1 1) = φ (tbl p 4 C A 0 0) - φ (C 1) * φ (tbl p 4 C A 0 3) := tb_b h (by decide) rfl
  have t1_2 : φ (tbl p 4 C A 1 2) = φ (tbl p 4 C A 0 1) - φ (C 2) * φ (tbl p 4 C A 0 3) := tb_b h (by decide) rfl
  have t1_3 : φ (tbl p 4 C A 1 3) = φ (tbl p 4 C A 0 2) - φ (C 3) * φ (tbl p 4 C A 0 3) := tb_b h (by decide) rfl
  have t2_0 : φ (tbl p 4 C A 2 0) = - (φ (C 0) * φ (tbl p 4 C A 1 3)) := tb_a h
  have t2_1 : φ (tbl p 4 C A 2 1) = φ (tbl p 4 C A 1 0) - φ (C 1) * φ (tbl p 4 C A 1 3) := tb_b h (by decide) rfl
  have t2_2 : φ (tbl p 4 C A 2 2) = φ (tbl p 4 C A 1 1) - φ (C 2) * φ (tbl p 4 C A 1 3) := tb_b h (by decide) rfl
  have t2_3 : φ (tbl p 4 C A 2 3) = φ (tbl p 4 C A 1 2) - φ (C 3) * φ (tbl p 4 C A 1 3) := tb_b h (by decide) rfl
  have t3_0 : φ (tbl p 4 C A 3 0) = - (φ (C 0) * φ (tbl p 4 C A 2 3)) := tb_a h
  have t3_1 : φ (tbl p 4 C A 3 1) = φ (tbl p 4 C A 2 0) - φ (C 1) * φ (tbl p 4 C A 2 3) := tb_b h (by decide) rfl
  have t3_2 : φ (tbl p 4 C A 3 2) = φ (tbl p 4 C A 2 1) - φ (C 2) * φ (tbl p 4 C A 2 3) := tb_b h (by decide) rfl
  have t3_3 : φ (tbl p 4 C A 3 3) = φ (tbl p 4 C A 2 2) - φ (C 3) * φ (tbl p 4 C A 2 3) := tb_b h (by decide) rfl
  have l0_0 : φ (lwN p 4 C 6 0 W 0) = φ (W 0) := rfl
  have l0_1 : φ (lwN p 4 C 6 0 W 1) = φ (W 1) := rfl
  have l0_2 : φ (lwN p 4 C 6 0 W 2) = φ (W 2) := rfl
  have l0_3 : φ (lwN p 4 C 6 0 W 3) = φ (W 3) := rfl
  have l0_4 : φ (lwN p 4 C 6 0 W 4) = φ (W 4) := rfl
  have l0_5 : φ (lwN p 4 C 6 0 W 5) = φ (W 5) := rfl
  have l0_6 : φ (lwN p 4 C 6 0 W 6) = φ (W 6) := rfl
  have l1_0 : φ (lwN p 4 C 6 1 W 0) = φ (lwN p 4 C 6 0 W 0) := lw_c (e := 6) (by decide) (by decide)
  have l1_1 : φ (lwN p 4 C 6 1 W 1) = φ (lwN p 4 C 6 0 W 1) := lw_c (e := 6) (by decide) (by decide)
  have l1_2 : φ (lwN p 4 C 6 1 W 2) = φ (lwN p 4 C 6 0 W 2) - φ (C 0) * φ (lwN p 4 C 6 0 W 6) := lw_b (e := 6) h (by decide) (by decide) rfl
  have l1_3 : φ (lwN p 4 C 6 1 W 3) = φ (lwN p 4 C 6 0 W 3) - φ (C 1) * φ (lwN p 4 C 6 0 W 6) := lw_b (e := 6) h (by decide) (by decide) rfl
  have l1_4 : φ (lwN p 4 C 6 1 W 4) = φ (lwN p 4 C 6 0 W 4) - φ (C 2) * φ (lwN p 4 C 6 0 W 6) := lw_b (e := 6) h (by decide) (by decide) rfl
  have l1_5 : φ (lwN p 4 C 6 1 W 5) = φ (lwN p 4 C 6 0 W 5) - φ (C 3) * φ (lwN p 4 C 6 0 W 6) := lw_b (e := 6) h (by decide) (by decide) rfl
  have l1_6 : φ (lwN p 4 C 6 1 W 6) = 0 := lw_a (e := 6) h rfl
  have l2_0 : φ (lwN p 4 C 6 2 W 0) = φ (lwN p 4 C 6 1 W 0) := lw_c (e := 5) (by decide) (by decide)
  have l2_1 : φ (lwN p 4 C 6 2 W 1) = φ (lwN p 4 C 6 1 W 1) - φ (C 0) * φ (lwN p 4 C 6 1 W 5) := lw_b (e := 5) h (by decide) (by decide) rfl
  have l2_2 : φ (lwN p 4 C 6 2 W 2) = φ (lwN p 4 C 6 1 W 2) - φ (C 1) * φ (lwN p 4 C 6 1 W 5) := lw_b (e := 5) h (by decide) (by decide) rfl
  have l2_3 : φ (lwN p 4 C 6 2 W 3) = φ (lwN p 4 C 6 1 W 3) - φ (C 2) * φ (lwN p 4 C 6 1 W 5) := lw_b (e := 5) h (by decide) (by decide) rfl
  have l2_4 : φ (lwN p 4 C 6 2 W 4) = φ (lwN p 4 C 6 1 W 4) - φ (C 3) * φ (lwN p 4 C 6 1 W 5) := lw_b (e := 5) h (by decide) (by decide) rfl
  have l2_5 : φ (lwN p 4 C 6 2 W 5) = 0 := lw_a (e := 5) h rfl
  have l2_6 : φ (lwN p 4 C 6 2 W 6) = φ (lwN p 4 C 6 1 W 6) := lw_c (e := 5) (by decide) (by decide)
  have l3_0 : φ (lwN p 4 C 6 3 W 0) = φ (lwN p 4 C 6 2 W 0) - φ (C 0) * φ (lwN p 4 C 6 2 W 4) := lw_b (e := 4) h (by decide) (by decide) rfl
  have l3_1 : φ (lwN p 4 C 6 3 W 1) = φ (lwN p 4 C 6 2 W 1) - φ (C 1) * φ (lwN p 4 C 6 2 W 4) := lw_b (e := 4) h (by decide) (by decide) rfl
  have l3_2 : φ (lwN p 4 C 6 3 W 2) = φ (lwN p 4 C 6 2 W 2) - φ (C 2) * φ (lwN p 4 C 6 2 W 4) := lw_b (e := 4) h (by decide) (by decide) rfl
  have l3_3 : φ (lwN p 4 C 6 3 W 3) = φ (lwN p 4 C 6 2 W 3) - φ (C 3) * φ (lwN p 4 C 6 2 W 4) := lw_b (e := 4) h (by decide) (by decide) rfl
  have l3_4 : φ (lwN p 4 C 6 3 W 4) = 0 := lw_a (e := 4) h rfl
  have l3_5 : φ (lwN p 4 C 6 3 W 5) = φ (lwN p 4 C 6 2 W 5) := lw_c (e := 4) (by decide) (by decide)
  have l3_6 : φ (lwN p 4 C 6 3 W 6) = φ (lwN p 4 C 6 2 W 6) := lw_c (e := 4) (by decide) (by decide)
  generalize φ (tbl p 4 C A 0 0) = zt0_0 at *
  generalize φ (tbl p 4 C A 0 1) = zt0_1 at *
  generalize φ (tbl p 4 C A 0 2) = zt0_2 at *
  generalize φ (tbl p 4 C A 0 3) = zt0_3 at *
  generalize φ (tbl p 4 C A 1 0) = zt1_0 at *
  generalize φ (tbl p 4 C A 1 1) = zt1_1 at *
  generalize φ (tbl p 4 C A 1 2) = zt1_2 at *
  generalize φ (tbl p 4 C A 1 3) = zt1_3 at *
  generalize φ (tbl p 4 C A 2 0) = zt2_0 at *
  generalize φ (tbl p 4 C A 2 1) = zt2_1 at *
  generalize φ (tbl p 4 C A 2 2) = zt2_2 at *
  generalize φ (tbl p 4 C A 2 3) = zt2_3 at *
  generalize φ (tbl p 4 C A 3 0) = zt3_0 at *
  generalize φ (tbl p 4 C A 3 1) = zt3_1 at *
  generalize φ (tbl p 4 C A 3 2) = zt3_2 at *
  generalize φ (tbl p 4 C A 3 3) = zt3_3 at *
  generalize φ (lwN p 4 C 6 0 W 0) = zl0_0 at *
  generalize φ (lwN p 4 C 6 0 W 1) = zl0_1 at *
  generalize φ (lwN p 4 C 6 0 W 2) = zl0_2 at *
  generalize φ (lwN p 4 C 6 0 W 3) = zl0_3 at *
  generalize φ (lwN p 4 C 6 0 W 4) = zl0_4 at *
  generalize φ (lwN p 4 C 6 0 W 5) = zl0_5 at *
  generalize φ (lwN p 4 C 6 0 W 6) = zl0_6 at *
  generalize φ (lwN p 4 C 6 1 W 0) = zl1_0 at *
  generalize φ (lwN p 4 C 6 1 W 1) = zl1_1 at *
  generalize φ (lwN p 4 C 6 1 W 2) = zl1_2 at *
  generalize φ (lwN p 4 C 6 1 W 3) = zl1_3 at *
  generalize φ (lwN p 4 C 6 1 W 4) = zl1_4 at *
  generalize φ (lwN p 4 C 6 1 W 5) = zl1_5 at *
  generalize φ (lwN p 4 C 6 1 W 6) = zl1_6 at *
  generalize φ (lwN p 4 C 6 2 W 0) = zl2_0 at *
  generalize φ (lwN p 4 C 6 2 W 1) = zl2_1 at *
  generalize φ (lwN p 4 C 6 2 W 2) = zl2_2 at *
  generalize φ (lwN p 4 C 6 2 W 3) = zl2_3 at *
  generalize φ (lwN p 4 C 6 2 W 4) = zl2_4 at *
  generalize φ (lwN p 4 C 6 2 W 5) = zl2_5 at *
  generalize φ (lwN p 4 C 6 2 W 6) = zl2_6 at *
  generalize φ (lwN p 4 C 6 3 W 0) = zl3_0 at *
  generalize φ (lwN p 4 C 6 3 W 1) = zl3_1 at *
  generalize φ (lwN p 4 C 6 3 W 2) = zl3_2 at *
  generalize φ (lwN p 4 C 6 3 W 3) = zl3_3 at *
  generalize φ (lwN p 4 C 6 3 W 4) = zl3_4 at *
  generalize φ (lwN p 4 C 6 3 W 5) = zl3_5 at *
  generalize φ (lwN p 4 C 6 3 W 6) = zl3_6 at *
  generalize φ (W 0) = v0 at *
  generalize φ (W 1) = v1 at *
  generalize φ (W 2) = v2 at *
  generalize φ (W 3) = v3 at *
  generalize φ (W 4) = v4 at *
  generalize φ (W 5) = v5 at *
  generalize φ (W 6) = v6 at *
  generalize φ (A 0) = a0 at *
  generalize φ (B 0) = b0 at *
  generalize φ (C 0) = c0 at *
  generalize φ (A 1) = a1 at *
  generalize φ (B 1) = b1 at *
  generalize φ (C 1) = c1 at *
  generalize φ (A 2) = a2 at *
  generalize φ (B 2) = b2 at *
  generalize φ (C 2) = c2 at *
  generalize φ (A 3) = a3 at *
  generalize φ (B 3) = b3 at *
  generalize φ (C 3) = c3 at *
  subst w0
  subst w1
  subst w2
  subst w3
  subst w4
  subst w5
  subst w6
  subst t0_0
  subst t0_1
  subst t0_2
  subst t0_3
  subst t1_0
  subst t1_1
  subst t1_2
  subst t1_3
  subst t2_0
  subst t2_1
  subst t2_2
  subst t2_3
  subst t3_0
  subst t3_1
  subst t3_2
  subst t3_3
  subst l0_0
  subst l0_1
  subst l0_2
  subst l0_3
  subst l0_4
  subst l0_5
  subst l0_6
  subst l1_0
  subst l1_1
  subst l1_2
  subst l1_3
  subst l1_4
  subst l1_5
  subst l1_6
  subst l2_0
  subst l2_1
  subst l2_2
  subst l2_3
  subst l2_4
  subst l2_5
  subst l2_6
  subst l3_0
  subst l3_1
  subst l3_2
  subst l3_3
  subst l3_4
  subst l3_5
  subst l3_6
  refine ⟨?_, ?_, ?_, ?_⟩ <;> grind
