/-! The same for maps that keep products of polynomials. -/
def PDg (f : Int → Int) : Prop := ∀ x : Int, 199 < x → f x = 0
def HMd (p : Int) {O : Type} [I : Lean.Grind.CommRing O] (φ : (Int → Int) → O) : Prop := (∀ f g, φ (fun x => f x + g x) = φ f + φ g) ∧ (∀ f g, PDg f → PDg g → φ (cnv f g) = φ f * φ g) ∧ (∀ f, φ (fun x => f x % p) = φ f) ∧ (∀ f, φ (fun x => -1 * f x) = - φ f) ∧ φ (fun x => if x = 0 then 1 else 0) = 1 ∧ φ (fun _ => 0) = 0
theorem hmd_sm {p : Int} {O : Type} [I : Lean.Grind.CommRing O] {φ : (Int → Int) → O} (h : HMd p φ) (n : Nat) (f : Int → Int → Int) : φ (fun x => sm (n + 1) (fun i => f i x)) = φ (fun x => sm n (fun i => f i x)) + φ (f n) := by
  rw [← h.1]
  rfl
theorem bkd_q {p : Int} {O : Type} [I : Lean.Grind.CommRing O] {φ : (Int → Int) → O} (h : HMd p φ) {E : Int → Int → Int} {r : Nat} {i : Int} (i0 : 0 ≤ i) (i1 : i ≤ (r : Int) + 1) : φ (bkQ p E (r + 1) i) = φ (fun x => sm (min i r + 1).toNat (fun k => cnv (bkH p r E (i - k)) (bkQ p E r k) x)) := by
  rw [show bkQ p E (r + 1) i = fun x => (fun x => sm (min i r + 1).toNat (fun k => cnv (bkH p r E (i - k)) (bkQ p E r k) x)) x % p from funext fun x => if_pos ⟨i0, i1⟩]
  exact h.2.2.1 _
theorem bkd_h0 {p r : Int} {O : Type} [I : Lean.Grind.CommRing O] {φ : (Int → Int) → O} (h : HMd p φ) {E : Int → Int → Int} (r0 : 0 ≤ r) : φ (bkH p r E 0) = 1 := by
  rw [show bkH p r E 0 = fun x => if x = 0 then 1 else 0 from funext fun x => (if_neg (by omega)).trans (if_pos rfl)]
  exact h.2.2.2.2.1
theorem bkd_h1 {p r : Int} {O : Type} [I : Lean.Grind.CommRing O] {φ : (Int → Int) → O} (h : HMd p φ) {E : Int → Int → Int} (r0 : 0 ≤ r) : φ (bkH p r E 1) = - φ (E (4 * r + r)) := by
  rw [show bkH p r E 1 = fun x => (fun x => -1 * E (4 * r + r) x) x % p from funext fun x => (if_neg (by omega)).trans ((if_neg (by decide)).trans (if_pos rfl)), h.2.2.1, h.2.2.2.1]
theorem bkd_h2 {p r e : Int} {O : Type} [I : Lean.Grind.CommRing O] {φ : (Int → Int) → O} (h : HMd p φ) {E : Int → Int → Int} (e0 : 2 ≤ e) (e1 : e ≤ r + 1) : φ (bkH p r E e) = - φ (fun x => sm r.toNat (fun i => cnv (E (4 * r + i)) (bkC p r E (e - 2).toNat i) x)) := by
  rw [show bkH p r E e = fun x => (fun x => -1 * (fun x => (fun x => sm r.toNat (fun i => cnv (E (4 * r + i)) (bkC p r E (e - 2).toNat i) x)) x % p) x) x % p from funext fun x => (if_neg (by omega)).trans ((if_neg (by omega)).trans (if_neg (by omega))), h.2.2.1, h.2.2.2.1, h.2.2.1]
theorem bkd_c0 {p r i : Int} {O : Type} [I : Lean.Grind.CommRing O] {φ : (Int → Int) → O} {E : Int → Int → Int} (i0 : 0 ≤ i) (i1 : i < r) : φ (bkC p r E 0 i) = φ (E (4 * i + r)) := by
  rw [show bkC p r E 0 i = E (4 * i + r) from funext fun x => if_pos ⟨i0, i1⟩]
theorem bkd_c1 {p r i : Int} {k : Nat} {O : Type} [I : Lean.Grind.CommRing O] {φ : (Int → Int) → O} (h : HMd p φ) {E : Int → Int → Int} (i0 : 0 ≤ i) (i1 : i < r) : φ (bkC p r E (k + 1) i) = φ (fun x => sm r.toNat (fun l => cnv (E (4 * i + l)) (bkC p r E k l) x)) := by
  rw [show bkC p r E (k + 1) i = fun x => (fun x => sm r.toNat (fun l => cnv (E (4 * i + l)) (bkC p r E k l) x)) x % p from funext fun x => if_pos ⟨i0, i1⟩]
  exact h.2.2.1 _
theorem hmd_sp1 {p : Int} {O : Type} [I : Lean.Grind.CommRing O] {φ : (Int → Int) → O} (h : HMd p φ) (f g : Int → Int → Int) (df : ∀ j : Int, 0 ≤ j → j < 1 → PDg (f j)) (dg : ∀ j : Int, 0 ≤ j → j < 1 → PDg (g j)) : φ (fun x => sm 1 (fun j => cnv (f j) (g j) x)) = φ (f 0) * φ (g 0) := by
  have s := fun n => hmd_sm h n (fun j x => cnv (f j) (g j) x)
  rw [show (1 : Nat) = 0 + 1 from rfl, s]
  rw [show (fun x => sm 0 (fun i => cnv (f i) (g i) x)) = fun _ => 0 from rfl, h.2.2.2.2.2]
  show 0 + φ (cnv (f 0) (g 0)) = _
  rw [h.2.1 (f 0) (g 0) (df 0 (by decide) (by decide)) (dg 0 (by decide) (by decide))]
  grind
theorem hmd_sp2 {p : Int} {O : Type} [I : Lean.Grind.CommRing O] {φ : (Int → Int) → O} (h : HMd p φ) (f g : Int → Int → Int) (df : ∀ j : Int, 0 ≤ j → j < 2 → PDg (f j)) (dg : ∀ j : Int, 0 ≤ j → j < 2 → PDg (g j)) : φ (fun x => sm 2 (fun j => cnv (f j) (g j) x)) = φ (f 0) * φ (g 0) + φ (f 1) * φ (g 1) := by
  have s := fun n => hmd_sm h n (fun j x => cnv (f j) (g j) x)
  rw [show (2 : Nat) = 0 + 1 + 1 from rfl, s, s]
  rw [show (fun x => sm 0 (fun i => cnv (f i) (g i) x)) = fun _ => 0 from rfl, h.2.2.2.2.2]
  show 0 + φ (cnv (f 0) (g 0)) + φ (cnv (f 1) (g 1)) = _
  rw [h.2.1 (f 0) (g 0) (df 0 (by decide) (by decide)) (dg 0 (by decide) (by decide)), h.2.1 (f 1) (g 1) (df 1 (by decide) (by decide)) (dg 1 (by decide) (by decide))]
  grind
theorem hmd_sp3 {p : Int} {O : Type} [I : Lean.Grind.CommRing O] {φ : (Int → Int) → O} (h : HMd p φ) (f g : Int → Int → Int) (df : ∀ j : Int, 0 ≤ j → j < 3 → PDg (f j)) (dg : ∀ j : Int, 0 ≤ j → j < 3 → PDg (g j)) : φ (fun x => sm 3 (fun j => cnv (f j) (g j) x)) = φ (f 0) * φ (g 0) + φ (f 1) * φ (g 1) + φ (f 2) * φ (g 2) := by
  have s := fun n => hmd_sm h n (fun j x => cnv (f j) (g j) x)
  rw [show (3 : Nat) = 0 + 1 + 1 + 1 from rfl, s, s, s]
  rw [show (fun x => sm 0 (fun i => cnv (f i) (g i) x)) = fun _ => 0 from rfl, h.2.2.2.2.2]
  show 0 + φ (cnv (f 0) (g 0)) + φ (cnv (f 1) (g 1)) + φ (cnv (f 2) (g 2)) = _
  rw [h.2.1 (f 0) (g 0) (df 0 (by decide) (by decide)) (dg 0 (by decide) (by decide)), h.2.1 (f 1) (g 1) (df 1 (by decide) (by decide)) (dg 1 (by decide) (by decide)), h.2.1 (f 2) (g 2) (df 2 (by decide) (by decide)) (dg 2 (by decide) (by decide))]
  grind
theorem hmd_sp4 {p : Int} {O : Type} [I : Lean.Grind.CommRing O] {φ : (Int → Int) → O} (h : HMd p φ) (f g : Int → Int → Int) (df : ∀ j : Int, 0 ≤ j → j < 4 → PDg (f j)) (dg : ∀ j : Int, 0 ≤ j → j < 4 → PDg (g j)) : φ (fun x => sm 4 (fun j => cnv (f j) (g j) x)) = φ (f 0) * φ (g 0) + φ (f 1) * φ (g 1) + φ (f 2) * φ (g 2) + φ (f 3) * φ (g 3) := by
  have s := fun n => hmd_sm h n (fun j x => cnv (f j) (g j) x)
  rw [show (4 : Nat) = 0 + 1 + 1 + 1 + 1 from rfl, s, s, s, s]
  rw [show (fun x => sm 0 (fun i => cnv (f i) (g i) x)) = fun _ => 0 from rfl, h.2.2.2.2.2]
  show 0 + φ (cnv (f 0) (g 0)) + φ (cnv (f 1) (g 1)) + φ (cnv (f 2) (g 2)) + φ (cnv (f 3) (g 3)) = _
  rw [h.2.1 (f 0) (g 0) (df 0 (by decide) (by decide)) (dg 0 (by decide) (by decide)), h.2.1 (f 1) (g 1) (df 1 (by decide) (by decide)) (dg 1 (by decide) (by decide)), h.2.1 (f 2) (g 2) (df 2 (by decide) (by decide)) (dg 2 (by decide) (by decide)), h.2.1 (f 3) (g 3) (df 3 (by decide) (by decide)) (dg 3 (by decide) (by decide))]
  grind
set_option maxHeartbeats 4000000 in
theorem bkd_ch2 {p : Int} {O : Type} [I : Lean.Grind.CommRing O] {φ : (Int → Int) → O} (h : HMd p φ) {E : Int → Int → Int} (dE : ∀ k : Int, 0 ≤ k → k < 16 → PDg (E k)) (dC : ∀ (r : Int) (k : Nat) (i : Int), 0 ≤ r → r < 4 → k < 3 → PDg (bkC p r E k i)) (dH : ∀ r h : Int, 0 ≤ r → r < 4 → PDg (bkH p r E h)) (dQ : ∀ (r : Nat) (i : Int), r < 4 → PDg (bkQ p E r i)) : φ (bkQ p E 2 1) = 0 - φ (E 0) - φ (E 5) ∧ φ (bkQ p E 2 2) = φ (E 0) * φ (E 5) - φ (E 1) * φ (E 4) := by
  have q00 : φ (bkQ p E 0 0) = 1 := by
    rw [show bkQ p E 0 0 = fun x => if x = 0 then 1 else 0 from funext fun x => by show (if (0 : Int) = 0 ∧ x = 0 then (1 : Int) else 0) = _; simp]
    exact h.2.2.2.2.1
  have h0_0 : φ (bkH p 0 E 0) = 1 := bkd_h0 h (by decide)
  have h0_1 : φ (bkH p 0 E 1) = - φ (E 0) := bkd_h1 h (by decide)
  have q10 : φ (bkQ p E 1 0) = φ (bkH p 0 E 0) * φ (bkQ p E 0 0) := (bkd_q (r := 0) h (by decide) (by decide)).trans (hmd_sp1 h (fun k => bkH p 0 E (0 - k)) (bkQ p E 0) (fun j j0 j1 => dH _ _ (by decide) (by decide)) (fun j j0 j1 => dQ _ _ (by decide)))
  have q11 : φ (bkQ p E 1 1) = φ (bkH p 0 E 1) * φ (bkQ p E 0 0) := (bkd_q (r := 0) h (by decide) (by decide)).trans (hmd_sp1 h (fun k => bkH p 0 E (1 - k)) (bkQ p E 0) (fun j j0 j1 => dH _ _ (by decide) (by decide)) (fun j j0 j1 => dQ _ _ (by decide)))
  have c1_0_0 : φ (bkC p 1 E 0 0) = φ (E 1) := bkd_c0 (by decide) (by decide)
  have h1_0 : φ (bkH p 1 E 0) = 1 := bkd_h0 h (by decide)
  have h1_1 : φ (bkH p 1 E 1) = - φ (E 5) := bkd_h1 h (by decide)
  have h1_2 : φ (bkH p 1 E 2) = - (φ (E 4) * φ (bkC p 1 E 0 0)) := (bkd_h2 h (by decide) (by decide)).trans (congrArg (fun z => - z) (hmd_sp1 h (fun i => E (4 * 1 + i)) (bkC p 1 E 0) (fun j j0 j1 => dE _ (by omega) (by omega)) (fun j j0 j1 => dC _ _ _ (by decide) (by decide) (by decide))))
  have q20 : φ (bkQ p E 2 0) = φ (bkH p 1 E 0) * φ (bkQ p E 1 0) := (bkd_q (r := 1) h (by decide) (by decide)).trans (hmd_sp1 h (fun k => bkH p 1 E (0 - k)) (bkQ p E 1) (fun j j0 j1 => dH _ _ (by decide) (by decide)) (fun j j0 j1 => dQ _ _ (by decide)))
  have q21 : φ (bkQ p E 2 1) = φ (bkH p 1 E 1) * φ (bkQ p E 1 0) + φ (bkH p 1 E 0) * φ (bkQ p E 1 1) := (bkd_q (r := 1) h (by decide) (by decide)).trans (hmd_sp2 h (fun k => bkH p 1 E (1 - k)) (bkQ p E 1) (fun j j0 j1 => dH _ _ (by decide) (by decide)) (fun j j0 j1 => dQ _ _ (by decide)))
  have q22 : φ (bkQ p E 2 2) = φ (bkH p 1 E 2) * φ (bkQ p E 1 0) + φ (bkH p 1 E 1) * φ (bkQ p E 1 1) := (bkd_q (r := 1) h (by decide) (by decide)).trans (hmd_sp2 h (fun k => bkH p 1 E (2 - k)) (bkQ p E 1) (fun j j0 j1 => dH _ _ (by decide) (by decide)) (fun j j0 j1 => dQ _ _ (by decide)))
  clear dE dC dH dQ
  generalize φ (bkQ p E 0 0) = zq00 at *
  generalize φ (bkH p 0 E 0) = zh0_0 at *
  generalize φ (bkH p 0 E 1) = zh0_1 at *
  generalize φ (bkQ p E 1 0) = zq10 at *
  generalize φ (bkQ p E 1 1) = zq11 at *
  generalize φ (bkC p 1 E 0 0) = zc1_0_0 at *
  generalize φ (bkH p 1 E 0) = zh1_0 at *
  generalize φ (bkH p 1 E 1) = zh1_1 at *
  generalize φ (bkH p 1 E 2) = zh1_2 at *
  generalize φ (bkQ p E 2 0) = zq20 at *
  generalize φ (bkQ p E 2 1) = zq21 at *
  generalize φ (bkQ p E 2 2) = zq22 at *
  generalize φ (E 0) = a0 at *
  generalize φ (E 1) = a1 at *
  generalize φ (E 4) = a4 at *
  generalize φ (E 5) = a5 at *
  subst q00
  subst h0_0
  subst h0_1
  subst q10
  subst q11
  subst c1_0_0
  subst h1_0
  subst h1_1
  subst h1_2
  subst q20
  subst q21
  subst q22
  refine ⟨?_, ?_⟩ <;> grind
set_option maxHeartbeats 4000000 in
theorem bkd_ch3 {p : Int} {O : Type} [I : Lean.Grind.CommRing O] {φ : (Int → Int) → O} (h : HMd p φ) {E : Int → Int → Int} (dE : ∀ k : Int, 0 ≤ k → k < 16 → PDg (E k)) (dC : ∀ (r : Int) (k : Nat) (i : Int), 0 ≤ r → r < 4 → k < 3 → PDg (bkC p r E k i)) (dH : ∀ r h : Int, 0 ≤ r → r < 4 → PDg (bkH p r E h)) (dQ : ∀ (r : Nat) (i : Int), r < 4 → PDg (bkQ p E r i)) : φ (bkQ p E 3 1) = 0 - φ (E 0) - φ (E 5) - φ (E 10) ∧ φ (bkQ p E 3 2) = φ (E 0) * φ (E 5) - φ (E 1) * φ (E 4) + φ (E 0) * φ (E 10) - φ (E 2) * φ (E 8) + φ (E 5) * φ (E 10) - φ (E 6) * φ (E 9) ∧ φ (bkQ p E 3 3) = 0 - φ (E 0) * φ (E 5) * φ (E 10) + φ (E 0) * φ (E 6) * φ (E 9) + φ (E 1) * φ (E 4) * φ (E 10) - φ (E 1) * φ (E 6) * φ (E 8) - φ (E 2) * φ (E 4) * φ (E 9) + φ (E 2) * φ (E 5) * φ (E 8) := by
  have q00 : φ (bkQ p E 0 0) = 1 := by
    rw [show bkQ p E 0 0 = fun x => if x = 0 then 1 else 0 from funext fun x => by show (if (0 : Int) = 0 ∧ x = 0 then (1 : Int) else 0) = _; simp]
    exact h.2.2.2.2.1
  have h0_0 : φ (bkH p 0 E 0) = 1 := bkd_h0 h (by decide)
  have h0_1 : φ (bkH p 0 E 1) = - φ (E 0) := bkd_h1 h (by decide)
  have q10 : φ (bkQ p E 1 0) = φ (bkH p 0 E 0) * φ (bkQ p E 0 0) := (bkd_q (r := 0) h (by decide) (by decide)).trans (hmd_sp1 h (fun k => bkH p 0 E (0 - k)) (bkQ p E 0) (fun j j0 j1 => dH _ _ (by decide) (by decide)) (fun j j0 j1 => dQ _ _ (by decide)))
  have q11 : φ (bkQ p E 1 1) = φ (bkH p 0 E 1) * φ (bkQ p E 0 0) := (bkd_q (r := 0) h (by decide) (by decide)).trans (hmd_sp1 h (fun k => bkH p 0 E (1 - k)) (bkQ p E 0) (fun j j0 j1 => dH _ _ (by decide) (by decide)) (fun j j0 j1 => dQ _ _ (by decide)))
  have c1_0_0 : φ (bkC p 1 E 0 0) = φ (E 1) := bkd_c0 (by decide) (by decide)
  have h1_0 : φ (bkH p 1 E 0) = 1 := bkd_h0 h (by decide)
  have h1_1 : φ (bkH p 1 E 1) = - φ (E 5) := bkd_h1 h (by decide)
  have h1_2 : φ (bkH p 1 E 2) = - (φ (E 4) * φ (bkC p 1 E 0 0)) := (bkd_h2 h (by decide) (by decide)).trans (congrArg (fun z => - z) (hmd_sp1 h (fun i => E (4 * 1 + i)) (bkC p 1 E 0) (fun j j0 j1 => dE _ (by omega) (by omega)) (fun j j0 j1 => dC _ _ _ (by decide) (by decide) (by decide))))
  have q20 : φ (bkQ p E 2 0) = φ (bkH p 1 E 0) * φ (bkQ p E 1 0) := (bkd_q (r := 1) h (by decide) (by decide)).trans (hmd_sp1 h (fun k => bkH p 1 E (0 - k)) (bkQ p E 1) (fun j j0 j1 => dH _ _ (by decide) (by decide)) (fun j j0 j1 => dQ _ _ (by decide)))
  have q21 : φ (bkQ p E 2 1) = φ (bkH p 1 E 1) * φ (bkQ p E 1 0) + φ (bkH p 1 E 0) * φ (bkQ p E 1 1) := (bkd_q (r := 1) h (by decide) (by decide)).trans (hmd_sp2 h (fun k => bkH p 1 E (1 - k)) (bkQ p E 1) (fun j j0 j1 => dH _ _ (by decide) (by decide)) (fun j j0 j1 => dQ _ _ (by decide)))
  have q22 : φ (bkQ p E 2 2) = φ (bkH p 1 E 2) * φ (bkQ p E 1 0) + φ (bkH p 1 E 1) * φ (bkQ p E 1 1) := (bkd_q (r := 1) h (by decide) (by decide)).trans (hmd_sp2 h (fun k => bkH p 1 E (2 - k)) (bkQ p E 1) (fun j j0 j1 => dH _ _ (by decide) (by decide)) (fun j j0 j1 => dQ _ _ (by decide)))
  have c2_0_0 : φ (bkC p 2 E 0 0) = φ (E 2) := bkd_c0 (by decide) (by decide)
  have c2_0_1 : φ (bkC p 2 E 0 1) = φ (E 6) := bkd_c0 (by decide) (by decide)
  have c2_1_0 : φ (bkC p 2 E 1 0) = φ (E 0) * φ (bkC p 2 E 0 0) + φ (E 1) * φ (bkC p 2 E 0 1) := (bkd_c1 (k := 0) h (by decide) (by decide)).trans (hmd_sp2 h (fun l => E (4 * 0 + l)) (bkC p 2 E 0) (fun j j0 j1 => dE _ (by omega) (by omega)) (fun j j0 j1 => dC _ _ _ (by decide) (by decide) (by decide)))
  have c2_1_1 : φ (bkC p 2 E 1 1) = φ (E 4) * φ (bkC p 2 E 0 0) + φ (E 5) * φ (bkC p 2 E 0 1) := (bkd_c1 (k := 0) h (by decide) (by decide)).trans (hmd_sp2 h (fun l => E (4 * 1 + l)) (bkC p 2 E 0) (fun j j0 j1 => dE _ (by omega) (by omega)) (fun j j0 j1 => dC _ _ _ (by decide) (by decide) (by decide)))
  have h2_0 : φ (bkH p 2 E 0) = 1 := bkd_h0 h (by decide)
  have h2_1 : φ (bkH p 2 E 1) = - φ (E 10) := bkd_h1 h (by decide)
  have h2_2 : φ (bkH p 2 E 2) = - (φ (E 8) * φ (bkC p 2 E 0 0) + φ (E 9) * φ (bkC p 2 E 0 1)) := (bkd_h2 h (by decide) (by decide)).trans (congrArg (fun z => - z) (hmd_sp2 h (fun i => E (4 * 2 + i)) (bkC p 2 E 0) (fun j j0 j1 => dE _ (by omega) (by omega)) (fun j j0 j1 => dC _ _ _ (by decide) (by decide) (by decide))))
  have h2_3 : φ (bkH p 2 E 3) = - (φ (E 8) * φ (bkC p 2 E 1 0) + φ (E 9) * φ (bkC p 2 E 1 1)) := (bkd_h2 h (by decide) (by decide)).trans (congrArg (fun z => - z) (hmd_sp2 h (fun i => E (4 * 2 + i)) (bkC p 2 E 1) (fun j j0 j1 => dE _ (by omega) (by omega)) (fun j j0 j1 => dC _ _ _ (by decide) (by decide) (by decide))))
  have q30 : φ (bkQ p E 3 0) = φ (bkH p 2 E 0) * φ (bkQ p E 2 0) := (bkd_q (r := 2) h (by decide) (by decide)).trans (hmd_sp1 h (fun k => bkH p 2 E (0 - k)) (bkQ p E 2) (fun j j0 j1 => dH _ _ (by decide) (by decide)) (fun j j0 j1 => dQ _ _ (by decide)))
  have q31 : φ (bkQ p E 3 1) = φ (bkH p 2 E 1) * φ (bkQ p E 2 0) + φ (bkH p 2 E 0) * φ (bkQ p E 2 1) := (bkd_q (r := 2) h (by decide) (by decide)).trans (hmd_sp2 h (fun k => bkH p 2 E (1 - k)) (bkQ p E 2) (fun j j0 j1 => dH _ _ (by decide) (by decide)) (fun j j0 j1 => dQ _ _ (by decide)))
  have q32 : φ (bkQ p E 3 2) = φ (bkH p 2 E 2) * φ (bkQ p E 2 0) + φ (bkH p 2 E 1) * φ (bkQ p E 2 1) + φ (bkH p 2 E 0) * φ (bkQ p E 2 2) := (bkd_q (r := 2) h (by decide) (by decide)).trans (hmd_sp3 h (fun k => bkH p 2 E (2 - k)) (bkQ p E 2) (fun j j0 j1 => dH _ _ (by decide) (by decide)) (fun j j0 j1 => dQ _ _ (by decide)))
  have q33 : φ (bkQ p E 3 3) = φ (bkH p 2 E 3) * φ (bkQ p E 2 0) + φ (bkH p 2 E 2) * φ (bkQ p E 2 1) + φ (bkH p 2 E 1) * φ (bkQ p E 2 2) := (bkd_q (r := 2) h (by decide) (by decide)).trans (hmd_sp3 h (fun k => bkH p 2 E (3 - k)) (bkQ p E 2) (fun j j0 j1 => dH _ _ (by decide) (by decide)) (fun j j0 j1 => dQ _ _ (by decide)))
  clear dE dC dH dQ
  generalize φ (bkQ p E 0 0) = zq00 at *
  generalize φ (bkH p 0 E 0) = zh0_0 at *
  generalize φ (bkH p 0 E 1) = zh0_1 at *
  generalize φ (bkQ p E 1 0) = zq10 at *
  generalize φ (bkQ p E 1 1) = zq11 at *
  generalize φ (bkC p 1 E 0 0) = zc1_0_0 at *
  generalize φ (bkH p 1 E 0) = zh1_0 at *
  generalize φ (bkH p 1 E 1) = zh1_1 at *
  generalize φ (bkH p 1 E 2) = zh1_2 at *
  generalize φ (bkQ p E 2 0) = zq20 at *
  generalize φ (bkQ p E 2 1) = zq21 at *
  generalize φ (bkQ p E 2 2) = zq22 at *
  generalize φ (bkC p 2 E 0 0) = zc2_0_0 at *
  generalize φ (bkC p 2 E 0 1) = zc2_0_1 at *
  generalize φ (bkC p 2 E 1 0) = zc2_1_0 at *
  generalize φ (bkC p 2 E 1 1) = zc2_1_1 at *
  generalize φ (bkH p 2 E 0) = zh2_0 at *
  generalize φ (bkH p 2 E 1) = zh2_1 at *
  generalize φ (bkH p 2 E 2) = zh2_2 at *
  generalize φ (bkH p 2 E 3) = zh2_3 at *
  generalize φ (bkQ p E 3 0) = zq30 at *
  generalize φ (bkQ p E 3 1) = zq31 at *
  generalize φ (bkQ p E 3 2) = zq32 at *
  generalize φ (bkQ p E 3 3) = zq33 at *
  generalize φ (E 0) = a0 at *
  generalize φ (E 1) = a1 at *
  generalize φ (E 2) = a2 at *
  generalize φ (E 4) = a4 at *
  generalize φ (E 5) = a5 at *
  generalize φ (E 6) = a6 at *
  generalize φ (E 8) = a8 at *
  generalize φ (E 9) = a9 at *
  generalize φ (E 10) = a10 at *
  subst q00
  subst h0_0
  subst h0_1
  subst q10
  subst q11
  subst c1_0_0
  subst h1_0
  subst h1_1
  subst h1_2
  subst q20
  subst q21
  subst q22
  subst c2_0_0
  subst c2_0_1
  subst c2_1_0
  subst c2_1_1
  subst h2_0
  subst h2_1
  subst h2_2
  subst h2_3
  subst q30
  subst q31
  subst q32
  subst q33
  refine ⟨?_, ?_, ?_⟩ <;> grind
set_option maxHeartbeats 4000000 in
theorem bkd_ch4 {p : Int} {O : Type} [I : Lean.Grind.CommRing O] {φ : (Int → Int) → O} (h : HMd p φ) {E : Int → Int → Int} (dE : ∀ k : Int, 0 ≤ k → k < 16 → PDg (E k)) (dC : ∀ (r : Int) (k : Nat) (i : Int), 0 ≤ r → r < 4 → k < 3 → PDg (bkC p r E k i)) (dH : ∀ r h : Int, 0 ≤ r → r < 4 → PDg (bkH p r E h)) (dQ : ∀ (r : Nat) (i : Int), r < 4 → PDg (bkQ p E r i)) : φ (bkQ p E 4 1) = 0 - φ (E 0) - φ (E 5) - φ (E 10) - φ (E 15) ∧ φ (bkQ p E 4 2) = φ (E 0) * φ (E 5) - φ (E 1) * φ (E 4) + φ (E 0) * φ (E 10) - φ (E 2) * φ (E 8) + φ (E 0) * φ (E 15) - φ (E 3) * φ (E 12) + φ (E 5) * φ (E 10) - φ (E 6) * φ (E 9) + φ (E 5) * φ (E 15) - φ (E 7) * φ (E 13) + φ (E 10) * φ (E 15) - φ (E 11) * φ (E 14) ∧ φ (bkQ p E 4 3) = 0 - φ (E 0) * φ (E 5) * φ (E 10) + φ (E 0) * φ (E 6) * φ (E 9) + φ (E 1) * φ (E 4) * φ (E 10) - φ (E 1) * φ (E 6) * φ (E 8) - φ (E 2) * φ (E 4) * φ (E 9) + φ (E 2) * φ (E 5) * φ (E 8) - φ (E 0) * φ (E 5) * φ (E 15) + φ (E 0) * φ (E 7) * φ (E 13) + φ (E 1) * φ (E 4) * φ (E 15) - φ (E 1) * φ (E 7) * φ (E 12) - φ (E 3) * φ (E 4) * φ (E 13) + φ (E 3) * φ (E 5) * φ (E 12) - φ (E 0) * φ (E 10) * φ (E 15) + φ (E 0) * φ (E 11) * φ (E 14) + φ (E 2) * φ (E 8) * φ (E 15) - φ (E 2) * φ (E 11) * φ (E 12) - φ (E 3) * φ (E 8) * φ (E 14) + φ (E 3) * φ (E 10) * φ (E 12) - φ (E 5) * φ (E 10) * φ (E 15) + φ (E 5) * φ (E 11) * φ (E 14) + φ (E 6) * φ (E 9) * φ (E 15) - φ (E 6) * φ (E 11) * φ (E 13) - φ (E 7) * φ (E 9) * φ (E 14) + φ (E 7) * φ (E 10) * φ (E 13) ∧ φ (bkQ p E 4 4) = φ (E 0) * φ (E 5) * φ (E 10) * φ (E 15) - φ (E 0) * φ (E 5) * φ (E 11) * φ (E 14) - φ (E 0) * φ (E 6) * φ (E 9) * φ (E 15) + φ (E 0) * φ (E 6) * φ (E 11) * φ (E 13) + φ (E 0) * φ (E 7) * φ (E 9) * φ (E 14) - φ (E 0) * φ (E 7) * φ (E 10) * φ (E 13) - φ (E 1) * φ (E 4) * φ (E 10) * φ (E 15) + φ (E 1) * φ (E 4) * φ (E 11) * φ (E 14) + φ (E 1) * φ (E 6) * φ (E 8) * φ (E 15) - φ (E 1) * φ (E 6) * φ (E 11) * φ (E 12) - φ (E 1) * φ (E 7) * φ (E 8) * φ (E 14) + φ (E 1) * φ (E 7) * φ (E 10) * φ (E 12) + φ (E 2) * φ (E 4) * φ (E 9) * φ (E 15) - φ (E 2) * φ (E 4) * φ (E 11) * φ (E 13) - φ (E 2) * φ (E 5) * φ (E 8) * φ (E 15) + φ (E 2) * φ (E 5) * φ (E 11) * φ (E 12) + φ (E 2) * φ (E 7) * φ (E 8) * φ (E 13) - φ (E 2) * φ (E 7) * φ (E 9) * φ (E 12) - φ (E 3) * φ (E 4) * φ (E 9) * φ (E 14) + φ (E 3) * φ (E 4) * φ (E 10) * φ (E 13) + φ (E 3) * φ (E 5) * φ (E 8) * φ (E 14) - φ (E 3) * φ (E 5) * φ (E 10) * φ (E 12) - φ (E 3) * φ (E 6) * φ (E 8) * φ (E 13) + φ (E 3) * φ (E 6) * φ (E 9) * φ (E 12) := by
  have q00 : φ (bkQ p E 0 0) = 1 := by
    rw [show bkQ p E 0 0 = fun x => if x = 0 then 1 else 0 from funext fun x => by show (if (0 : Int) = 0 ∧ x = 0 then (1 : Int) else 0) = _; simp]
    exact h.2.2.2.2.1
  have h0_0 : φ (bkH p 0 E 0) = 1 := bkd_h0 h (by decide)
  have h0_1 : φ (bkH p 0 E 1) = - φ (E 0) := bkd_h1 h (by decide)
  have q10 : φ (bkQ p E 1 0) = φ (bkH p 0 E 0) * φ (bkQ p E 0 0) := (bkd_q (r := 0) h (by decide) (by decide)).trans (hmd_sp1 h (fun k => bkH p 0 E (0 - k)) (bkQ p E 0) (fun j j0 j1 => dH _ _ (by decide) (by decide)) (fun j j0 j1 => dQ _ _ (by decide)))
  have q11 : φ (bkQ p E 1 1) = φ (bkH p 0 E 1) * φ (bkQ p E 0 0) := (bkd_q (r := 0) h (by decide) (by decide)).trans (hmd_sp1 h (fun k => bkH p 0 E (1 - k)) (bkQ p E 0) (fun j j0 j1 => dH _ _ (by decide) (by decide)) (fun j j0 j1 => dQ _ _ (by decide)))
  have c1_0_0 : φ (bkC p 1 E 0 0) = φ (E 1) := bkd_c0 (by decide) (by decide)
  have h1_0 : φ (bkH p 1 E 0) = 1 := bkd_h0 h (by decide)
  have h1_1 : φ (bkH p 1 E 1) = - φ (E 5) := bkd_h1 h (by decide)
  have h1_2 : φ (bkH p 1 E 2) = - (φ (E 4) * φ (bkC p 1 E 0 0)) := (bkd_h2 h (by decide) (by decide)).trans (congrArg (fun z => - z) (hmd_sp1 h (fun i => E (4 * 1 + i)) (bkC p 1 E 0) (fun j j0 j1 => dE _ (by omega) (by omega)) (fun j j0 j1 => dC _ _ _ (by decide) (by decide) (by decide))))
  have q20 : φ (bkQ p E 2 0) = φ (bkH p 1 E 0) * φ (bkQ p E 1 0) := (bkd_q (r := 1) h (by decide) (by decide)).trans (hmd_sp1 h (fun k => bkH p 1 E (0 - k)) (bkQ p E 1) (fun j j0 j1 => dH _ _ (by decide) (by decide)) (fun j j0 j1 => dQ _ _ (by decide)))
  have q21 : φ (bkQ p E 2 1) = φ (bkH p 1 E 1) * φ (bkQ p E 1 0) + φ (bkH p 1 E 0) * φ (bkQ p E 1 1) := (bkd_q (r := 1) h (by decide) (by decide)).trans (hmd_sp2 h (fun k => bkH p 1 E (1 - k)) (bkQ p E 1) (fun j j0 j1 => dH _ _ (by decide) (by decide)) (fun j j0 j1 => dQ _ _ (by decide)))
  have q22 : φ (bkQ p E 2 2) = φ (bkH p 1 E 2) * φ (bkQ p E 1 0) + φ (bkH p 1 E 1) * φ (bkQ p E 1 1) := (bkd_q (r := 1) h (by decide) (by decide)).trans (hmd_sp2 h (fun k => bkH p 1 E (2 - k)) (bkQ p E 1) (fun j j0 j1 => dH _ _ (by decide) (by decide)) (fun j j0 j1 => dQ _ _ (by decide)))
  have c2_0_0 : φ (bkC p 2 E 0 0) = φ (E 2) := bkd_c0 (by decide) (by decide)
  have c2_0_1 : φ (bkC p 2 E 0 1) = φ (E 6) := bkd_c0 (by decide) (by decide)
  have c2_1_0 : φ (bkC p 2 E 1 0) = φ (E 0) * φ (bkC p 2 E 0 0) + φ (E 1) * φ (bkC p 2 E 0 1) := (bkd_c1 (k := 0) h (by decide) (by decide)).trans (hmd_sp2 h (fun l => E (4 * 0 + l)) (bkC p 2 E 0) (fun j j0 j1 => dE _ (by omega) (by omega)) (fun j j0 j1 => dC _ _ _ (by decide) (by decide) (by decide)))
  have c2_1_1 : φ (bkC p 2 E 1 1) = φ (E 4) * φ (bkC p 2 E 0 0) + φ (E 5) * φ (bkC p 2 E 0 1) := (bkd_c1 (k := 0) h (by decide) (by decide)).trans (hmd_sp2 h (fun l => E (4 * 1 + l)) (bkC p 2 E 0) (fun j j0 j1 => dE _ (by omega) (by omega)) (fun j j0 j1 => dC _ _ _ (by decide) (by decide) (by decide)))
  have h2_0 : φ (bkH p 2 E 0) = 1 := bkd_h0 h (by decide)
  have h2_1 : φ (bkH p 2 E 1) = - φ (E 10) := bkd_h1 h (by decide)
  have h2_2 : φ (bkH p 2 E 2) = - (φ (E 8) * φ (bkC p 2 E 0 0) + φ (E 9) * φ (bkC p 2 E 0 1)) := (bkd_h2 h (by decide) (by decide)).trans (congrArg (fun z => - z) (hmd_sp2 h (fun i => E (4 * 2 + i)) (bkC p 2 E 0) (fun j j0 j1 => dE _ (by omega) (by omega)) (fun j j0 j1 => dC _ _ _ (by decide) (by decide) (by decide))))
  have h2_3 : φ (bkH p 2 E 3) = - (φ (E 8) * φ (bkC p 2 E 1 0) + φ (E 9) * φ (bkC p 2 E 1 1)) := (bkd_h2 h (by decide) (by decide)).trans (congrArg (fun z => - z) (hmd_sp2 h (fun i => E (4 * 2 + i)) (bkC p 2 E 1) (fun j j0 j1 => dE _ (by omega) (by omega)) (fun j j0 j1 => dC _ _ _ (by decide) (by decide) (by decide))))
  have q30 : φ (bkQ p E 3 0) = φ (bkH p 2 E 0) * φ (bkQ p E 2 0) := (bkd_q (r := 2) h (by decide) (by decide)).trans (hmd_sp1 h (fun k => bkH p 2 E (0 - k)) (bkQ p E 2) (fun j j0 j1 => dH _ _ (by decide) (by decide)) (fun j j0 j1 => dQ _ _ (by decide)))
  have q31 : φ (bkQ p E 3 1) = φ (bkH p 2 E 1) * φ (bkQ p E 2 0) + φ (bkH p 2 E 0) * φ (bkQ p E 2 1) := (bkd_q (r := 2) h (by decide) (by decide)).trans (hmd_sp2 h (fun k => bkH p 2 E (1 - k)) (bkQ p E 2) (fun j j0 j1 => dH _ _ (by decide) (by decide)) (fun j j0 j1 => dQ _ _ (by decide)))
  have q32 : φ (bkQ p E 3 2) = φ (bkH p 2 E 2) * φ (bkQ p E 2 0) + φ (bkH p 2 E 1) * φ (bkQ p E 2 1) + φ (bkH p 2 E 0) * φ (bkQ p E 2 2) := (bkd_q (r := 2) h (by decide) (by decide)).trans (hmd_sp3 h (fun k => bkH p 2 E (2 - k)) (bkQ p E 2) (fun j j0 j1 => dH _ _ (by decide) (by decide)) (fun j j0 j1 => dQ _ _ (by decide)))
  have q33 : φ (bkQ p E 3 3) = φ (bkH p 2 E 3) * φ (bkQ p E 2 0) + φ (bkH p 2 E 2) * φ (bkQ p E 2 1) + φ (bkH p 2 E 1) * φ (bkQ p E 2 2) := (bkd_q (r := 2) h (by decide) (by decide)).trans (hmd_sp3 h (fun k => bkH p 2 E (3 - k)) (bkQ p E 2) (fun j j0 j1 => dH _ _ (by decide) (by decide)) (fun j j0 j1 => dQ _ _ (by decide)))
  have c3_0_0 : φ (bkC p 3 E 0 0) = φ (E 3) := bkd_c0 (by decide) (by decide)
  have c3_0_1 : φ (bkC p 3 E 0 1) = φ (E 7) := bkd_c0 (by decide) (by decide)
  have c3_0_2 : φ (bkC p 3 E 0 2) = φ (E 11) := bkd_c0 (by decide) (by decide)
  have c3_1_0 : φ (bkC p 3 E 1 0) = φ (E 0) * φ (bkC p 3 E 0 0) + φ (E 1) * φ (bkC p 3 E 0 1) + φ (E 2) * φ (bkC p 3 E 0 2) := (bkd_c1 (k := 0) h (by decide) (by decide)).trans (hmd_sp3 h (fun l => E (4 * 0 + l)) (bkC p 3 E 0) (fun j j0 j1 => dE _ (by omega) (by omega)) (fun j j0 j1 => dC _ _ _ (by decide) (by decide) (by decide)))
  have c3_1_1 : φ (bkC p 3 E 1 1) = φ (E 4) * φ (bkC p 3 E 0 0) + φ (E 5) * φ (bkC p 3 E 0 1) + φ (E 6) * φ (bkC p 3 E 0 2) := (bkd_c1 (k := 0) h (by decide) (by decide)).trans (hmd_sp3 h (fun l => E (4 * 1 + l)) (bkC p 3 E 0) (fun j j0 j1 => dE _ (by omega) (by omega)) (fun j j0 j1 => dC _ _ _ (by decide) (by decide) (by decide)))
  have c3_1_2 : φ (bkC p 3 E 1 2) = φ (E 8) * φ (bkC p 3 E 0 0) + φ (E 9) * φ (bkC p 3 E 0 1) + φ (E 10) * φ (bkC p 3 E 0 2) := (bkd_c1 (k := 0) h (by decide) (by decide)).trans (hmd_sp3 h (fun l => E (4 * 2 + l)) (bkC p 3 E 0) (fun j j0 j1 => dE _ (by omega) (by omega)) (fun j j0 j1 => dC _ _ _ (by decide) (by decide) (by decide)))
  have c3_2_0 : φ (bkC p 3 E 2 0) = φ (E 0) * φ (bkC p 3 E 1 0) + φ (E 1) * φ (bkC p 3 E 1 1) + φ (E 2) * φ (bkC p 3 E 1 2) := (bkd_c1 (k := 1) h (by decide) (by decide)).trans (hmd_sp3 h (fun l => E (4 * 0 + l)) (bkC p 3 E 1) (fun j j0 j1 => dE _ (by omega) (by omega)) (fun j j0 j1 => dC _ _ _ (by decide) (by decide) (by decide)))
  have c3_2_1 : φ (bkC p 3 E 2 1) = φ (E 4) * φ (bkC p 3 E 1 0) + φ (E 5) * φ (bkC p 3 E 1 1) + φ (E 6) * φ (bkC p 3 E 1 2) := (bkd_c1 (k := 1) h (by decide) (by decide)).trans (hmd_sp3 h (fun l => E (4 * 1 + l)) (bkC p 3 E 1) (fun j j0 j1 => dE _ (by omega) (by omega)) (fun j j0 j1 => dC _ _ _ (by decide) (by decide) (by decide)))
  have c3_2_2 : φ (bkC p 3 E 2 2) = φ (E 8) * φ (bkC p 3 E 1 0) + φ (E 9) * φ (bkC p 3 E 1 1) + φ (E 10) * φ (bkC p 3 E 1 2) := (bkd_c1 (k := 1) h (by decide) (by decide)).trans (hmd_sp3 h (fun l => E (4 * 2 + l)) (bkC p 3 E 1) (fun j j0 j1 => dE _ (by omega) (by omega)) (fun j j0 j1 => dC _ _ _ (by decide) (by decide) (by decide)))
  have h3_0 : φ (bkH p 3 E 0) = 1 := bkd_h0 h (by decide)
  have h3_1 : φ (bkH p 3 E 1) = - φ (E 15) := bkd_h1 h (by decide)
  have h3_2 : φ (bkH p 3 E 2) = - (φ (E 12) * φ (bkC p 3 E 0 0) + φ (E 13) * φ (bkC p 3 E 0 1) + φ (E 14) * φ (bkC p 3 E 0 2)) := (bkd_h2 h (by decide) (by decide)).trans (congrArg (fun z => - z) (hmd_sp3 h (fun i => E (4 * 3 + i)) (bkC p 3 E 0) (fun j j0 j1 => dE _ (by omega) (by omega)) (fun j j0 j1 => dC _ _ _ (by decide) (by decide) (by decide))))
  have h3_3 : φ (bkH p 3 E 3) = - (φ (E 12) * φ (bkC p 3 E 1 0) + φ (E 13) * φ (bkC p 3 E 1 1) + φ (E 14) * φ (bkC p 3 E 1 2)) := (bkd_h2 h (by decide) (by decide)).trans (congrArg (fun z => - z) (hmd_sp3 h (fun i => E (4 * 3 + i)) (bkC p 3 E 1) (fun j j0 j1 => dE _ (by omega) (by omega)) (fun j j0 j1 => dC _ _ _ (by decide) (by decide) (by decide))))
  have h3_4 : φ (bkH p 3 E 4) = - (φ (E 12) * φ (bkC p 3 E 2 0) + φ (E 13) * φ (bkC p 3 E 2 1) + φ (E 14) * φ (bkC p 3 E 2 2)) := (bkd_h2 h (by decide) (by decide)).trans (congrArg (fun z => - z) (hmd_sp3 h (fun i => E (4 * 3 + i)) (bkC p 3 E 2) (fun j j0 j1 => dE _ (by omega) (by omega)) (fun j j0 j1 => dC _ _ _ (by decide) (by decide) (by decide))))
  have q40 : φ (bkQ p E 4 0) = φ (bkH p 3 E 0) * φ (bkQ p E 3 0) := (bkd_q (r := 3) h (by decide) (by decide)).trans (hmd_sp1 h (fun k => bkH p 3 E (0 - k)) (bkQ p E 3) (fun j j0 j1 => dH _ _ (by decide) (by decide)) (fun j j0 j1 => dQ _ _ (by decide)))
  have q41 : φ (bkQ p E 4 1) = φ (bkH p 3 E 1) * φ (bkQ p E 3 0) + φ (bkH p 3 E 0) * φ (bkQ p E 3 1) := (bkd_q (r := 3) h (by decide) (by decide)).trans (hmd_sp2 h (fun k => bkH p 3 E (1 - k)) (bkQ p E 3) (fun j j0 j1 => dH _ _ (by decide) (by decide)) (fun j j0 j1 => dQ _ _ (by decide)))
  have q42 : φ (bkQ p E 4 2) = φ (bkH p 3 E 2) * φ (bkQ p E 3 0) + φ (bkH p 3 E 1) * φ (bkQ p E 3 1) + φ (bkH p 3 E 0) * φ (bkQ p E 3 2) := (bkd_q (r := 3) h (by decide) (by decide)).trans (hmd_sp3 h (fun k => bkH p 3 E (2 - k)) (bkQ p E 3) (fun j j0 j1 => dH _ _ (by decide) (by decide)) (fun j j0 j1 => dQ _ _ (by decide)))
  have q43 : φ (bkQ p E 4 3) = φ (bkH p 3 E 3) * φ (bkQ p E 3 0) + φ (bkH p 3 E 2) * φ (bkQ p E 3 1) + φ (bkH p 3 E 1) * φ (bkQ p E 3 2) + φ (bkH p 3 E 0) * φ (bkQ p E 3 3) := (bkd_q (r := 3) h (by decide) (by decide)).trans (hmd_sp4 h (fun k => bkH p 3 E (3 - k)) (bkQ p E 3) (fun j j0 j1 => dH _ _ (by decide) (by decide)) (fun j j0 j1 => dQ _ _ (by decide)))
  have q44 : φ (bkQ p E 4 4) = φ (bkH p 3 E 4) * φ (bkQ p E 3 0) + φ (bkH p 3 E 3) * φ (bkQ p E 3 1) + φ (bkH p 3 E 2) * φ (bkQ p E 3 2) + φ (bkH p 3 E 1) * φ (bkQ p E 3 3) := (bkd_q (r := 3) h (by decide) (by decide)).trans (hmd_sp4 h (fun k => bkH p 3 E (4 - k)) (bkQ p E 3) (fun j j0 j1 => dH _ _ (by decide) (by decide)) (fun j j0 j1 => dQ _ _ (by decide)))
  clear dE dC dH dQ
  generalize φ (bkQ p E 0 0) = zq00 at *
  generalize φ (bkH p 0 E 0) = zh0_0 at *
  generalize φ (bkH p 0 E 1) = zh0_1 at *
  generalize φ (bkQ p E 1 0) = zq10 at *
  generalize φ (bkQ p E 1 1) = zq11 at *
  generalize φ (bkC p 1 E 0 0) = zc1_0_0 at *
  generalize φ (bkH p 1 E 0) = zh1_0 at *
  generalize φ (bkH p 1 E 1) = zh1_1 at *
  generalize φ (bkH p 1 E 2) = zh1_2 at *
  generalize φ (bkQ p E 2 0) = zq20 at *
  generalize φ (bkQ p E 2 1) = zq21 at *
  generalize φ (bkQ p E 2 2) = zq22 at *
  generalize φ (bkC p 2 E 0 0) = zc2_0_0 at *
  generalize φ (bkC p 2 E 0 1) = zc2_0_1 at *
  generalize φ (bkC p 2 E 1 0) = zc2_1_0 at *
  generalize φ (bkC p 2 E 1 1) = zc2_1_1 at *
  generalize φ (bkH p 2 E 0) = zh2_0 at *
  generalize φ (bkH p 2 E 1) = zh2_1 at *
  generalize φ (bkH p 2 E 2) = zh2_2 at *
  generalize φ (bkH p 2 E 3) = zh2_3 at *
  generalize φ (bkQ p E 3 0) = zq30 at *
  generalize φ (bkQ p E 3 1) = zq31 at *
  generalize φ (bkQ p E 3 2) = zq32 at *
  generalize φ (bkQ p E 3 3) = zq33 at *
  generalize φ (bkC p 3 E 0 0) = zc3_0_0 at *
  generalize φ (bkC p 3 E 0 1) = zc3_0_1 at *
  generalize φ (bkC p 3 E 0 2) = zc3_0_2 at *
  generalize φ (bkC p 3 E 1 0) = zc3_1_0 at *
  generalize φ (bkC p 3 E 1 1) = zc3_1_1 at *
  generalize φ (bkC p 3 E 1 2) = zc3_1_2 at *
  generalize φ (bkC p 3 E 2 0) = zc3_2_0 at *
  generalize φ (bkC p 3 E 2 1) = zc3_2_1 at *
  generalize φ (bkC p 3 E 2 2) = zc3_2_2 at *
  generalize φ (bkH p 3 E 0) = zh3_0 at *
  generalize φ (bkH p 3 E 1) = zh3_1 at *
  generalize φ (bkH p 3 E 2) = zh3_2 at *
  generalize φ (bkH p 3 E 3) = zh3_3 at *
  generalize φ (bkH p 3 E 4) = zh3_4 at *
  generalize φ (bkQ p E 4 0) = zq40 at *
  generalize φ (bkQ p E 4 1) = zq41 at *
  generalize φ (bkQ p E 4 2) = zq42 at *
  generalize φ (bkQ p E 4 3) = zq43 at *
  generalize φ (bkQ p E 4 4) = zq44 at *
  generalize φ (E 0) = a0 at *
  generalize φ (E 1) = a1 at *
  generalize φ (E 2) = a2 at *
  generalize φ (E 3) = a3 at *
  generalize φ (E 4) = a4 at *
  generalize φ (E 5) = a5 at *
  generalize φ (E 6) = a6 at *
  generalize φ (E 7) = a7 at *
  generalize φ (E 8) = a8 at *
  generalize φ (E 9) = a9 at *
  generalize φ (E 10) = a10 at *
  generalize φ (E 11) = a11 at *
  generalize φ (E 12) = a12 at *
  generalize φ (E 13) = a13 at *
  generalize φ (E 14) = a14 at *
  generalize φ (E 15) = a15 at *
  subst q00
  subst h0_0
  subst h0_1
  subst q10
  subst q11
  subst c1_0_0
  subst h1_0
  subst h1_1
  subst h1_2
  subst q20
  subst q21
  subst q22
  subst c2_0_0
  subst c2_0_1
  subst c2_1_0
  subst c2_1_1
  subst h2_0
  subst h2_1
  subst h2_2
  subst h2_3
  subst q30
  subst q31
  subst q32
  subst q33
  subst c3_0_0
  subst c3_0_1
  subst c3_0_2
  subst c3_1_0
  subst c3_1_1
  subst c3_1_2
  subst c3_2_0
  subst c3_2_1
  subst c3_2_2
  subst h3_0
  subst h3_1
  subst h3_2
  subst h3_3
  subst h3_4
  subst q40
  subst q41
  subst q42
  subst q43
  subst q44
  refine ⟨?_, ?_, ?_, ?_⟩ <;> grind
