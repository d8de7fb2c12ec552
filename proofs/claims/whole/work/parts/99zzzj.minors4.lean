/-! The class's minors are the characteristic polynomial. -/
def tO {O : Type} [I : Lean.Grind.CommRing O] (φ : (Int → Int) → O) (E G : Int → Int → Int) (s d j : Int) : O := if bitS s j = 1 then (if d < pcS s then (if sgS s j = 1 then - (φ (E (4 * (pcS s - 1) + j)) * φ (G (zSt (s - p2 j) + d))) else φ (E (4 * (pcS s - 1) + j)) * φ (G (zSt (s - p2 j) + d))) else 0) + (if j = pcS s - 1 ∧ 1 ≤ d then (if sgS s j = 1 then φ (G (zSt (s - p2 j) + (d - 1))) else - φ (G (zSt (s - p2 j) + (d - 1)))) else 0) else 0
theorem HM.one_mul {p : Int} {O : Type} [I : Lean.Grind.CommRing O] {φ : (Int → Int) → O} (h : HM p φ) (f : Int → Int) : φ (fun x => 1 * f x) = φ f := by
  rw [show (fun x => 1 * f x) = f from funext fun x => Int.one_mul _]
theorem mn_t {p : Int} {O : Type} [I : Lean.Grind.CommRing O] {φ : (Int → Int) → O} (h : HM p φ) (E G : Int → Int → Int) (s d j : Int) : φ (fun x => mnT E G s d x j) = tO φ E G s d j := by
  unfold mnT tO
  by_cases q : bitS s j = 1
  · rw [if_pos q]
    rw [show (fun x => if bitS s j = 1 then (if d < pcS s then (-sgS s j) * cnv (E (4 * (pcS s - 1) + j)) (G (zSt (s - p2 j) + d)) x else 0) + (if j = pcS s - 1 ∧ 1 ≤ d then sgS s j * G (zSt (s - p2 j) + (d - 1)) x else 0) else 0) = fun x => (fun x => if d < pcS s then (-sgS s j) * cnv (E (4 * (pcS s - 1) + j)) (G (zSt (s - p2 j) + d)) x else 0) x + (fun x => if j = pcS s - 1 ∧ 1 ≤ d then sgS s j * G (zSt (s - p2 j) + (d - 1)) x else 0) x from funext fun x => if_pos q, h.1]
    have hs : sgS s j = 1 ∨ sgS s j = -1 := by
      unfold sgS
      split
      · exact Or.inl rfl
      · exact Or.inr rfl
    congr 1
    · by_cases q1 : d < pcS s
      · rw [if_pos q1, show (fun x => if d < pcS s then (-sgS s j) * cnv (E (4 * (pcS s - 1) + j)) (G (zSt (s - p2 j) + d)) x else 0) = fun x => (-sgS s j) * cnv (E (4 * (pcS s - 1) + j)) (G (zSt (s - p2 j) + d)) x from funext fun x => if_pos q1]
        rcases hs with hs | hs
        · rw [hs, if_pos rfl, h.2.2.2.1, h.2.1]
        · rw [hs, if_neg (by decide)]
          have := h.one_mul (cnv (E (4 * (pcS s - 1) + j)) (G (zSt (s - p2 j) + d)))
          rw [h.2.1] at this
          exact this
      · rw [if_neg q1, show (fun x => if d < pcS s then (-sgS s j) * cnv (E (4 * (pcS s - 1) + j)) (G (zSt (s - p2 j) + d)) x else 0) = fun _ => 0 from funext fun x => if_neg q1]
        exact h.2.2.2.2.2.1
    · by_cases q1 : j = pcS s - 1 ∧ 1 ≤ d
      · rw [if_pos q1, show (fun x => if j = pcS s - 1 ∧ 1 ≤ d then sgS s j * G (zSt (s - p2 j) + (d - 1)) x else 0) = fun x => sgS s j * G (zSt (s - p2 j) + (d - 1)) x from funext fun x => if_pos q1]
        rcases hs with hs | hs
        · rw [hs, if_pos rfl]
          exact h.one_mul _
        · rw [hs, if_neg (by decide)]
          exact h.2.2.2.1 _
      · rw [if_neg q1, show (fun x => if j = pcS s - 1 ∧ 1 ≤ d then sgS s j * G (zSt (s - p2 j) + (d - 1)) x else 0) = fun _ => 0 from funext fun x => if_neg q1]
        exact h.2.2.2.2.2.1
  · rw [if_neg q, show (fun x => if bitS s j = 1 then (if d < pcS s then (-sgS s j) * cnv (E (4 * (pcS s - 1) + j)) (G (zSt (s - p2 j) + d)) x else 0) + (if j = pcS s - 1 ∧ 1 ≤ d then sgS s j * G (zSt (s - p2 j) + (d - 1)) x else 0) else 0) = fun _ => 0 from funext fun x => if_neg q]
    exact h.2.2.2.2.2.1
theorem mn_s {p n : Int} {O : Type} [I : Lean.Grind.CommRing O] {φ : (Int → Int) → O} (h : HM p φ) {E G : Int → Int → Int} (hm : MN p n E G) {s d : Int} (s0 : 1 ≤ s) (s1 : s < p2 n) (d0 : 0 ≤ d) (d1 : d ≤ pcS s) : φ (G (zSt s + d)) = φ (fun x => sm n.toNat (fun j => mnT E G s d x j)) := by
  rw [show G (zSt s + d) = fun x => (fun x => sm n.toNat (fun j => mnT E G s d x j)) x % p from funext fun x => hm.2 s s0 s1 d d0 d1 x]
  exact h.2.2.1 _
theorem tO_0 {O : Type} [I : Lean.Grind.CommRing O] {φ : (Int → Int) → O} {E G : Int → Int → Int} {s d j : Int} (hb : ¬ bitS s j = 1) : tO φ E G s d j = 0 := if_neg hb
theorem tO_1 {O : Type} [I : Lean.Grind.CommRing O] {φ : (Int → Int) → O} {E G : Int → Int → Int} {s d j r k : Int} (hb : bitS s j = 1) (h1 : d < pcS s) (h2 : sgS s j = 1) (h3 : ¬ (j = pcS s - 1 ∧ 1 ≤ d)) (hr : 4 * (pcS s - 1) + j = r) (hk : zSt (s - p2 j) + d = k) : tO φ E G s d j = - (φ (E r) * φ (G k)) := by
  unfold tO
  rw [if_pos hb, if_pos h1, if_pos h2, if_neg h3, hr, hk]
  grind
theorem tO_2 {O : Type} [I : Lean.Grind.CommRing O] {φ : (Int → Int) → O} {E G : Int → Int → Int} {s d j r k : Int} (hb : bitS s j = 1) (h1 : d < pcS s) (h2 : ¬ sgS s j = 1) (h3 : ¬ (j = pcS s - 1 ∧ 1 ≤ d)) (hr : 4 * (pcS s - 1) + j = r) (hk : zSt (s - p2 j) + d = k) : tO φ E G s d j = φ (E r) * φ (G k) := by
  unfold tO
  rw [if_pos hb, if_pos h1, if_neg h2, if_neg h3, hr, hk]
  grind
theorem tO_3 {O : Type} [I : Lean.Grind.CommRing O] {φ : (Int → Int) → O} {E G : Int → Int → Int} {s d j r k l : Int} (hb : bitS s j = 1) (h1 : d < pcS s) (h2 : sgS s j = 1) (h3 : j = pcS s - 1 ∧ 1 ≤ d) (hr : 4 * (pcS s - 1) + j = r) (hk : zSt (s - p2 j) + d = k) (hl : zSt (s - p2 j) + (d - 1) = l) : tO φ E G s d j = - (φ (E r) * φ (G k)) + φ (G l) := by
  unfold tO
  rw [if_pos hb, if_pos h1, if_pos h2, if_pos h3, if_pos h2, hr, hk, hl]
theorem tO_4 {O : Type} [I : Lean.Grind.CommRing O] {φ : (Int → Int) → O} {E G : Int → Int → Int} {s d j r k l : Int} (hb : bitS s j = 1) (h1 : d < pcS s) (h2 : ¬ sgS s j = 1) (h3 : j = pcS s - 1 ∧ 1 ≤ d) (hr : 4 * (pcS s - 1) + j = r) (hk : zSt (s - p2 j) + d = k) (hl : zSt (s - p2 j) + (d - 1) = l) : tO φ E G s d j = φ (E r) * φ (G k) + - φ (G l) := by
  unfold tO
  rw [if_pos hb, if_pos h1, if_neg h2, if_pos h3, if_neg h2, hr, hk, hl]
theorem tO_5 {O : Type} [I : Lean.Grind.CommRing O] {φ : (Int → Int) → O} {E G : Int → Int → Int} {s d j l : Int} (hb : bitS s j = 1) (h1 : ¬ d < pcS s) (h2 : sgS s j = 1) (h3 : j = pcS s - 1 ∧ 1 ≤ d) (hl : zSt (s - p2 j) + (d - 1) = l) : tO φ E G s d j = φ (G l) := by
  unfold tO
  rw [if_pos hb, if_neg h1, if_pos h3, if_pos h2, hl]
  grind
theorem tO_6 {O : Type} [I : Lean.Grind.CommRing O] {φ : (Int → Int) → O} {E G : Int → Int → Int} {s d j l : Int} (hb : bitS s j = 1) (h1 : ¬ d < pcS s) (h2 : ¬ sgS s j = 1) (h3 : j = pcS s - 1 ∧ 1 ≤ d) (hl : zSt (s - p2 j) + (d - 1) = l) : tO φ E G s d j = - φ (G l) := by
  unfold tO
  rw [if_pos hb, if_neg h1, if_pos h3, if_neg h2, hl]
  grind
theorem tO_7 {O : Type} [I : Lean.Grind.CommRing O] {φ : (Int → Int) → O} {E G : Int → Int → Int} {s d j : Int} (hb : bitS s j = 1) (h1 : ¬ d < pcS s) (h3 : ¬ (j = pcS s - 1 ∧ 1 ≤ d)) : tO φ E G s d j = 0 := by
  unfold tO
  rw [if_pos hb, if_neg h1, if_neg h3]
  grind
set_option maxHeartbeats 4000000 in
theorem mn_ch2 {p : Int} {O : Type} [I : Lean.Grind.CommRing O] {φ : (Int → Int) → O} (h : HM p φ) {E G : Int → Int → Int} (hm : MN p 2 E G) : φ (G 6) = 0 - φ (E 0) - φ (E 5) ∧ φ (G 5) = φ (E 0) * φ (E 5) - φ (E 1) * φ (E 4) := by
  have sp : ∀ f : Int → Int → Int, φ (fun x => sm (2 : Int).toNat (fun j => f j x)) = φ (f 0) + φ (f 1) := fun f => by
    rw [show (2 : Int).toNat = 0 + 1 + 1 from rfl, h.sm, h.sm]
    rw [show (fun x => sm 0 (fun i => f i x)) = fun _ => 0 from rfl, h.2.2.2.2.2.1]
    show 0 + φ (f 0) + φ (f 1) = _
    grind
  have y0 : φ (G 0) = 1 := by
    rw [show G 0 = fun x => if x = 0 then 1 else 0 from funext hm.1]
    exact h.2.2.2.2.1
  have y1 : φ (G 1) = - (φ (E 0) * φ (G 0)) + 0 := by
    have g := mn_s h hm (s := 1) (d := 0) (by decide) (by decide) (by decide) (by decide)
    rw [show zSt 1 + 0 = 1 by decide, sp (fun j x => mnT E G 1 0 x j), mn_t h, mn_t h] at g
    rw [tO_1 (s := 1) (d := 0) (j := 0) (r := 0) (k := 0) (by decide) (by decide) (by decide) (by decide) (by decide) (by decide), tO_0 (s := 1) (d := 0) (j := 1) (by decide)] at g
    exact g
  have y2 : φ (G 2) = φ (G 0) + 0 := by
    have g := mn_s h hm (s := 1) (d := 1) (by decide) (by decide) (by decide) (by decide)
    rw [show zSt 1 + 1 = 2 by decide, sp (fun j x => mnT E G 1 1 x j), mn_t h, mn_t h] at g
    rw [tO_5 (s := 1) (d := 1) (j := 0) (l := 0) (by decide) (by decide) (by decide) (by decide) (by decide), tO_0 (s := 1) (d := 1) (j := 1) (by decide)] at g
    exact g
  have y3 : φ (G 3) = 0 + - (φ (E 1) * φ (G 0)) := by
    have g := mn_s h hm (s := 2) (d := 0) (by decide) (by decide) (by decide) (by decide)
    rw [show zSt 2 + 0 = 3 by decide, sp (fun j x => mnT E G 2 0 x j), mn_t h, mn_t h] at g
    rw [tO_0 (s := 2) (d := 0) (j := 0) (by decide), tO_1 (s := 2) (d := 0) (j := 1) (r := 1) (k := 0) (by decide) (by decide) (by decide) (by decide) (by decide) (by decide)] at g
    exact g
  have y4 : φ (G 4) = 0 + 0 := by
    have g := mn_s h hm (s := 2) (d := 1) (by decide) (by decide) (by decide) (by decide)
    rw [show zSt 2 + 1 = 4 by decide, sp (fun j x => mnT E G 2 1 x j), mn_t h, mn_t h] at g
    rw [tO_0 (s := 2) (d := 1) (j := 0) (by decide), tO_7 (s := 2) (d := 1) (j := 1) (by decide) (by decide) (by decide)] at g
    exact g
  have y5 : φ (G 5) = φ (E 4) * φ (G 3) + - (φ (E 5) * φ (G 1)) := by
    have g := mn_s h hm (s := 3) (d := 0) (by decide) (by decide) (by decide) (by decide)
    rw [show zSt 3 + 0 = 5 by decide, sp (fun j x => mnT E G 3 0 x j), mn_t h, mn_t h] at g
    rw [tO_2 (s := 3) (d := 0) (j := 0) (r := 4) (k := 3) (by decide) (by decide) (by decide) (by decide) (by decide) (by decide), tO_1 (s := 3) (d := 0) (j := 1) (r := 5) (k := 1) (by decide) (by decide) (by decide) (by decide) (by decide) (by decide)] at g
    exact g
  have y6 : φ (G 6) = φ (E 4) * φ (G 4) + (- (φ (E 5) * φ (G 2)) + φ (G 1)) := by
    have g := mn_s h hm (s := 3) (d := 1) (by decide) (by decide) (by decide) (by decide)
    rw [show zSt 3 + 1 = 6 by decide, sp (fun j x => mnT E G 3 1 x j), mn_t h, mn_t h] at g
    rw [tO_2 (s := 3) (d := 1) (j := 0) (r := 4) (k := 4) (by decide) (by decide) (by decide) (by decide) (by decide) (by decide), tO_3 (s := 3) (d := 1) (j := 1) (r := 5) (k := 2) (l := 1) (by decide) (by decide) (by decide) (by decide) (by decide) (by decide) (by decide)] at g
    exact g
  have y7 : φ (G 7) = 0 + φ (G 2) := by
    have g := mn_s h hm (s := 3) (d := 2) (by decide) (by decide) (by decide) (by decide)
    rw [show zSt 3 + 2 = 7 by decide, sp (fun j x => mnT E G 3 2 x j), mn_t h, mn_t h] at g
    rw [tO_7 (s := 3) (d := 2) (j := 0) (by decide) (by decide) (by decide), tO_5 (s := 3) (d := 2) (j := 1) (l := 2) (by decide) (by decide) (by decide) (by decide) (by decide)] at g
    exact g
  clear sp hm
  generalize φ (G 0) = z0 at *
  generalize φ (G 1) = z1 at *
  generalize φ (G 2) = z2 at *
  generalize φ (G 3) = z3 at *
  generalize φ (G 4) = z4 at *
  generalize φ (G 5) = z5 at *
  generalize φ (G 6) = z6 at *
  generalize φ (G 7) = z7 at *
  generalize φ (E 0) = a0 at *
  generalize φ (E 1) = a1 at *
  generalize φ (E 4) = a4 at *
  generalize φ (E 5) = a5 at *
  subst y0
  subst y1
  subst y2
  subst y3
  subst y4
  subst y5
  subst y6
  subst y7
  refine ⟨?_, ?_⟩ <;> grind
set_option maxHeartbeats 4000000 in
theorem mn_ch3 {p : Int} {O : Type} [I : Lean.Grind.CommRing O] {φ : (Int → Int) → O} (h : HM p φ) {E G : Int → Int → Int} (hm : MN p 3 E G) : φ (G 18) = 0 - φ (E 0) - φ (E 5) - φ (E 10) ∧ φ (G 17) = φ (E 0) * φ (E 5) - φ (E 1) * φ (E 4) + φ (E 0) * φ (E 10) - φ (E 2) * φ (E 8) + φ (E 5) * φ (E 10) - φ (E 6) * φ (E 9) ∧ φ (G 16) = 0 - φ (E 0) * φ (E 5) * φ (E 10) + φ (E 0) * φ (E 6) * φ (E 9) + φ (E 1) * φ (E 4) * φ (E 10) - φ (E 1) * φ (E 6) * φ (E 8) - φ (E 2) * φ (E 4) * φ (E 9) + φ (E 2) * φ (E 5) * φ (E 8) := by
  have sp : ∀ f : Int → Int → Int, φ (fun x => sm (3 : Int).toNat (fun j => f j x)) = φ (f 0) + φ (f 1) + φ (f 2) := fun f => by
    rw [show (3 : Int).toNat = 0 + 1 + 1 + 1 from rfl, h.sm, h.sm, h.sm]
    rw [show (fun x => sm 0 (fun i => f i x)) = fun _ => 0 from rfl, h.2.2.2.2.2.1]
    show 0 + φ (f 0) + φ (f 1) + φ (f 2) = _
    grind
  have y0 : φ (G 0) = 1 := by
    rw [show G 0 = fun x => if x = 0 then 1 else 0 from funext hm.1]
    exact h.2.2.2.2.1
  have y1 : φ (G 1) = - (φ (E 0) * φ (G 0)) + 0 + 0 := by
    have g := mn_s h hm (s := 1) (d := 0) (by decide) (by decide) (by decide) (by decide)
    rw [show zSt 1 + 0 = 1 by decide, sp (fun j x => mnT E G 1 0 x j), mn_t h, mn_t h, mn_t h] at g
    rw [tO_1 (s := 1) (d := 0) (j := 0) (r := 0) (k := 0) (by decide) (by decide) (by decide) (by decide) (by decide) (by decide), tO_0 (s := 1) (d := 0) (j := 1) (by decide), tO_0 (s := 1) (d := 0) (j := 2) (by decide)] at g
    exact g
  have y2 : φ (G 2) = φ (G 0) + 0 + 0 := by
    have g := mn_s h hm (s := 1) (d := 1) (by decide) (by decide) (by decide) (by decide)
    rw [show zSt 1 + 1 = 2 by decide, sp (fun j x => mnT E G 1 1 x j), mn_t h, mn_t h, mn_t h] at g
    rw [tO_5 (s := 1) (d := 1) (j := 0) (l := 0) (by decide) (by decide) (by decide) (by decide) (by decide), tO_0 (s := 1) (d := 1) (j := 1) (by decide), tO_0 (s := 1) (d := 1) (j := 2) (by decide)] at g
    exact g
  have y3 : φ (G 3) = 0 + - (φ (E 1) * φ (G 0)) + 0 := by
    have g := mn_s h hm (s := 2) (d := 0) (by decide) (by decide) (by decide) (by decide)
    rw [show zSt 2 + 0 = 3 by decide, sp (fun j x => mnT E G 2 0 x j), mn_t h, mn_t h, mn_t h] at g
    rw [tO_0 (s := 2) (d := 0) (j := 0) (by decide), tO_1 (s := 2) (d := 0) (j := 1) (r := 1) (k := 0) (by decide) (by decide) (by decide) (by decide) (by decide) (by decide), tO_0 (s := 2) (d := 0) (j := 2) (by decide)] at g
    exact g
  have y4 : φ (G 4) = 0 + 0 + 0 := by
    have g := mn_s h hm (s := 2) (d := 1) (by decide) (by decide) (by decide) (by decide)
    rw [show zSt 2 + 1 = 4 by decide, sp (fun j x => mnT E G 2 1 x j), mn_t h, mn_t h, mn_t h] at g
    rw [tO_0 (s := 2) (d := 1) (j := 0) (by decide), tO_7 (s := 2) (d := 1) (j := 1) (by decide) (by decide) (by decide), tO_0 (s := 2) (d := 1) (j := 2) (by decide)] at g
    exact g
  have y5 : φ (G 5) = φ (E 4) * φ (G 3) + - (φ (E 5) * φ (G 1)) + 0 := by
    have g := mn_s h hm (s := 3) (d := 0) (by decide) (by decide) (by decide) (by decide)
    rw [show zSt 3 + 0 = 5 by decide, sp (fun j x => mnT E G 3 0 x j), mn_t h, mn_t h, mn_t h] at g
    rw [tO_2 (s := 3) (d := 0) (j := 0) (r := 4) (k := 3) (by decide) (by decide) (by decide) (by decide) (by decide) (by decide), tO_1 (s := 3) (d := 0) (j := 1) (r := 5) (k := 1) (by decide) (by decide) (by decide) (by decide) (by decide) (by decide), tO_0 (s := 3) (d := 0) (j := 2) (by decide)] at g
    exact g
  have y6 : φ (G 6) = φ (E 4) * φ (G 4) + (- (φ (E 5) * φ (G 2)) + φ (G 1)) + 0 := by
    have g := mn_s h hm (s := 3) (d := 1) (by decide) (by decide) (by decide) (by decide)
    rw [show zSt 3 + 1 = 6 by decide, sp (fun j x => mnT E G 3 1 x j), mn_t h, mn_t h, mn_t h] at g
    rw [tO_2 (s := 3) (d := 1) (j := 0) (r := 4) (k := 4) (by decide) (by decide) (by decide) (by decide) (by decide) (by decide), tO_3 (s := 3) (d := 1) (j := 1) (r := 5) (k := 2) (l := 1) (by decide) (by decide) (by decide) (by decide) (by decide) (by decide) (by decide), tO_0 (s := 3) (d := 1) (j := 2) (by decide)] at g
    exact g
  have y7 : φ (G 7) = 0 + φ (G 2) + 0 := by
    have g := mn_s h hm (s := 3) (d := 2) (by decide) (by decide) (by decide) (by decide)
    rw [show zSt 3 + 2 = 7 by decide, sp (fun j x => mnT E G 3 2 x j), mn_t h, mn_t h, mn_t h] at g
    rw [tO_7 (s := 3) (d := 2) (j := 0) (by decide) (by decide) (by decide), tO_5 (s := 3) (d := 2) (j := 1) (l := 2) (by decide) (by decide) (by decide) (by decide) (by decide), tO_0 (s := 3) (d := 2) (j := 2) (by decide)] at g
    exact g
  have y8 : φ (G 8) = 0 + 0 + - (φ (E 2) * φ (G 0)) := by
    have g := mn_s h hm (s := 4) (d := 0) (by decide) (by decide) (by decide) (by decide)
    rw [show zSt 4 + 0 = 8 by decide, sp (fun j x => mnT E G 4 0 x j), mn_t h, mn_t h, mn_t h] at g
    rw [tO_0 (s := 4) (d := 0) (j := 0) (by decide), tO_0 (s := 4) (d := 0) (j := 1) (by decide), tO_1 (s := 4) (d := 0) (j := 2) (r := 2) (k := 0) (by decide) (by decide) (by decide) (by decide) (by decide) (by decide)] at g
    exact g
  have y9 : φ (G 9) = 0 + 0 + 0 := by
    have g := mn_s h hm (s := 4) (d := 1) (by decide) (by decide) (by decide) (by decide)
    rw [show zSt 4 + 1 = 9 by decide, sp (fun j x => mnT E G 4 1 x j), mn_t h, mn_t h, mn_t h] at g
    rw [tO_0 (s := 4) (d := 1) (j := 0) (by decide), tO_0 (s := 4) (d := 1) (j := 1) (by decide), tO_7 (s := 4) (d := 1) (j := 2) (by decide) (by decide) (by decide)] at g
    exact g
  have y10 : φ (G 10) = φ (E 4) * φ (G 8) + 0 + - (φ (E 6) * φ (G 1)) := by
    have g := mn_s h hm (s := 5) (d := 0) (by decide) (by decide) (by decide) (by decide)
    rw [show zSt 5 + 0 = 10 by decide, sp (fun j x => mnT E G 5 0 x j), mn_t h, mn_t h, mn_t h] at g
    rw [tO_2 (s := 5) (d := 0) (j := 0) (r := 4) (k := 8) (by decide) (by decide) (by decide) (by decide) (by decide) (by decide), tO_0 (s := 5) (d := 0) (j := 1) (by decide), tO_1 (s := 5) (d := 0) (j := 2) (r := 6) (k := 1) (by decide) (by decide) (by decide) (by decide) (by decide) (by decide)] at g
    exact g
  have y11 : φ (G 11) = φ (E 4) * φ (G 9) + 0 + - (φ (E 6) * φ (G 2)) := by
    have g := mn_s h hm (s := 5) (d := 1) (by decide) (by decide) (by decide) (by decide)
    rw [show zSt 5 + 1 = 11 by decide, sp (fun j x => mnT E G 5 1 x j), mn_t h, mn_t h, mn_t h] at g
    rw [tO_2 (s := 5) (d := 1) (j := 0) (r := 4) (k := 9) (by decide) (by decide) (by decide) (by decide) (by decide) (by decide), tO_0 (s := 5) (d := 1) (j := 1) (by decide), tO_1 (s := 5) (d := 1) (j := 2) (r := 6) (k := 2) (by decide) (by decide) (by decide) (by decide) (by decide) (by decide)] at g
    exact g
  have y12 : φ (G 12) = 0 + 0 + 0 := by
    have g := mn_s h hm (s := 5) (d := 2) (by decide) (by decide) (by decide) (by decide)
    rw [show zSt 5 + 2 = 12 by decide, sp (fun j x => mnT E G 5 2 x j), mn_t h, mn_t h, mn_t h] at g
    rw [tO_7 (s := 5) (d := 2) (j := 0) (by decide) (by decide) (by decide), tO_0 (s := 5) (d := 2) (j := 1) (by decide), tO_7 (s := 5) (d := 2) (j := 2) (by decide) (by decide) (by decide)] at g
    exact g
  have y13 : φ (G 13) = 0 + φ (E 5) * φ (G 8) + - (φ (E 6) * φ (G 3)) := by
    have g := mn_s h hm (s := 6) (d := 0) (by decide) (by decide) (by decide) (by decide)
    rw [show zSt 6 + 0 = 13 by decide, sp (fun j x => mnT E G 6 0 x j), mn_t h, mn_t h, mn_t h] at g
    rw [tO_0 (s := 6) (d := 0) (j := 0) (by decide), tO_2 (s := 6) (d := 0) (j := 1) (r := 5) (k := 8) (by decide) (by decide) (by decide) (by decide) (by decide) (by decide), tO_1 (s := 6) (d := 0) (j := 2) (r := 6) (k := 3) (by decide) (by decide) (by decide) (by decide) (by decide) (by decide)] at g
    exact g
  have y14 : φ (G 14) = 0 + (φ (E 5) * φ (G 9) + - φ (G 8)) + - (φ (E 6) * φ (G 4)) := by
    have g := mn_s h hm (s := 6) (d := 1) (by decide) (by decide) (by decide) (by decide)
    rw [show zSt 6 + 1 = 14 by decide, sp (fun j x => mnT E G 6 1 x j), mn_t h, mn_t h, mn_t h] at g
    rw [tO_0 (s := 6) (d := 1) (j := 0) (by decide), tO_4 (s := 6) (d := 1) (j := 1) (r := 5) (k := 9) (l := 8) (by decide) (by decide) (by decide) (by decide) (by decide) (by decide) (by decide), tO_1 (s := 6) (d := 1) (j := 2) (r := 6) (k := 4) (by decide) (by decide) (by decide) (by decide) (by decide) (by decide)] at g
    exact g
  have y15 : φ (G 15) = 0 + - φ (G 9) + 0 := by
    have g := mn_s h hm (s := 6) (d := 2) (by decide) (by decide) (by decide) (by decide)
    rw [show zSt 6 + 2 = 15 by decide, sp (fun j x => mnT E G 6 2 x j), mn_t h, mn_t h, mn_t h] at g
    rw [tO_0 (s := 6) (d := 2) (j := 0) (by decide), tO_6 (s := 6) (d := 2) (j := 1) (l := 9) (by decide) (by decide) (by decide) (by decide) (by decide), tO_7 (s := 6) (d := 2) (j := 2) (by decide) (by decide) (by decide)] at g
    exact g
  have y16 : φ (G 16) = - (φ (E 8) * φ (G 13)) + φ (E 9) * φ (G 10) + - (φ (E 10) * φ (G 5)) := by
    have g := mn_s h hm (s := 7) (d := 0) (by decide) (by decide) (by decide) (by decide)
    rw [show zSt 7 + 0 = 16 by decide, sp (fun j x => mnT E G 7 0 x j), mn_t h, mn_t h, mn_t h] at g
    rw [tO_1 (s := 7) (d := 0) (j := 0) (r := 8) (k := 13) (by decide) (by decide) (by decide) (by decide) (by decide) (by decide), tO_2 (s := 7) (d := 0) (j := 1) (r := 9) (k := 10) (by decide) (by decide) (by decide) (by decide) (by decide) (by decide), tO_1 (s := 7) (d := 0) (j := 2) (r := 10) (k := 5) (by decide) (by decide) (by decide) (by decide) (by decide) (by decide)] at g
    exact g
  have y17 : φ (G 17) = - (φ (E 8) * φ (G 14)) + φ (E 9) * φ (G 11) + (- (φ (E 10) * φ (G 6)) + φ (G 5)) := by
    have g := mn_s h hm (s := 7) (d := 1) (by decide) (by decide) (by decide) (by decide)
    rw [show zSt 7 + 1 = 17 by decide, sp (fun j x => mnT E G 7 1 x j), mn_t h, mn_t h, mn_t h] at g
    rw [tO_1 (s := 7) (d := 1) (j := 0) (r := 8) (k := 14) (by decide) (by decide) (by decide) (by decide) (by decide) (by decide), tO_2 (s := 7) (d := 1) (j := 1) (r := 9) (k := 11) (by decide) (by decide) (by decide) (by decide) (by decide) (by decide), tO_3 (s := 7) (d := 1) (j := 2) (r := 10) (k := 6) (l := 5) (by decide) (by decide) (by decide) (by decide) (by decide) (by decide) (by decide)] at g
    exact g
  have y18 : φ (G 18) = - (φ (E 8) * φ (G 15)) + φ (E 9) * φ (G 12) + (- (φ (E 10) * φ (G 7)) + φ (G 6)) := by
    have g := mn_s h hm (s := 7) (d := 2) (by decide) (by decide) (by decide) (by decide)
    rw [show zSt 7 + 2 = 18 by decide, sp (fun j x => mnT E G 7 2 x j), mn_t h, mn_t h, mn_t h] at g
    rw [tO_1 (s := 7) (d := 2) (j := 0) (r := 8) (k := 15) (by decide) (by decide) (by decide) (by decide) (by decide) (by decide), tO_2 (s := 7) (d := 2) (j := 1) (r := 9) (k := 12) (by decide) (by decide) (by decide) (by decide) (by decide) (by decide), tO_3 (s := 7) (d := 2) (j := 2) (r := 10) (k := 7) (l := 6) (by decide) (by decide) (by decide) (by decide) (by decide) (by decide) (by decide)] at g
    exact g
  have y19 : φ (G 19) = 0 + 0 + φ (G 7) := by
    have g := mn_s h hm (s := 7) (d := 3) (by decide) (by decide) (by decide) (by decide)
    rw [show zSt 7 + 3 = 19 by decide, sp (fun j x => mnT E G 7 3 x j), mn_t h, mn_t h, mn_t h] at g
    rw [tO_7 (s := 7) (d := 3) (j := 0) (by decide) (by decide) (by decide), tO_7 (s := 7) (d := 3) (j := 1) (by decide) (by decide) (by decide), tO_5 (s := 7) (d := 3) (j := 2) (l := 7) (by decide) (by decide) (by decide) (by decide) (by decide)] at g
    exact g
  clear sp hm
  generalize φ (G 0) = z0 at *
  generalize φ (G 1) = z1 at *
  generalize φ (G 2) = z2 at *
  generalize φ (G 3) = z3 at *
  generalize φ (G 4) = z4 at *
  generalize φ (G 5) = z5 at *
  generalize φ (G 6) = z6 at *
  generalize φ (G 7) = z7 at *
  generalize φ (G 8) = z8 at *
  generalize φ (G 9) = z9 at *
  generalize φ (G 10) = z10 at *
  generalize φ (G 11) = z11 at *
  generalize φ (G 12) = z12 at *
  generalize φ (G 13) = z13 at *
  generalize φ (G 14) = z14 at *
  generalize φ (G 15) = z15 at *
  generalize φ (G 16) = z16 at *
  generalize φ (G 17) = z17 at *
  generalize φ (G 18) = z18 at *
  generalize φ (G 19) = z19 at *
  generalize φ (E 0) = a0 at *
  generalize φ (E 1) = a1 at *
  generalize φ (E 2) = a2 at *
  generalize φ (E 4) = a4 at *
  generalize φ (E 5) = a5 at *
  generalize φ (E 6) = a6 at *
  generalize φ (E 8) = a8 at *
  generalize φ (E 9) = a9 at *
  generalize φ (E 10) = a10 at *
  subst y0
  subst y1
  subst y2
  subst y3
  subst y4
  subst y5
  subst y6
  subst y7
  subst y8
  subst y9
  subst y10
  subst y11
  subst y12
  subst y13
  subst y14
  subst y15
  subst y16
  subst y17
  subst y18
  subst y19
  refine ⟨?_, ?_, ?_⟩ <;> grind
set_option maxHeartbeats 4000000 in
theorem mn_ch4 {p : Int} {O : Type} [I : Lean.Grind.CommRing O] {φ : (Int → Int) → O} (h : HM p φ) {E G : Int → Int → Int} (hm : MN p 4 E G) : φ (G 46) = 0 - φ (E 0) - φ (E 5) - φ (E 10) - φ (E 15) ∧ φ (G 45) = φ (E 0) * φ (E 5) - φ (E 1) * φ (E 4) + φ (E 0) * φ (E 10) - φ (E 2) * φ (E 8) + φ (E 0) * φ (E 15) - φ (E 3) * φ (E 12) + φ (E 5) * φ (E 10) - φ (E 6) * φ (E 9) + φ (E 5) * φ (E 15) - φ (E 7) * φ (E 13) + φ (E 10) * φ (E 15) - φ (E 11) * φ (E 14) ∧ φ (G 44) = 0 - φ (E 0) * φ (E 5) * φ (E 10) + φ (E 0) * φ (E 6) * φ (E 9) + φ (E 1) * φ (E 4) * φ (E 10) - φ (E 1) * φ (E 6) * φ (E 8) - φ (E 2) * φ (E 4) * φ (E 9) + φ (E 2) * φ (E 5) * φ (E 8) - φ (E 0) * φ (E 5) * φ (E 15) + φ (E 0) * φ (E 7) * φ (E 13) + φ (E 1) * φ (E 4) * φ (E 15) - φ (E 1) * φ (E 7) * φ (E 12) - φ (E 3) * φ (E 4) * φ (E 13) + φ (E 3) * φ (E 5) * φ (E 12) - φ (E 0) * φ (E 10) * φ (E 15) + φ (E 0) * φ (E 11) * φ (E 14) + φ (E 2) * φ (E 8) * φ (E 15) - φ (E 2) * φ (E 11) * φ (E 12) - φ (E 3) * φ (E 8) * φ (E 14) + φ (E 3) * φ (E 10) * φ (E 12) - φ (E 5) * φ (E 10) * φ (E 15) + φ (E 5) * φ (E 11) * φ (E 14) + φ (E 6) * φ (E 9) * φ (E 15) - φ (E 6) * φ (E 11) * φ (E 13) - φ (E 7) * φ (E 9) * φ (E 14) + φ (E 7) * φ (E 10) * φ (E 13) ∧ φ (G 43) = φ (E 0) * φ (E 5) * φ (E 10) * φ (E 15) - φ (E 0) * φ (E 5) * φ (E 11) * φ (E 14) - φ (E 0) * φ (E 6) * φ (E 9) * φ (E 15) + φ (E 0) * φ (E 6) * φ (E 11) * φ (E 13) + φ (E 0) * φ (E 7) * φ (E 9) * φ (E 14) - φ (E 0) * φ (E 7) * φ (E 10) * φ (E 13) - φ (E 1) * φ (E 4) * φ (E 10) * φ (E 15) + φ (E 1) * φ (E 4) * φ (E 11) * φ (E 14) + φ (E 1) * φ (E 6) * φ (E 8) * φ (E 15) - φ (E 1) * φ (E 6) * φ (E 11) * φ (E 12) - φ (E 1) * φ (E 7) * φ (E 8) * φ (E 14) + φ (E 1) * φ (E 7) * φ (E 10) * φ (E 12) + φ (E 2) * φ (E 4) * φ (E 9) * φ (E 15) - φ (E 2) * φ (E 4) * φ (E 11) * φ (E 13) - φ (E 2) * φ (E 5) * φ (E 8) * φ (E 15) + φ (E 2) * φ (E 5) * φ (E 11) * φ (E 12) + φ (E 2) * φ (E 7) * φ (E 8) * φ (E 13) - φ (E 2) * φ (E 7) * φ (E 9) * φ (E 12) - φ (E 3) * φ (E 4) * φ (E 9) * φ (E 14) + φ (E 3) * φ (E 4) * φ (E 10) * φ (E 13) + φ (E 3) * φ (E 5) * φ (E 8) * φ (E 14) - φ (E 3) * φ (E 5) * φ (E 10) * φ (E 12) - φ (E 3) * φ (E 6) * φ (E 8) * φ (E 13) + φ (E 3) * φ (E 6) * φ (E 9) * φ (E 12) := by
  have sp : ∀ f : Int → Int → Int, φ (fun x => sm (4 : Int).toNat (fun j => f j x)) = φ (f 0) + φ (f 1) + φ (f 2) + φ (f 3) := fun f => by
    rw [show (4 : Int).toNat = 0 + 1 + 1 + 1 + 1 from rfl, h.sm, h.sm, h.sm, h.sm]
    rw [show (fun x => sm 0 (fun i => f i x)) = fun _ => 0 from rfl, h.2.2.2.2.2.1]
    show 0 + φ (f 0) + φ (f 1) + φ (f 2) + φ (f 3) = _
    grind
  have y0 : φ (G 0) = 1 := by
    rw [show G 0 = fun x => if x = 0 then 1 else 0 from funext hm.1]
    exact h.2.2.2.2.1
  have y1 : φ (G 1) = - (φ (E 0) * φ (G 0)) + 0 + 0 + 0 := by
    have g := mn_s h hm (s := 1) (d := 0) (by decide) (by decide) (by decide) (by decide)
    rw [show zSt 1 + 0 = 1 by decide, sp (fun j x => mnT E G 1 0 x j), mn_t h, mn_t h, mn_t h, mn_t h] at g
    rw [tO_1 (s := 1) (d := 0) (j := 0) (r := 0) (k := 0) (by decide) (by decide) (by decide) (by decide) (by decide) (by decide), tO_0 (s := 1) (d := 0) (j := 1) (by decide), tO_0 (s := 1) (d := 0) (j := 2) (by decide), tO_0 (s := 1) (d := 0) (j := 3) (by decide)] at g
    exact g
  have y2 : φ (G 2) = φ (G 0) + 0 + 0 + 0 := by
    have g := mn_s h hm (s := 1) (d := 1) (by decide) (by decide) (by decide) (by decide)
    rw [show zSt 1 + 1 = 2 by decide, sp (fun j x => mnT E G 1 1 x j), mn_t h, mn_t h, mn_t h, mn_t h] at g
    rw [tO_5 (s := 1) (d := 1) (j := 0) (l := 0) (by decide) (by decide) (by decide) (by decide) (by decide), tO_0 (s := 1) (d := 1) (j := 1) (by decide), tO_0 (s := 1) (d := 1) (j := 2) (by decide), tO_0 (s := 1) (d := 1) (j := 3) (by decide)] at g
    exact g
  have y3 : φ (G 3) = 0 + - (φ (E 1) * φ (G 0)) + 0 + 0 := by
    have g := mn_s h hm (s := 2) (d := 0) (by decide) (by decide) (by decide) (by decide)
    rw [show zSt 2 + 0 = 3 by decide, sp (fun j x => mnT E G 2 0 x j), mn_t h, mn_t h, mn_t h, mn_t h] at g
    rw [tO_0 (s := 2) (d := 0) (j := 0) (by decide), tO_1 (s := 2) (d := 0) (j := 1) (r := 1) (k := 0) (by decide) (by decide) (by decide) (by decide) (by decide) (by decide), tO_0 (s := 2) (d := 0) (j := 2) (by decide), tO_0 (s := 2) (d := 0) (j := 3) (by decide)] at g
    exact g
  have y4 : φ (G 4) = 0 + 0 + 0 + 0 := by
    have g := mn_s h hm (s := 2) (d := 1) (by decide) (by decide) (by decide) (by decide)
    rw [show zSt 2 + 1 = 4 by decide, sp (fun j x => mnT E G 2 1 x j), mn_t h, mn_t h, mn_t h, mn_t h] at g
    rw [tO_0 (s := 2) (d := 1) (j := 0) (by decide), tO_7 (s := 2) (d := 1) (j := 1) (by decide) (by decide) (by decide), tO_0 (s := 2) (d := 1) (j := 2) (by decide), tO_0 (s := 2) (d := 1) (j := 3) (by decide)] at g
    exact g
  have y5 : φ (G 5) = φ (E 4) * φ (G 3) + - (φ (E 5) * φ (G 1)) + 0 + 0 := by
    have g := mn_s h hm (s := 3) (d := 0) (by decide) (by decide) (by decide) (by decide)
    rw [show zSt 3 + 0 = 5 by decide, sp (fun j x => mnT E G 3 0 x j), mn_t h, mn_t h, mn_t h, mn_t h] at g
    rw [tO_2 (s := 3) (d := 0) (j := 0) (r := 4) (k := 3) (by decide) (by decide) (by decide) (by decide) (by decide) (by decide), tO_1 (s := 3) (d := 0) (j := 1) (r := 5) (k := 1) (by decide) (by decide) (by decide) (by decide) (by decide) (by decide), tO_0 (s := 3) (d := 0) (j := 2) (by decide), tO_0 (s := 3) (d := 0) (j := 3) (by decide)] at g
    exact g
  have y6 : φ (G 6) = φ (E 4) * φ (G 4) + (- (φ (E 5) * φ (G 2)) + φ (G 1)) + 0 + 0 := by
    have g := mn_s h hm (s := 3) (d := 1) (by decide) (by decide) (by decide) (by decide)
    rw [show zSt 3 + 1 = 6 by decide, sp (fun j x => mnT E G 3 1 x j), mn_t h, mn_t h, mn_t h, mn_t h] at g
    rw [tO_2 (s := 3) (d := 1) (j := 0) (r := 4) (k := 4) (by decide) (by decide) (by decide) (by decide) (by decide) (by decide), tO_3 (s := 3) (d := 1) (j := 1) (r := 5) (k := 2) (l := 1) (by decide) (by decide) (by decide) (by decide) (by decide) (by decide) (by decide), tO_0 (s := 3) (d := 1) (j := 2) (by decide), tO_0 (s := 3) (d := 1) (j := 3) (by decide)] at g
    exact g
  have y7 : φ (G 7) = 0 + φ (G 2) + 0 + 0 := by
    have g := mn_s h hm (s := 3) (d := 2) (by decide) (by decide) (by decide) (by decide)
    rw [show zSt 3 + 2 = 7 by decide, sp (fun j x => mnT E G 3 2 x j), mn_t h, mn_t h, mn_t h, mn_t h] at g
    rw [tO_7 (s := 3) (d := 2) (j := 0) (by decide) (by decide) (by decide), tO_5 (s := 3) (d := 2) (j := 1) (l := 2) (by decide) (by decide) (by decide) (by decide) (by decide), tO_0 (s := 3) (d := 2) (j := 2) (by decide), tO_0 (s := 3) (d := 2) (j := 3) (by decide)] at g
    exact g
  have y8 : φ (G 8) = 0 + 0 + - (φ (E 2) * φ (G 0)) + 0 := by
    have g := mn_s h hm (s := 4) (d := 0) (by decide) (by decide) (by decide) (by decide)
    rw [show zSt 4 + 0 = 8 by decide, sp (fun j x => mnT E G 4 0 x j), mn_t h, mn_t h, mn_t h, mn_t h] at g
    rw [tO_0 (s := 4) (d := 0) (j := 0) (by decide), tO_0 (s := 4) (d := 0) (j := 1) (by decide), tO_1 (s := 4) (d := 0) (j := 2) (r := 2) (k := 0) (by decide) (by decide) (by decide) (by decide) (by decide) (by decide), tO_0 (s := 4) (d := 0) (j := 3) (by decide)] at g
    exact g
  have y9 : φ (G 9) = 0 + 0 + 0 + 0 := by
    have g := mn_s h hm (s := 4) (d := 1) (by decide) (by decide) (by decide) (by decide)
    rw [show zSt 4 + 1 = 9 by decide, sp (fun j x => mnT E G 4 1 x j), mn_t h, mn_t h, mn_t h, mn_t h] at g
    rw [tO_0 (s := 4) (d := 1) (j := 0) (by decide), tO_0 (s := 4) (d := 1) (j := 1) (by decide), tO_7 (s := 4) (d := 1) (j := 2) (by decide) (by decide) (by decide), tO_0 (s := 4) (d := 1) (j := 3) (by decide)] at g
    exact g
  have y10 : φ (G 10) = φ (E 4) * φ (G 8) + 0 + - (φ (E 6) * φ (G 1)) + 0 := by
    have g := mn_s h hm (s := 5) (d := 0) (by decide) (by decide) (by decide) (by decide)
    rw [show zSt 5 + 0 = 10 by decide, sp (fun j x => mnT E G 5 0 x j), mn_t h, mn_t h, mn_t h, mn_t h] at g
    rw [tO_2 (s := 5) (d := 0) (j := 0) (r := 4) (k := 8) (by decide) (by decide) (by decide) (by decide) (by decide) (by decide), tO_0 (s := 5) (d := 0) (j := 1) (by decide), tO_1 (s := 5) (d := 0) (j := 2) (r := 6) (k := 1) (by decide) (by decide) (by decide) (by decide) (by decide) (by decide), tO_0 (s := 5) (d := 0) (j := 3) (by decide)] at g
    exact g
  have y11 : φ (G 11) = φ (E 4) * φ (G 9) + 0 + - (φ (E 6) * φ (G 2)) + 0 := by
    have g := mn_s h hm (s := 5) (d := 1) (by decide) (by decide) (by decide) (by decide)
    rw [show zSt 5 + 1 = 11 by decide, sp (fun j x => mnT E G 5 1 x j), mn_t h, mn_t h, mn_t h, mn_t h] at g
    rw [tO_2 (s := 5) (d := 1) (j := 0) (r := 4) (k := 9) (by decide) (by decide) (by decide) (by decide) (by decide) (by decide), tO_0 (s := 5) (d := 1) (j := 1) (by decide), tO_1 (s := 5) (d := 1) (j := 2) (r := 6) (k := 2) (by decide) (by decide) (by decide) (by decide) (by decide) (by decide), tO_0 (s := 5) (d := 1) (j := 3) (by decide)] at g
    exact g
  have y12 : φ (G 12) = 0 + 0 + 0 + 0 := by
    have g := mn_s h hm (s := 5) (d := 2) (by decide) (by decide) (by decide) (by decide)
    rw [show zSt 5 + 2 = 12 by decide, sp (fun j x => mnT E G 5 2 x j), mn_t h, mn_t h, mn_t h, mn_t h] at g
    rw [tO_7 (s := 5) (d := 2) (j := 0) (by decide) (by decide) (by decide), tO_0 (s := 5) (d := 2) (j := 1) (by decide), tO_7 (s := 5) (d := 2) (j := 2) (by decide) (by decide) (by decide), tO_0 (s := 5) (d := 2) (j := 3) (by decide)] at g
    exact g
  have y13 : φ (G 13) = 0 + φ (E 5) * φ (G 8) + - (φ (E 6) * φ (G 3)) + 0 := by
    have g := mn_s h hm (s := 6) (d := 0) (by decide) (by decide) (by decide) (by decide)
    rw [show zSt 6 + 0 = 13 by decide, sp (fun j x => mnT E G 6 0 x j), mn_t h, mn_t h, mn_t h, mn_t h] at g
    rw [tO_0 (s := 6) (d := 0) (j := 0) (by decide), tO_2 (s := 6) (d := 0) (j := 1) (r := 5) (k := 8) (by decide) (by decide) (by decide) (by decide) (by decide) (by decide), tO_1 (s := 6) (d := 0) (j := 2) (r := 6) (k := 3) (by decide) (by decide) (by decide) (by decide) (by decide) (by decide), tO_0 (s := 6) (d := 0) (j := 3) (by decide)] at g
    exact g
  have y14 : φ (G 14) = 0 + (φ (E 5) * φ (G 9) + - φ (G 8)) + - (φ (E 6) * φ (G 4)) + 0 := by
    have g := mn_s h hm (s := 6) (d := 1) (by decide) (by decide) (by decide) (by decide)
    rw [show zSt 6 + 1 = 14 by decide, sp (fun j x => mnT E G 6 1 x j), mn_t h, mn_t h, mn_t h, mn_t h] at g
    rw [tO_0 (s := 6) (d := 1) (j := 0) (by decide), tO_4 (s := 6) (d := 1) (j := 1) (r := 5) (k := 9) (l := 8) (by decide) (by decide) (by decide) (by decide) (by decide) (by decide) (by decide), tO_1 (s := 6) (d := 1) (j := 2) (r := 6) (k := 4) (by decide) (by decide) (by decide) (by decide) (by decide) (by decide), tO_0 (s := 6) (d := 1) (j := 3) (by decide)] at g
    exact g
  have y15 : φ (G 15) = 0 + - φ (G 9) + 0 + 0 := by
    have g := mn_s h hm (s := 6) (d := 2) (by decide) (by decide) (by decide) (by decide)
    rw [show zSt 6 + 2 = 15 by decide, sp (fun j x => mnT E G 6 2 x j), mn_t h, mn_t h, mn_t h, mn_t h] at g
    rw [tO_0 (s := 6) (d := 2) (j := 0) (by decide), tO_6 (s := 6) (d := 2) (j := 1) (l := 9) (by decide) (by decide) (by decide) (by decide) (by decide), tO_7 (s := 6) (d := 2) (j := 2) (by decide) (by decide) (by decide), tO_0 (s := 6) (d := 2) (j := 3) (by decide)] at g
    exact g
  have y16 : φ (G 16) = - (φ (E 8) * φ (G 13)) + φ (E 9) * φ (G 10) + - (φ (E 10) * φ (G 5)) + 0 := by
    have g := mn_s h hm (s := 7) (d := 0) (by decide) (by decide) (by decide) (by decide)
    rw [show zSt 7 + 0 = 16 by decide, sp (fun j x => mnT E G 7 0 x j), mn_t h, mn_t h, mn_t h, mn_t h] at g
    rw [tO_1 (s := 7) (d := 0) (j := 0) (r := 8) (k := 13) (by decide) (by decide) (by decide) (by decide) (by decide) (by decide), tO_2 (s := 7) (d := 0) (j := 1) (r := 9) (k := 10) (by decide) (by decide) (by decide) (by decide) (by decide) (by decide), tO_1 (s := 7) (d := 0) (j := 2) (r := 10) (k := 5) (by decide) (by decide) (by decide) (by decide) (by decide) (by decide), tO_0 (s := 7) (d := 0) (j := 3) (by decide)] at g
    exact g
  have y17 : φ (G 17) = - (φ (E 8) * φ (G 14)) + φ (E 9) * φ (G 11) + (- (φ (E 10) * φ (G 6)) + φ (G 5)) + 0 := by
    have g := mn_s h hm (s := 7) (d := 1) (by decide) (by decide) (by decide) (by decide)
    rw [show zSt 7 + 1 = 17 by decide, sp (fun j x => mnT E G 7 1 x j), mn_t h, mn_t h, mn_t h, mn_t h] at g
    rw [tO_1 (s := 7) (d := 1) (j := 0) (r := 8) (k := 14) (by decide) (by decide) (by decide) (by decide) (by decide) (by decide), tO_2 (s := 7) (d := 1) (j := 1) (r := 9) (k := 11) (by decide) (by decide) (by decide) (by decide) (by decide) (by decide), tO_3 (s := 7) (d := 1) (j := 2) (r := 10) (k := 6) (l := 5) (by decide) (by decide) (by decide) (by decide) (by decide) (by decide) (by decide), tO_0 (s := 7) (d := 1) (j := 3) (by decide)] at g
    exact g
  have y18 : φ (G 18) = - (φ (E 8) * φ (G 15)) + φ (E 9) * φ (G 12) + (- (φ (E 10) * φ (G 7)) + φ (G 6)) + 0 := by
    have g := mn_s h hm (s := 7) (d := 2) (by decide) (by decide) (by decide) (by decide)
    rw [show zSt 7 + 2 = 18 by decide, sp (fun j x => mnT E G 7 2 x j), mn_t h, mn_t h, mn_t h, mn_t h] at g
    rw [tO_1 (s := 7) (d := 2) (j := 0) (r := 8) (k := 15) (by decide) (by decide) (by decide) (by decide) (by decide) (by decide), tO_2 (s := 7) (d := 2) (j := 1) (r := 9) (k := 12) (by decide) (by decide) (by decide) (by decide) (by decide) (by decide), tO_3 (s := 7) (d := 2) (j := 2) (r := 10) (k := 7) (l := 6) (by decide) (by decide) (by decide) (by decide) (by decide) (by decide) (by decide), tO_0 (s := 7) (d := 2) (j := 3) (by decide)] at g
    exact g
  have y19 : φ (G 19) = 0 + 0 + φ (G 7) + 0 := by
    have g := mn_s h hm (s := 7) (d := 3) (by decide) (by decide) (by decide) (by decide)
    rw [show zSt 7 + 3 = 19 by decide, sp (fun j x => mnT E G 7 3 x j), mn_t h, mn_t h, mn_t h, mn_t h] at g
    rw [tO_7 (s := 7) (d := 3) (j := 0) (by decide) (by decide) (by decide), tO_7 (s := 7) (d := 3) (j := 1) (by decide) (by decide) (by decide), tO_5 (s := 7) (d := 3) (j := 2) (l := 7) (by decide) (by decide) (by decide) (by decide) (by decide), tO_0 (s := 7) (d := 3) (j := 3) (by decide)] at g
    exact g
  have y20 : φ (G 20) = 0 + 0 + 0 + - (φ (E 3) * φ (G 0)) := by
    have g := mn_s h hm (s := 8) (d := 0) (by decide) (by decide) (by decide) (by decide)
    rw [show zSt 8 + 0 = 20 by decide, sp (fun j x => mnT E G 8 0 x j), mn_t h, mn_t h, mn_t h, mn_t h] at g
    rw [tO_0 (s := 8) (d := 0) (j := 0) (by decide), tO_0 (s := 8) (d := 0) (j := 1) (by decide), tO_0 (s := 8) (d := 0) (j := 2) (by decide), tO_1 (s := 8) (d := 0) (j := 3) (r := 3) (k := 0) (by decide) (by decide) (by decide) (by decide) (by decide) (by decide)] at g
    exact g
  have y21 : φ (G 21) = 0 + 0 + 0 + 0 := by
    have g := mn_s h hm (s := 8) (d := 1) (by decide) (by decide) (by decide) (by decide)
    rw [show zSt 8 + 1 = 21 by decide, sp (fun j x => mnT E G 8 1 x j), mn_t h, mn_t h, mn_t h, mn_t h] at g
    rw [tO_0 (s := 8) (d := 1) (j := 0) (by decide), tO_0 (s := 8) (d := 1) (j := 1) (by decide), tO_0 (s := 8) (d := 1) (j := 2) (by decide), tO_7 (s := 8) (d := 1) (j := 3) (by decide) (by decide) (by decide)] at g
    exact g
  have y22 : φ (G 22) = φ (E 4) * φ (G 20) + 0 + 0 + - (φ (E 7) * φ (G 1)) := by
    have g := mn_s h hm (s := 9) (d := 0) (by decide) (by decide) (by decide) (by decide)
    rw [show zSt 9 + 0 = 22 by decide, sp (fun j x => mnT E G 9 0 x j), mn_t h, mn_t h, mn_t h, mn_t h] at g
    rw [tO_2 (s := 9) (d := 0) (j := 0) (r := 4) (k := 20) (by decide) (by decide) (by decide) (by decide) (by decide) (by decide), tO_0 (s := 9) (d := 0) (j := 1) (by decide), tO_0 (s := 9) (d := 0) (j := 2) (by decide), tO_1 (s := 9) (d := 0) (j := 3) (r := 7) (k := 1) (by decide) (by decide) (by decide) (by decide) (by decide) (by decide)] at g
    exact g
  have y23 : φ (G 23) = φ (E 4) * φ (G 21) + 0 + 0 + - (φ (E 7) * φ (G 2)) := by
    have g := mn_s h hm (s := 9) (d := 1) (by decide) (by decide) (by decide) (by decide)
    rw [show zSt 9 + 1 = 23 by decide, sp (fun j x => mnT E G 9 1 x j), mn_t h, mn_t h, mn_t h, mn_t h] at g
    rw [tO_2 (s := 9) (d := 1) (j := 0) (r := 4) (k := 21) (by decide) (by decide) (by decide) (by decide) (by decide) (by decide), tO_0 (s := 9) (d := 1) (j := 1) (by decide), tO_0 (s := 9) (d := 1) (j := 2) (by decide), tO_1 (s := 9) (d := 1) (j := 3) (r := 7) (k := 2) (by decide) (by decide) (by decide) (by decide) (by decide) (by decide)] at g
    exact g
  have y24 : φ (G 24) = 0 + 0 + 0 + 0 := by
    have g := mn_s h hm (s := 9) (d := 2) (by decide) (by decide) (by decide) (by decide)
    rw [show zSt 9 + 2 = 24 by decide, sp (fun j x => mnT E G 9 2 x j), mn_t h, mn_t h, mn_t h, mn_t h] at g
    rw [tO_7 (s := 9) (d := 2) (j := 0) (by decide) (by decide) (by decide), tO_0 (s := 9) (d := 2) (j := 1) (by decide), tO_0 (s := 9) (d := 2) (j := 2) (by decide), tO_7 (s := 9) (d := 2) (j := 3) (by decide) (by decide) (by decide)] at g
    exact g
  have y25 : φ (G 25) = 0 + φ (E 5) * φ (G 20) + 0 + - (φ (E 7) * φ (G 3)) := by
    have g := mn_s h hm (s := 10) (d := 0) (by decide) (by decide) (by decide) (by decide)
    rw [show zSt 10 + 0 = 25 by decide, sp (fun j x => mnT E G 10 0 x j), mn_t h, mn_t h, mn_t h, mn_t h] at g
    rw [tO_0 (s := 10) (d := 0) (j := 0) (by decide), tO_2 (s := 10) (d := 0) (j := 1) (r := 5) (k := 20) (by decide) (by decide) (by decide) (by decide) (by decide) (by decide), tO_0 (s := 10) (d := 0) (j := 2) (by decide), tO_1 (s := 10) (d := 0) (j := 3) (r := 7) (k := 3) (by decide) (by decide) (by decide) (by decide) (by decide) (by decide)] at g
    exact g
  have y26 : φ (G 26) = 0 + (φ (E 5) * φ (G 21) + - φ (G 20)) + 0 + - (φ (E 7) * φ (G 4)) := by
    have g := mn_s h hm (s := 10) (d := 1) (by decide) (by decide) (by decide) (by decide)
    rw [show zSt 10 + 1 = 26 by decide, sp (fun j x => mnT E G 10 1 x j), mn_t h, mn_t h, mn_t h, mn_t h] at g
    rw [tO_0 (s := 10) (d := 1) (j := 0) (by decide), tO_4 (s := 10) (d := 1) (j := 1) (r := 5) (k := 21) (l := 20) (by decide) (by decide) (by decide) (by decide) (by decide) (by decide) (by decide), tO_0 (s := 10) (d := 1) (j := 2) (by decide), tO_1 (s := 10) (d := 1) (j := 3) (r := 7) (k := 4) (by decide) (by decide) (by decide) (by decide) (by decide) (by decide)] at g
    exact g
  have y27 : φ (G 27) = 0 + - φ (G 21) + 0 + 0 := by
    have g := mn_s h hm (s := 10) (d := 2) (by decide) (by decide) (by decide) (by decide)
    rw [show zSt 10 + 2 = 27 by decide, sp (fun j x => mnT E G 10 2 x j), mn_t h, mn_t h, mn_t h, mn_t h] at g
    rw [tO_0 (s := 10) (d := 2) (j := 0) (by decide), tO_6 (s := 10) (d := 2) (j := 1) (l := 21) (by decide) (by decide) (by decide) (by decide) (by decide), tO_0 (s := 10) (d := 2) (j := 2) (by decide), tO_7 (s := 10) (d := 2) (j := 3) (by decide) (by decide) (by decide)] at g
    exact g
  have y28 : φ (G 28) = - (φ (E 8) * φ (G 25)) + φ (E 9) * φ (G 22) + 0 + - (φ (E 11) * φ (G 5)) := by
    have g := mn_s h hm (s := 11) (d := 0) (by decide) (by decide) (by decide) (by decide)
    rw [show zSt 11 + 0 = 28 by decide, sp (fun j x => mnT E G 11 0 x j), mn_t h, mn_t h, mn_t h, mn_t h] at g
    rw [tO_1 (s := 11) (d := 0) (j := 0) (r := 8) (k := 25) (by decide) (by decide) (by decide) (by decide) (by decide) (by decide), tO_2 (s := 11) (d := 0) (j := 1) (r := 9) (k := 22) (by decide) (by decide) (by decide) (by decide) (by decide) (by decide), tO_0 (s := 11) (d := 0) (j := 2) (by decide), tO_1 (s := 11) (d := 0) (j := 3) (r := 11) (k := 5) (by decide) (by decide) (by decide) (by decide) (by decide) (by decide)] at g
    exact g
  have y29 : φ (G 29) = - (φ (E 8) * φ (G 26)) + φ (E 9) * φ (G 23) + 0 + - (φ (E 11) * φ (G 6)) := by
    have g := mn_s h hm (s := 11) (d := 1) (by decide) (by decide) (by decide) (by decide)
    rw [show zSt 11 + 1 = 29 by decide, sp (fun j x => mnT E G 11 1 x j), mn_t h, mn_t h, mn_t h, mn_t h] at g
    rw [tO_1 (s := 11) (d := 1) (j := 0) (r := 8) (k := 26) (by decide) (by decide) (by decide) (by decide) (by decide) (by decide), tO_2 (s := 11) (d := 1) (j := 1) (r := 9) (k := 23) (by decide) (by decide) (by decide) (by decide) (by decide) (by decide), tO_0 (s := 11) (d := 1) (j := 2) (by decide), tO_1 (s := 11) (d := 1) (j := 3) (r := 11) (k := 6) (by decide) (by decide) (by decide) (by decide) (by decide) (by decide)] at g
    exact g
  have y30 : φ (G 30) = - (φ (E 8) * φ (G 27)) + φ (E 9) * φ (G 24) + 0 + - (φ (E 11) * φ (G 7)) := by
    have g := mn_s h hm (s := 11) (d := 2) (by decide) (by decide) (by decide) (by decide)
    rw [show zSt 11 + 2 = 30 by decide, sp (fun j x => mnT E G 11 2 x j), mn_t h, mn_t h, mn_t h, mn_t h] at g
    rw [tO_1 (s := 11) (d := 2) (j := 0) (r := 8) (k := 27) (by decide) (by decide) (by decide) (by decide) (by decide) (by decide), tO_2 (s := 11) (d := 2) (j := 1) (r := 9) (k := 24) (by decide) (by decide) (by decide) (by decide) (by decide) (by decide), tO_0 (s := 11) (d := 2) (j := 2) (by decide), tO_1 (s := 11) (d := 2) (j := 3) (r := 11) (k := 7) (by decide) (by decide) (by decide) (by decide) (by decide) (by decide)] at g
    exact g
  have y31 : φ (G 31) = 0 + 0 + 0 + 0 := by
    have g := mn_s h hm (s := 11) (d := 3) (by decide) (by decide) (by decide) (by decide)
    rw [show zSt 11 + 3 = 31 by decide, sp (fun j x => mnT E G 11 3 x j), mn_t h, mn_t h, mn_t h, mn_t h] at g
    rw [tO_7 (s := 11) (d := 3) (j := 0) (by decide) (by decide) (by decide), tO_7 (s := 11) (d := 3) (j := 1) (by decide) (by decide) (by decide), tO_0 (s := 11) (d := 3) (j := 2) (by decide), tO_7 (s := 11) (d := 3) (j := 3) (by decide) (by decide) (by decide)] at g
    exact g
  have y32 : φ (G 32) = 0 + 0 + φ (E 6) * φ (G 20) + - (φ (E 7) * φ (G 8)) := by
    have g := mn_s h hm (s := 12) (d := 0) (by decide) (by decide) (by decide) (by decide)
    rw [show zSt 12 + 0 = 32 by decide, sp (fun j x => mnT E G 12 0 x j), mn_t h, mn_t h, mn_t h, mn_t h] at g
    rw [tO_0 (s := 12) (d := 0) (j := 0) (by decide), tO_0 (s := 12) (d := 0) (j := 1) (by decide), tO_2 (s := 12) (d := 0) (j := 2) (r := 6) (k := 20) (by decide) (by decide) (by decide) (by decide) (by decide) (by decide), tO_1 (s := 12) (d := 0) (j := 3) (r := 7) (k := 8) (by decide) (by decide) (by decide) (by decide) (by decide) (by decide)] at g
    exact g
  have y33 : φ (G 33) = 0 + 0 + φ (E 6) * φ (G 21) + - (φ (E 7) * φ (G 9)) := by
    have g := mn_s h hm (s := 12) (d := 1) (by decide) (by decide) (by decide) (by decide)
    rw [show zSt 12 + 1 = 33 by decide, sp (fun j x => mnT E G 12 1 x j), mn_t h, mn_t h, mn_t h, mn_t h] at g
    rw [tO_0 (s := 12) (d := 1) (j := 0) (by decide), tO_0 (s := 12) (d := 1) (j := 1) (by decide), tO_2 (s := 12) (d := 1) (j := 2) (r := 6) (k := 21) (by decide) (by decide) (by decide) (by decide) (by decide) (by decide), tO_1 (s := 12) (d := 1) (j := 3) (r := 7) (k := 9) (by decide) (by decide) (by decide) (by decide) (by decide) (by decide)] at g
    exact g
  have y34 : φ (G 34) = 0 + 0 + 0 + 0 := by
    have g := mn_s h hm (s := 12) (d := 2) (by decide) (by decide) (by decide) (by decide)
    rw [show zSt 12 + 2 = 34 by decide, sp (fun j x => mnT E G 12 2 x j), mn_t h, mn_t h, mn_t h, mn_t h] at g
    rw [tO_0 (s := 12) (d := 2) (j := 0) (by decide), tO_0 (s := 12) (d := 2) (j := 1) (by decide), tO_7 (s := 12) (d := 2) (j := 2) (by decide) (by decide) (by decide), tO_7 (s := 12) (d := 2) (j := 3) (by decide) (by decide) (by decide)] at g
    exact g
  have y35 : φ (G 35) = - (φ (E 8) * φ (G 32)) + 0 + φ (E 10) * φ (G 22) + - (φ (E 11) * φ (G 10)) := by
    have g := mn_s h hm (s := 13) (d := 0) (by decide) (by decide) (by decide) (by decide)
    rw [show zSt 13 + 0 = 35 by decide, sp (fun j x => mnT E G 13 0 x j), mn_t h, mn_t h, mn_t h, mn_t h] at g
    rw [tO_1 (s := 13) (d := 0) (j := 0) (r := 8) (k := 32) (by decide) (by decide) (by decide) (by decide) (by decide) (by decide), tO_0 (s := 13) (d := 0) (j := 1) (by decide), tO_2 (s := 13) (d := 0) (j := 2) (r := 10) (k := 22) (by decide) (by decide) (by decide) (by decide) (by decide) (by decide), tO_1 (s := 13) (d := 0) (j := 3) (r := 11) (k := 10) (by decide) (by decide) (by decide) (by decide) (by decide) (by decide)] at g
    exact g
  have y36 : φ (G 36) = - (φ (E 8) * φ (G 33)) + 0 + (φ (E 10) * φ (G 23) + - φ (G 22)) + - (φ (E 11) * φ (G 11)) := by
    have g := mn_s h hm (s := 13) (d := 1) (by decide) (by decide) (by decide) (by decide)
    rw [show zSt 13 + 1 = 36 by decide, sp (fun j x => mnT E G 13 1 x j), mn_t h, mn_t h, mn_t h, mn_t h] at g
    rw [tO_1 (s := 13) (d := 1) (j := 0) (r := 8) (k := 33) (by decide) (by decide) (by decide) (by decide) (by decide) (by decide), tO_0 (s := 13) (d := 1) (j := 1) (by decide), tO_4 (s := 13) (d := 1) (j := 2) (r := 10) (k := 23) (l := 22) (by decide) (by decide) (by decide) (by decide) (by decide) (by decide) (by decide), tO_1 (s := 13) (d := 1) (j := 3) (r := 11) (k := 11) (by decide) (by decide) (by decide) (by decide) (by decide) (by decide)] at g
    exact g
  have y37 : φ (G 37) = - (φ (E 8) * φ (G 34)) + 0 + (φ (E 10) * φ (G 24) + - φ (G 23)) + - (φ (E 11) * φ (G 12)) := by
    have g := mn_s h hm (s := 13) (d := 2) (by decide) (by decide) (by decide) (by decide)
    rw [show zSt 13 + 2 = 37 by decide, sp (fun j x => mnT E G 13 2 x j), mn_t h, mn_t h, mn_t h, mn_t h] at g
    rw [tO_1 (s := 13) (d := 2) (j := 0) (r := 8) (k := 34) (by decide) (by decide) (by decide) (by decide) (by decide) (by decide), tO_0 (s := 13) (d := 2) (j := 1) (by decide), tO_4 (s := 13) (d := 2) (j := 2) (r := 10) (k := 24) (l := 23) (by decide) (by decide) (by decide) (by decide) (by decide) (by decide) (by decide), tO_1 (s := 13) (d := 2) (j := 3) (r := 11) (k := 12) (by decide) (by decide) (by decide) (by decide) (by decide) (by decide)] at g
    exact g
  have y38 : φ (G 38) = 0 + 0 + - φ (G 24) + 0 := by
    have g := mn_s h hm (s := 13) (d := 3) (by decide) (by decide) (by decide) (by decide)
    rw [show zSt 13 + 3 = 38 by decide, sp (fun j x => mnT E G 13 3 x j), mn_t h, mn_t h, mn_t h, mn_t h] at g
    rw [tO_7 (s := 13) (d := 3) (j := 0) (by decide) (by decide) (by decide), tO_0 (s := 13) (d := 3) (j := 1) (by decide), tO_6 (s := 13) (d := 3) (j := 2) (l := 24) (by decide) (by decide) (by decide) (by decide) (by decide), tO_7 (s := 13) (d := 3) (j := 3) (by decide) (by decide) (by decide)] at g
    exact g
  have y39 : φ (G 39) = 0 + - (φ (E 9) * φ (G 32)) + φ (E 10) * φ (G 25) + - (φ (E 11) * φ (G 13)) := by
    have g := mn_s h hm (s := 14) (d := 0) (by decide) (by decide) (by decide) (by decide)
    rw [show zSt 14 + 0 = 39 by decide, sp (fun j x => mnT E G 14 0 x j), mn_t h, mn_t h, mn_t h, mn_t h] at g
    rw [tO_0 (s := 14) (d := 0) (j := 0) (by decide), tO_1 (s := 14) (d := 0) (j := 1) (r := 9) (k := 32) (by decide) (by decide) (by decide) (by decide) (by decide) (by decide), tO_2 (s := 14) (d := 0) (j := 2) (r := 10) (k := 25) (by decide) (by decide) (by decide) (by decide) (by decide) (by decide), tO_1 (s := 14) (d := 0) (j := 3) (r := 11) (k := 13) (by decide) (by decide) (by decide) (by decide) (by decide) (by decide)] at g
    exact g
  have y40 : φ (G 40) = 0 + - (φ (E 9) * φ (G 33)) + (φ (E 10) * φ (G 26) + - φ (G 25)) + - (φ (E 11) * φ (G 14)) := by
    have g := mn_s h hm (s := 14) (d := 1) (by decide) (by decide) (by decide) (by decide)
    rw [show zSt 14 + 1 = 40 by decide, sp (fun j x => mnT E G 14 1 x j), mn_t h, mn_t h, mn_t h, mn_t h] at g
    rw [tO_0 (s := 14) (d := 1) (j := 0) (by decide), tO_1 (s := 14) (d := 1) (j := 1) (r := 9) (k := 33) (by decide) (by decide) (by decide) (by decide) (by decide) (by decide), tO_4 (s := 14) (d := 1) (j := 2) (r := 10) (k := 26) (l := 25) (by decide) (by decide) (by decide) (by decide) (by decide) (by decide) (by decide), tO_1 (s := 14) (d := 1) (j := 3) (r := 11) (k := 14) (by decide) (by decide) (by decide) (by decide) (by decide) (by decide)] at g
    exact g
  have y41 : φ (G 41) = 0 + - (φ (E 9) * φ (G 34)) + (φ (E 10) * φ (G 27) + - φ (G 26)) + - (φ (E 11) * φ (G 15)) := by
    have g := mn_s h hm (s := 14) (d := 2) (by decide) (by decide) (by decide) (by decide)
    rw [show zSt 14 + 2 = 41 by decide, sp (fun j x => mnT E G 14 2 x j), mn_t h, mn_t h, mn_t h, mn_t h] at g
    rw [tO_0 (s := 14) (d := 2) (j := 0) (by decide), tO_1 (s := 14) (d := 2) (j := 1) (r := 9) (k := 34) (by decide) (by decide) (by decide) (by decide) (by decide) (by decide), tO_4 (s := 14) (d := 2) (j := 2) (r := 10) (k := 27) (l := 26) (by decide) (by decide) (by decide) (by decide) (by decide) (by decide) (by decide), tO_1 (s := 14) (d := 2) (j := 3) (r := 11) (k := 15) (by decide) (by decide) (by decide) (by decide) (by decide) (by decide)] at g
    exact g
  have y42 : φ (G 42) = 0 + 0 + - φ (G 27) + 0 := by
    have g := mn_s h hm (s := 14) (d := 3) (by decide) (by decide) (by decide) (by decide)
    rw [show zSt 14 + 3 = 42 by decide, sp (fun j x => mnT E G 14 3 x j), mn_t h, mn_t h, mn_t h, mn_t h] at g
    rw [tO_0 (s := 14) (d := 3) (j := 0) (by decide), tO_7 (s := 14) (d := 3) (j := 1) (by decide) (by decide) (by decide), tO_6 (s := 14) (d := 3) (j := 2) (l := 27) (by decide) (by decide) (by decide) (by decide) (by decide), tO_7 (s := 14) (d := 3) (j := 3) (by decide) (by decide) (by decide)] at g
    exact g
  have y43 : φ (G 43) = φ (E 12) * φ (G 39) + - (φ (E 13) * φ (G 35)) + φ (E 14) * φ (G 28) + - (φ (E 15) * φ (G 16)) := by
    have g := mn_s h hm (s := 15) (d := 0) (by decide) (by decide) (by decide) (by decide)
    rw [show zSt 15 + 0 = 43 by decide, sp (fun j x => mnT E G 15 0 x j), mn_t h, mn_t h, mn_t h, mn_t h] at g
    rw [tO_2 (s := 15) (d := 0) (j := 0) (r := 12) (k := 39) (by decide) (by decide) (by decide) (by decide) (by decide) (by decide), tO_1 (s := 15) (d := 0) (j := 1) (r := 13) (k := 35) (by decide) (by decide) (by decide) (by decide) (by decide) (by decide), tO_2 (s := 15) (d := 0) (j := 2) (r := 14) (k := 28) (by decide) (by decide) (by decide) (by decide) (by decide) (by decide), tO_1 (s := 15) (d := 0) (j := 3) (r := 15) (k := 16) (by decide) (by decide) (by decide) (by decide) (by decide) (by decide)] at g
    exact g
  have y44 : φ (G 44) = φ (E 12) * φ (G 40) + - (φ (E 13) * φ (G 36)) + φ (E 14) * φ (G 29) + (- (φ (E 15) * φ (G 17)) + φ (G 16)) := by
    have g := mn_s h hm (s := 15) (d := 1) (by decide) (by decide) (by decide) (by decide)
    rw [show zSt 15 + 1 = 44 by decide, sp (fun j x => mnT E G 15 1 x j), mn_t h, mn_t h, mn_t h, mn_t h] at g
    rw [tO_2 (s := 15) (d := 1) (j := 0) (r := 12) (k := 40) (by decide) (by decide) (by decide) (by decide) (by decide) (by decide), tO_1 (s := 15) (d := 1) (j := 1) (r := 13) (k := 36) (by decide) (by decide) (by decide) (by decide) (by decide) (by decide), tO_2 (s := 15) (d := 1) (j := 2) (r := 14) (k := 29) (by decide) (by decide) (by decide) (by decide) (by decide) (by decide), tO_3 (s := 15) (d := 1) (j := 3) (r := 15) (k := 17) (l := 16) (by decide) (by decide) (by decide) (by decide) (by decide) (by decide) (by decide)] at g
    exact g
  have y45 : φ (G 45) = φ (E 12) * φ (G 41) + - (φ (E 13) * φ (G 37)) + φ (E 14) * φ (G 30) + (- (φ (E 15) * φ (G 18)) + φ (G 17)) := by
    have g := mn_s h hm (s := 15) (d := 2) (by decide) (by decide) (by decide) (by decide)
    rw [show zSt 15 + 2 = 45 by decide, sp (fun j x => mnT E G 15 2 x j), mn_t h, mn_t h, mn_t h, mn_t h] at g
    rw [tO_2 (s := 15) (d := 2) (j := 0) (r := 12) (k := 41) (by decide) (by decide) (by decide) (by decide) (by decide) (by decide), tO_1 (s := 15) (d := 2) (j := 1) (r := 13) (k := 37) (by decide) (by decide) (by decide) (by decide) (by decide) (by decide), tO_2 (s := 15) (d := 2) (j := 2) (r := 14) (k := 30) (by decide) (by decide) (by decide) (by decide) (by decide) (by decide), tO_3 (s := 15) (d := 2) (j := 3) (r := 15) (k := 18) (l := 17) (by decide) (by decide) (by decide) (by decide) (by decide) (by decide) (by decide)] at g
    exact g
  have y46 : φ (G 46) = φ (E 12) * φ (G 42) + - (φ (E 13) * φ (G 38)) + φ (E 14) * φ (G 31) + (- (φ (E 15) * φ (G 19)) + φ (G 18)) := by
    have g := mn_s h hm (s := 15) (d := 3) (by decide) (by decide) (by decide) (by decide)
    rw [show zSt 15 + 3 = 46 by decide, sp (fun j x => mnT E G 15 3 x j), mn_t h, mn_t h, mn_t h, mn_t h] at g
    rw [tO_2 (s := 15) (d := 3) (j := 0) (r := 12) (k := 42) (by decide) (by decide) (by decide) (by decide) (by decide) (by decide), tO_1 (s := 15) (d := 3) (j := 1) (r := 13) (k := 38) (by decide) (by decide) (by decide) (by decide) (by decide) (by decide), tO_2 (s := 15) (d := 3) (j := 2) (r := 14) (k := 31) (by decide) (by decide) (by decide) (by decide) (by decide) (by decide), tO_3 (s := 15) (d := 3) (j := 3) (r := 15) (k := 19) (l := 18) (by decide) (by decide) (by decide) (by decide) (by decide) (by decide) (by decide)] at g
    exact g
  have y47 : φ (G 47) = 0 + 0 + 0 + φ (G 19) := by
    have g := mn_s h hm (s := 15) (d := 4) (by decide) (by decide) (by decide) (by decide)
    rw [show zSt 15 + 4 = 47 by decide, sp (fun j x => mnT E G 15 4 x j), mn_t h, mn_t h, mn_t h, mn_t h] at g
    rw [tO_7 (s := 15) (d := 4) (j := 0) (by decide) (by decide) (by decide), tO_7 (s := 15) (d := 4) (j := 1) (by decide) (by decide) (by decide), tO_7 (s := 15) (d := 4) (j := 2) (by decide) (by decide) (by decide), tO_5 (s := 15) (d := 4) (j := 3) (l := 19) (by decide) (by decide) (by decide) (by decide) (by decide)] at g
    exact g
  clear sp hm
  generalize φ (G 0) = z0 at *
  generalize φ (G 1) = z1 at *
  generalize φ (G 2) = z2 at *
  generalize φ (G 3) = z3 at *
  generalize φ (G 4) = z4 at *
  generalize φ (G 5) = z5 at *
  generalize φ (G 6) = z6 at *
  generalize φ (G 7) = z7 at *
  generalize φ (G 8) = z8 at *
  generalize φ (G 9) = z9 at *
  generalize φ (G 10) = z10 at *
  generalize φ (G 11) = z11 at *
  generalize φ (G 12) = z12 at *
  generalize φ (G 13) = z13 at *
  generalize φ (G 14) = z14 at *
  generalize φ (G 15) = z15 at *
  generalize φ (G 16) = z16 at *
  generalize φ (G 17) = z17 at *
  generalize φ (G 18) = z18 at *
  generalize φ (G 19) = z19 at *
  generalize φ (G 20) = z20 at *
  generalize φ (G 21) = z21 at *
  generalize φ (G 22) = z22 at *
  generalize φ (G 23) = z23 at *
  generalize φ (G 24) = z24 at *
  generalize φ (G 25) = z25 at *
  generalize φ (G 26) = z26 at *
  generalize φ (G 27) = z27 at *
  generalize φ (G 28) = z28 at *
  generalize φ (G 29) = z29 at *
  generalize φ (G 30) = z30 at *
  generalize φ (G 31) = z31 at *
  generalize φ (G 32) = z32 at *
  generalize φ (G 33) = z33 at *
  generalize φ (G 34) = z34 at *
  generalize φ (G 35) = z35 at *
  generalize φ (G 36) = z36 at *
  generalize φ (G 37) = z37 at *
  generalize φ (G 38) = z38 at *
  generalize φ (G 39) = z39 at *
  generalize φ (G 40) = z40 at *
  generalize φ (G 41) = z41 at *
  generalize φ (G 42) = z42 at *
  generalize φ (G 43) = z43 at *
  generalize φ (G 44) = z44 at *
  generalize φ (G 45) = z45 at *
  generalize φ (G 46) = z46 at *
  generalize φ (G 47) = z47 at *
  generalize φ (E 0) = a0 at *
  generalize φ (E 1) = a1 at *
  generalize φ (E 2) = a2 at *
  generalize φ (E 3) = a3 at *
  generalize φ (E 4) = a4 at *
  generalize φ (E 5) = a5 at *
  generalize φ (E 6) = a6 at *
  generalize φ (E 7) = a7 at *
  generalize φ (E 8) = a8 at *
  generalize φ (E 9) = a9 at *
  generalize φ (E 10) = a10 at *
  generalize φ (E 11) = a11 at *
  generalize φ (E 12) = a12 at *
  generalize φ (E 13) = a13 at *
  generalize φ (E 14) = a14 at *
  generalize φ (E 15) = a15 at *
  subst y0
  subst y1
  subst y2
  subst y3
  subst y4
  subst y5
  subst y6
  subst y7
  subst y8
  subst y9
  subst y10
  subst y11
  subst y12
  subst y13
  subst y14
  subst y15
  subst y16
  subst y17
  subst y18
  subst y19
  subst y20
  subst y21
  subst y22
  subst y23
  subst y24
  subst y25
  subst y26
  subst y27
  subst y28
  subst y29
  subst y30
  subst y31
  subst y32
  subst y33
  subst y34
  subst y35
  subst y36
  subst y37
  subst y38
  subst y39
  subst y40
  subst y41
  subst y42
  subst y43
  subst y44
  subst y45
  subst y46
  subst y47
  refine ⟨?_, ?_, ?_, ?_⟩ <;> grind
