/-! What is expressed by a basis, in the ring of rows. -/
theorem su_congr {E : Type} [I : Lean.Grind.CommRing E] {n : Nat} {f g : Int → E} (h : ∀ i : Int, 0 ≤ i → i < n → f i = g i) : su n f = su n g := by
  induction n with
  | zero => rfl
  | succ n ih =>
    show su n f + f n = su n g + g n
    rw [ih (fun i i0 i1 => h i i0 (by omega)), h n (by omega) (by omega)]
theorem su_zeros {E : Type} [I : Lean.Grind.CommRing E] {n : Nat} {f : Int → E} (h : ∀ i : Int, 0 ≤ i → i < n → f i = 0) : su n f = 0 := by
  induction n with
  | zero => rfl
  | succ n ih =>
    show su n f + f n = 0
    rw [ih (fun i i0 i1 => h i i0 (by omega)), h n (by omega) (by omega)]
    grind
theorem su_add {E : Type} [I : Lean.Grind.CommRing E] (n : Nat) (f g : Int → E) : su n (fun i => f i + g i) = su n f + su n g := by
  induction n with
  | zero =>
    show (0 : E) = 0 + 0
    grind
  | succ n ih =>
    show su n (fun i => f i + g i) + (f n + g n) = su n f + f n + (su n g + g n)
    rw [ih]
    grind
theorem su_mul {E : Type} [I : Lean.Grind.CommRing E] (n : Nat) (c : E) (f : Int → E) : su n (fun i => c * f i) = c * su n f := by
  induction n with
  | zero =>
    show (0 : E) = c * 0
    grind
  | succ n ih =>
    show su n (fun i => c * f i) + c * f n = c * (su n f + f n)
    rw [ih]
    grind
theorem su_swap {E : Type} [I : Lean.Grind.CommRing E] (n m : Nat) (f : Int → Int → E) : su n (fun i => su m (fun j => f i j)) = su m (fun j => su n (fun i => f i j)) := by
  induction n with
  | zero => exact (su_zeros (fun _ _ _ => rfl)).symm
  | succ n ih =>
    show su n (fun i => su m (fun j => f i j)) + su m (fun j => f n j) = su m (fun j => su n (fun i => f i j) + f n j)
    rw [ih, su_add]
theorem su_succ {E : Type} [I : Lean.Grind.CommRing E] (n : Nat) (f : Int → E) : su (n + 1) f = su n f + f n := rfl
theorem su_neg {E : Type} [I : Lean.Grind.CommRing E] (n : Nat) (f : Int → E) : su n (fun i => - f i) = - su n f := by
  have := su_mul n (-1) f
  rw [su_congr (g := fun i => - f i) (fun i _ _ => by grind)] at this
  rw [this]
  grind
/-- one of them alone -/
theorem su_one {E : Type} [I : Lean.Grind.CommRing E] {n : Nat} {f : Int → E} (k : Int) (k0 : 0 ≤ k) (k1 : k < n) (h : ∀ i : Int, 0 ≤ i → i < n → i ≠ k → f i = 0) : su n f = f k := by
  induction n with
  | zero => omega
  | succ n ih =>
    rw [su_succ]
    by_cases q : k = n
    · rw [su_zeros (fun i i0 i1 => h i i0 (by omega) (by omega)), q]
      grind
    · rw [ih (by omega) (fun i i0 i1 => h i i0 (by omega)), h n (by omega) (by omega) (by omega)]
      grind
/-- b_l, times t^20 -/
def bR (fig : Int → Int → Int → Int) (l i : Int) : Int → Int := fun x => if 0 ≤ x ∧ x ≤ 20 then fig l i (20 - x) else 0
def TRF (n : Int) (fig : Int → Int → Int → Int) : Prop := ∀ l i m, 0 ≤ l → l < n → l < i → i < 4 → 0 ≤ m → m ≤ 20 → fig l i m = 0
/-- rows that are canonical -/
def CAN (p : Int) (V : Int → Int → Int) : Prop := (∀ i x, 0 ≤ V i x ∧ V i x < p) ∧ ∀ i x, x < 0 → V i x = 0
theorem ex_sum {f S : Int → Int} {x : Int} (z : ∀ y, y < 0 → S y = 0) (f0 : f 0 = 0) : sm 20 (fun m => f (m + 1) * S (x - (40 - (m + 1)))) = cnv (fun e => if 0 ≤ e - 20 ∧ e - 20 ≤ 20 then f (20 - (e - 20)) else 0) S x := by
  by_cases q : x < 0
  · rw [cnv_neg q]
    exact sm_zeros fun m m0 m1 => by rw [z _ (by omega), Int.mul_zero]
  · have e1 : cnv (fun e => if 0 ≤ e - 20 ∧ e - 20 ≤ 20 then f (20 - (e - 20)) else 0) S x = sm 40 (fun e => (if 0 ≤ e - 20 ∧ e - 20 ≤ 20 then f (20 - (e - 20)) else 0) * S (x - e)) := by
      unfold cnv
      by_cases q2 : x + 1 ≤ 40
      · exact (sm_more (n := (x + 1).toNat) (m := 40) (by omega) (fun i i0 i1 => by rw [z _ (by omega), Int.mul_zero])).symm
      · refine sm_more (n := 40) (m := (x + 1).toNat) (by omega) (fun i i0 i1 => ?_)
        (try dsimp only)
        by_cases q3 : i = 40
        · rw [if_pos (by omega), show 20 - (i - 20) = 0 by omega, f0, Int.zero_mul]
        · rw [if_neg (by omega), Int.zero_mul]
    rw [e1, ← sm_rev 40, sm_more (n := 20) (m := 40) (by omega) (fun i i0 i1 => by rw [if_neg (by omega), Int.zero_mul])]
    refine sm_congr fun i i0 i1 => ?_
    rw [if_pos (by omega)]
    congr 2 <;> omega
theorem ex_i {p : Int} {O : Type} [I : Lean.Grind.CommRing O] {φ : (Int → Int) → O} (h : HMs p φ) {dp : Int → Int} {fig : Int → Int → Int → Int} {V : Int → Int → Int} {l i : Int} (i0 : 0 ≤ i) (i1 : i < l) (f0 : fig l i 0 = 0) : φ (exS p dp fig V l i) = φ (V i) - φ (shE dp V l) * (φ t1 ^ 20 * φ (bR fig l i)) := by
  have zS : ∀ y, y < 0 → shE dp V l y = 0 := fun y hy => if_pos hy
  have zb : ∀ y, y < 0 → bR fig l i y = 0 := fun y hy => if_neg (by omega)
  have e := h.1.shiftN zb 20
  rw [show exS p dp fig V l i = fun x => (fun x => V i x + (fun x => -1 * cnv (fun e => bR fig l i (e - (20 : Nat))) (shE dp V l) x) x) x % p from funext fun x => by
    refine (if_pos ⟨i0, i1⟩).trans ?_
    show _ = (V i x + -1 * cnv (fun e => bR fig l i (e - (20 : Nat))) (shE dp V l) x) % p
    rw [ex_sum zS f0]
    rfl, h.1.2.2.1, h.1.1, h.1.2.2.2.1, h.1.2.1, e]
  grind
theorem exS_can {p : Int} (hp : 2 ≤ p) {dp : Int → Int} {fig : Int → Int → Int → Int} {V : Int → Int → Int} {l : Int} (c : CAN p V) : CAN p (exS p dp fig V l) := by
  refine ⟨fun i x => ?_, fun i x hx => ?_⟩
  · unfold exS
    split
    · exact ⟨em_ge (by omega), em_lt (by omega)⟩
    · exact c.1 i x
  · unfold exS
    split
    · rw [c.2 i x hx, sm_zeros (fun m m0 m1 => by rw [show shE dp V l (x - (40 - (m + 1))) = 0 from if_pos (by omega), Int.mul_zero])]
      exact Int.zero_emod p
    · exact c.2 i x hx
theorem exN_can {p n : Int} (hp : 2 ≤ p) {dp : Int → Int} {fig : Int → Int → Int → Int} {V : Int → Int → Int} (c : CAN p V) : ∀ s : Nat, CAN p (exN p n dp fig s V)
  | 0 => c
  | s + 1 => exS_can hp (exN_can hp c s)
/-- the front of y^l in b_l -/
theorem bR_d {p n : Int} {O : Type} [I : Lean.Grind.CommRing O] {φ : (Int → Int) → O} (h : HMs p φ) {dp : Int → Int} {fig : Int → Int → Int → Int} (r : RDC n fig dp) {l : Int} (l0 : 0 ≤ l) (l1 : l < n) : φ (bR fig l l) = φ t1 ^ (20 - dp l).toNat := by
  rw [← h.1.tk]
  congr 1
  have b := r.1 l l0 l1
  refine funext fun x => ?_
  unfold bR
  by_cases q : 0 ≤ x ∧ x ≤ 20
  · rw [if_pos q, r.2.1 l _ l0 l1 (by omega) (by omega)]
    by_cases q2 : 20 - x = dp l
    · rw [if_pos q2, if_pos (by omega)]
    · rw [if_neg q2, if_neg (by omega)]
  · rw [if_neg q, if_neg (by omega)]
theorem bR_0 {p n : Int} {O : Type} [I : Lean.Grind.CommRing O] {φ : (Int → Int) → O} (h : HMs p φ) {fig : Int → Int → Int → Int} (r : TRF n fig) {l i : Int} (l0 : 0 ≤ l) (l1 : l < n) (i0 : l < i) (i1 : i < 4) : φ (bR fig l i) = 0 := by
  rw [show bR fig l i = fun _ => 0 from funext fun x => by
    unfold bR
    split
    · exact r l i _ l0 l1 i0 i1 (by omega) (by omega)
    · rfl]
  exact h.1.2.2.2.2.2.1
