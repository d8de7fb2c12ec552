/-! What is expressed by a basis: both ways. -/
/-- rows that are t^20 times a sum of the b_l (times t^20) -/
def cmb {O : Type} [I : Lean.Grind.CommRing O] (φ : (Int → Int) → O) (n : Nat) (fig : Int → Int → Int → Int) (s : Int → O) (V : Int → Int → Int) : Prop := ∀ i : Int, 0 ≤ i → i < n → φ (V i) = φ t1 ^ 20 * su n (fun l => s l * φ (bR fig l i))
theorem ex_row {p n : Int} {O : Type} [I : Lean.Grind.CommRing O] {φ : (Int → Int) → O} (h : HMs p φ) (hp : 2 ≤ p) {dp : Int → Int} {fig : Int → Int → Int → Int} (r : RDC n fig dp) {V : Int → Int → Int} (c : CAN p V) {l : Int} (l0 : 0 ≤ l) (l1 : l < n) {a : O} (e : φ (V l) = φ t1 ^ 20 * (a * φ (bR fig l l))) : (∀ x, 0 ≤ x → x < 40 - dp l → V l x = 0) ∧ φ (shE dp V l) = a := by
  have b := r.1 l l0 l1
  have e1 : φ (V l) = φ t1 ^ (40 - dp l).toNat * a := by
    rw [e, bR_d h r l0 l1, show (40 - dp l).toNat = 20 + (20 - dp l).toNat by omega, Lean.Grind.Semiring.pow_add]
    grind
  have z : ∀ x : Int, x < ((40 - dp l).toNat : Nat) → V l x = 0 := fun x hx => by
    by_cases q : x < 0
    · exact c.2 l x q
    · have := h.low _ e1 x (by omega) hx
      rw [em_id (c.1 l x).1 (c.1 l x).2] at this
      exact this
  refine ⟨fun x x0 x1 => z x (by omega), ?_⟩
  have e2 := h.up (f := V l) (40 - dp l).toNat (fun x => c.1 l x) z
  rw [e1] at e2
  have e3 := h.can _ e2
  rw [e3]
  congr 1
  refine funext fun y => ?_
  unfold shE
  by_cases q : y < 0
  · rw [if_pos q, if_pos q]
  · rw [if_neg q, if_neg q, show ((40 - dp l).toNat : Int) = 40 - dp l by omega]
theorem ex_two {p n : Int} {O : Type} [I : Lean.Grind.CommRing O] {φ : (Int → Int) → O} (h : HMs p φ) (hp : 2 ≤ p) (hn : 0 ≤ n ∧ n ≤ 4) {dp : Int → Int} {fig : Int → Int → Int → Int} (r : RDC n fig dp) (tr : TRF n fig) {V : Int → Int → Int} (c : CAN p V) {s : Int → O} (hs : cmb φ n.toNat fig s V) : ∀ k : Nat, (k : Int) ≤ n → (∀ i : Int, 0 ≤ i → i < n - k → φ (exN p n dp fig k V i) = φ t1 ^ 20 * su (n - k).toNat (fun l => s l * φ (bR fig l i))) ∧ ∀ l : Int, n - k ≤ l → l < n → (∀ e, 0 ≤ e → e < 40 - dp l → exN p n dp fig (n - 1 - l).toNat V l e = 0) ∧ φ (shN p n dp fig V l) = s l
  | 0, _ => ⟨fun i i0 i1 => by rw [show (n - ((0 : Nat) : Int)).toNat = n.toNat by omega]; exact hs i i0 (by omega), fun l l0 l1 => by omega⟩
  | k + 1, hk => by
    obtain ⟨ih1, ih2⟩ := ex_two h hp hn r tr c hs k (by omega)
    have l0 : 0 ≤ n - 1 - k := by omega
    have tz : ∀ l : Int, 0 ≤ l → l < n - 1 - k → φ (bR fig l (n - 1 - k)) = 0 := fun l a b => bR_0 h tr a (by omega) b (by omega)
    have e0 := ih1 (n - 1 - k) l0 (by omega)
    rw [su_one (n - 1 - k) l0 (by omega) (fun i i0 i1 ni => by rw [tz i i0 (by omega)]; grind)] at e0
    obtain ⟨z, es⟩ := ex_row h hp r (exN_can hp c k) l0 (by omega) e0
    refine ⟨fun i i0 i1 => ?_, fun l a b => ?_⟩
    · show φ (exS p dp fig (exN p n dp fig k V) (n - 1 - k) i) = _
      have f0 : fig (n - 1 - k) i 0 = 0 := Decidable.byContradiction (fun q => by
        have a := r.2.2 (n - 1 - k) i 0 i0 (by omega) (by omega) (by omega) (by omega) q
        have b := r.1 i i0 (by omega)
        omega)
      rw [ex_i h i0 (by omega) f0, es, ih1 i i0 (by omega), show (n - (k : Int)).toNat = (n - ((k + 1 : Nat) : Int)).toNat + 1 by omega, su_succ, show (((n - ((k + 1 : Nat) : Int)).toNat : Nat) : Int) = n - 1 - k by omega]
      grind
    · by_cases q : l = n - 1 - k
      · rw [q]
        refine ⟨fun e a b => ?_, ?_⟩
        · rw [show (n - 1 - (n - 1 - (k : Int))).toNat = k by omega]
          exact z e a b
        · rw [show shN p n dp fig V (n - 1 - k) = shE dp (exN p n dp fig k V) (n - 1 - k) from funext fun x => by
            refine (if_pos ⟨l0, by omega⟩).trans ?_
            rw [show (n - 1 - (n - 1 - (k : Int))).toNat = k by omega]]
          exact es
      · exact ih2 l (by omega) b
/-- what is a sum of the basis is found so -/
theorem ex_2 {p n : Int} {O : Type} [I : Lean.Grind.CommRing O] {φ : (Int → Int) → O} (h : HMs p φ) (hp : 2 ≤ p) (hn : 0 ≤ n ∧ n ≤ 4) {dp : Int → Int} {fig : Int → Int → Int → Int} (r : RDC n fig dp) (tr : TRF n fig) {V : Int → Int → Int} (c : CAN p V) {s : Int → O} (hs : cmb φ n.toNat fig s V) : okE p n dp fig V ∧ ∀ l, 0 ≤ l → l < n → φ (shN p n dp fig V l) = s l := by
  obtain ⟨-, b⟩ := ex_two h hp hn r tr c hs n.toNat (by omega)
  exact ⟨fun l l0 l1 => (b l (by omega) l1).1, fun l l0 l1 => (b l (by omega) l1).2⟩
theorem ex_one {p n : Int} {O : Type} [I : Lean.Grind.CommRing O] {φ : (Int → Int) → O} (h : HMs p φ) (hp : 2 ≤ p) (hn : 0 ≤ n ∧ n ≤ 4) {dp : Int → Int} {fig : Int → Int → Int → Int} (r : RDC n fig dp) (tr : TRF n fig) {V : Int → Int → Int} (c : CAN p V) (ok : okE p n dp fig V) : ∀ j : Nat, (j : Int) ≤ n → ∀ i : Int, 0 ≤ i → i < j → φ (exN p n dp fig (n - j).toNat V i) = φ t1 ^ 20 * su j (fun l => φ (shN p n dp fig V l) * φ (bR fig l i))
  | 0, _, i, i0, i1 => by omega
  | j + 1, hj, i, i0, i1 => by
    have ih := ex_one h hp hn r tr c ok j (by omega)
    have b := r.1 j (by omega) (by omega)
    have can := exN_can (n := n) (dp := dp) (fig := fig) hp c (n - ((j + 1 : Nat) : Int)).toNat
    have es : shN p n dp fig V j = shE dp (exN p n dp fig (n - ((j + 1 : Nat) : Int)).toNat V) j := funext fun x => by
      refine (if_pos ⟨by omega, by omega⟩).trans ?_
      rw [show (n - 1 - (j : Int)).toNat = (n - ((j + 1 : Nat) : Int)).toNat by omega]
    have ok' := ok j (by omega) (by omega)
    rw [show (n - 1 - (j : Int)).toNat = (n - ((j + 1 : Nat) : Int)).toNat by omega] at ok'
    rw [su_succ]
    by_cases q : i = j
    · rw [q, su_zeros (fun l a c' => by rw [bR_0 h tr a (by omega) c' (by omega)]; grind), bR_d h r (by omega) (by omega), es]
      have e2 := h.up (f := exN p n dp fig (n - ((j + 1 : Nat) : Int)).toNat V j) (40 - dp j).toNat (fun x => can.1 _ x) (fun x hx => by
        by_cases q : x < 0
        · exact can.2 _ x q
        · exact ok' x (by omega) (by omega))
      rw [e2, show (40 - dp j).toNat = 20 + (20 - dp j).toNat by omega, Lean.Grind.Semiring.pow_add]
      rw [show (fun x => if x < 0 then 0 else exN p n dp fig (n - ((j + 1 : Nat) : Int)).toNat V j (x + ((20 + (20 - dp j).toNat : Nat) : Int))) = shE dp (exN p n dp fig (n - ((j + 1 : Nat) : Int)).toNat V) j from funext fun y => by
        unfold shE
        by_cases q : y < 0
        · rw [if_pos q, if_pos q]
        · rw [if_neg q, if_neg q, show ((20 + (20 - dp j).toNat : Nat) : Int) = 40 - dp j by omega]]
      grind
    · have e := ih i i0 (by omega)
      have f0 : fig j i 0 = 0 := Decidable.byContradiction (fun q => by
        have a := r.2.2 j i 0 i0 (by omega) (by omega) (by omega) (by omega) q
        have b := r.1 i i0 (by omega)
        omega)
      rw [show (n - (j : Int)).toNat = (n - ((j + 1 : Nat) : Int)).toNat + 1 by omega] at e
      have e' : φ (exN p n dp fig ((n - ((j + 1 : Nat) : Int)).toNat + 1) V i) = φ (exN p n dp fig (n - ((j + 1 : Nat) : Int)).toNat V i) - φ (shE dp (exN p n dp fig (n - ((j + 1 : Nat) : Int)).toNat V) j) * (φ t1 ^ 20 * φ (bR fig j i)) := by
        show φ (exS p dp fig (exN p n dp fig (n - ((j + 1 : Nat) : Int)).toNat V) (n - 1 - ((n - ((j + 1 : Nat) : Int)).toNat : Nat)) i) = _
        rw [show n - 1 - (((n - ((j + 1 : Nat) : Int)).toNat : Nat) : Int) = j by omega]
        exact ex_i h i0 (by omega) f0
      rw [e', ← es] at e
      grind
theorem ex_1 {p n : Int} {O : Type} [I : Lean.Grind.CommRing O] {φ : (Int → Int) → O} (h : HMs p φ) (hp : 2 ≤ p) (hn : 0 ≤ n ∧ n ≤ 4) {dp : Int → Int} {fig : Int → Int → Int → Int} (r : RDC n fig dp) (tr : TRF n fig) {V : Int → Int → Int} (c : CAN p V) (ok : okE p n dp fig V) : cmb φ n.toNat fig (fun l => φ (shN p n dp fig V l)) V := fun i i0 i1 => by
  have := ex_one h hp hn r tr c ok n.toNat (by omega) i i0 i1
  rw [show (n - ((n.toNat : Nat) : Int)).toNat = 0 by omega] at this
  exact this
