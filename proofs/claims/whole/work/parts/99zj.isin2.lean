/-! The model: isIn. -/
theorem sm_ind {K : Nat} {F : Int → Int} {t : Int} : sm K (fun m => if m = t then F m else 0) = if 0 ≤ t ∧ t < K then F t else 0 := by
  induction K with
  | zero => rw [if_neg (by omega)]; rfl
  | succ K ih =>
    rw [sm_succ, ih]
    by_cases q : t = K
    · rw [if_neg (by omega), if_pos q.symm, if_pos (by omega), q]
      omega
    · by_cases q2 : 0 ≤ t ∧ t < K
      · rw [if_pos q2, if_neg (by omega), if_pos (by omega)]
        omega
      · rw [if_neg q2, if_neg (by omega), if_neg (by omega)]
        rfl
theorem sm_window {N : Nat} {g h : Int → Int} {c : Int} (hg : ∀ y, (y < 0 ∨ (N : Int) ≤ y) → g y = 0) : sm N (fun q => if 0 ≤ c + q ∧ c + q ≤ 20 then g q * h (c + q) else 0) = sm 21 (fun m => h m * g (m - c)) := by
  have e1 : sm N (fun q => if 0 ≤ c + q ∧ c + q ≤ 20 then g q * h (c + q) else 0) = sm N (fun q => sm 21 (fun m => if m = c + q then g q * h m else 0)) := sm_congr (fun q q0 q1 => by
    rw [sm_ind (K := 21) (F := fun m => g q * h m) (t := c + q)]
    by_cases z : 0 ≤ c + q ∧ c + q ≤ 20
    · rw [if_pos z, if_pos (by omega)]
    · rw [if_neg z, if_neg (by omega)])
  rw [e1, sm_swap]
  refine sm_congr (fun m m0 m1 => ?_)
  have e2 : sm N (fun q => if m = c + q then g q * h m else 0) = sm N (fun q => if q = m - c then g q * h m else 0) := sm_congr (fun q q0 q1 => by
    by_cases z : m = c + q
    · rw [if_pos z, if_pos (by omega)]
    · rw [if_neg z, if_neg (by omega)])
  rw [e2, sm_ind (K := N) (F := fun q => g q * h m) (t := m - c)]
  by_cases z : 0 ≤ m - c ∧ m - c < N
  · rw [if_pos z, Int.mul_comm]
  · rw [if_neg z, hg (m - c) (by omega), Int.mul_zero]
/-- a reduced basis -/
def RDC (n : Int) (fig : Int → Int → Int → Int) (dp : Int → Int) : Prop := (∀ l, 0 ≤ l → l < n → 0 ≤ dp l ∧ dp l ≤ 20) ∧ (∀ l m, 0 ≤ l → l < n → 0 ≤ m → m ≤ 20 → fig l l m = if m = dp l then 1 else 0) ∧ ∀ l i m, 0 ≤ i → i < l → l < n → 0 ≤ m → m ≤ 20 → fig l i m ≠ 0 → dp i < m
theorem exN_deg {p n B : Int} {dp : Int → Int} {fig : Int → Int → Int → Int} {Sp : Int → Int → Int} (hr : RDC n fig dp) (hS : ∀ i x, 0 ≤ i → i < n → B - dp i < x → Sp i x = 0) : ∀ (s : Nat), (s : Int) ≤ n → ∀ i x, 0 ≤ i → i < n → B - dp i < x → exN p n dp fig s Sp i x = 0
  | 0, _, i, x, i0, i1, hx => hS i x i0 i1 hx
  | s + 1, hs, i, x, i0, i1, hx => by
    have ih := exN_deg (p := p) hr hS s (by omega)
    show exS p dp fig (exN p n dp fig s Sp) (n - 1 - s) i x = 0
    unfold exS
    by_cases q : 0 ≤ i ∧ i < n - 1 - s
    · rw [if_pos q, ih i x i0 i1 hx, sm_zeros (fun m m0 m1 => by
        by_cases z : fig (n - 1 - s) i (m + 1) = 0
        · rw [z, Int.zero_mul]
        · have := hr.2.2 (n - 1 - s) i (m + 1) i0 q.2 (by omega) (by omega) (by omega) z
          unfold shE
          split
          · exact Int.mul_zero _
          · rw [ih (n - 1 - s) _ (by omega) (by omega) (by omega), Int.mul_zero])]
      rfl
    · rw [if_neg q]
      exact ih i x i0 i1 hx
/-- the rows while b_l is taken off, its share as far as e -/
def inP (p : Int) (fig : Int → Int → Int → Int) (l lo : Int) (V : Int → Int → Int) (e : Int) : Int → Int → Int := fun i x => if 0 ≤ i ∧ i < l then (V i x + (-1) * sm e.toNat (fun q => if 0 ≤ 40 - x + q ∧ 40 - x + q ≤ 20 then V l (q + lo) * fig l i (40 - x + q) else 0)) % p else if i = l ∧ lo ≤ x ∧ x < lo + e then 0 else V i x
theorem inP_step {p l lo e : Int} {fig : Int → Int → Int → Int} {dp : Int → Int} {V : Int → Int → Int} (hp : 2 ≤ p) (bV : ∀ i x, 0 ≤ V i x ∧ V i x < p) (l0 : 0 ≤ l) (hd : 0 ≤ dp l ∧ dp l ≤ 20) (hlo : lo = 40 - dp l) (hf : ∀ m, 0 ≤ m → m ≤ 20 → fig l l m = if m = dp l then 1 else 0) (e0 : 0 ≤ e) (i x : Int) : tkF p fig l e (V l (e + lo)) (inP p fig l lo V e) i x = inP p fig l lo V (e + 1) i x := by
  unfold tkF
  by_cases q : 0 ≤ i ∧ i < l
  · have e1 : ∀ k, inP p fig l lo V k i x = (V i x + (-1) * sm k.toNat (fun q => if 0 ≤ 40 - x + q ∧ 40 - x + q ≤ 20 then V l (q + lo) * fig l i (40 - x + q) else 0)) % p := fun k => by
      unfold inP
      rw [if_pos q]
    rw [e1, e1, show (e + 1).toNat = e.toNat + 1 by omega, sm_succ, show ((e.toNat : Nat) : Int) = e by omega]
    by_cases w : 20 + e ≤ x ∧ x ≤ 40 + e
    · rw [if_pos (by omega), if_pos (show 0 ≤ 40 - x + e ∧ 40 - x + e ≤ 20 by omega), Int.emod_add_emod, show 40 + e - x = 40 - x + e by omega, Int.mul_add, Int.add_assoc]
    · rw [if_neg (by omega), if_neg (show ¬ (0 ≤ 40 - x + e ∧ 40 - x + e ≤ 20) by omega), Int.add_zero]
  · by_cases r : i = l
    · subst r
      have bb := bV i x
      have e1 : ∀ k, inP p fig i lo V k i x = if lo ≤ x ∧ x < lo + k then 0 else V i x := fun k => by
        unfold inP
        rw [if_neg (by omega)]
        by_cases z : lo ≤ x ∧ x < lo + k
        · rw [if_pos ⟨rfl, z⟩, if_pos z]
        · rw [if_neg (fun y => z y.2), if_neg z]
      rw [e1, e1]
      by_cases w : 0 ≤ i ∧ i ≤ i ∧ 20 + e ≤ x ∧ x ≤ 40 + e
      · rw [if_pos w, hf (40 + e - x) (by omega) (by omega)]
        by_cases z : x = e + lo
        · rw [if_pos (show 40 + e - x = dp i by omega), if_neg (by omega), if_pos (by omega), z, Int.mul_one, show V i (e + lo) + -1 * V i (e + lo) = 0 by omega]
          rfl
        · rw [if_neg (show ¬ 40 + e - x = dp i by omega), Int.mul_zero, Int.mul_zero, Int.add_zero]
          by_cases y : lo ≤ x ∧ x < lo + e
          · rw [if_pos y, if_pos (by omega)]
            rfl
          · rw [if_neg y, if_neg (by omega), em_id bb.1 bb.2]
      · rw [if_neg w]
        by_cases y : lo ≤ x ∧ x < lo + e
        · rw [if_pos y, if_pos (by omega)]
        · rw [if_neg y, if_neg (by omega)]
    · rw [if_neg (by omega)]
      unfold inP
      rw [if_neg q, if_neg q, if_neg (fun z => r z.1), if_neg (fun z => r z.1)]
theorem inP_end {p l lo e : Int} {fig : Int → Int → Int → Int} {dp : Int → Int} {V : Int → Int → Int} (hd : 0 ≤ dp l ∧ dp l ≤ 20) (hlo : lo = 40 - dp l) (hf0 : ∀ i, 0 ≤ i → i < l → fig l i 0 = 0) (he : e = 96 - lo) (zV : ∀ x, 96 ≤ x → V l x = 0) (i x : Int) (hi : 0 ≤ i ∧ i < l) : inP p fig l lo V e i x = exS p dp fig V l i x := by
  unfold inP exS
  rw [if_pos hi, if_pos hi]
  congr 2
  congr 1
  have hg : ∀ y, (y < 0 ∨ (e.toNat : Int) ≤ y) → (fun q => if q < 0 then 0 else V l (q + lo)) y = 0 := fun y hy => by
    (try dsimp only)
    by_cases z : y < 0
    · rw [if_pos z]
    · rw [if_neg z]
      exact zV _ (by omega)
  have e1 : sm e.toNat (fun q => if 0 ≤ 40 - x + q ∧ 40 - x + q ≤ 20 then V l (q + lo) * fig l i (40 - x + q) else 0) = sm e.toNat (fun q => if 0 ≤ 40 - x + q ∧ 40 - x + q ≤ 20 then (fun q => if q < 0 then 0 else V l (q + lo)) q * fig l i (40 - x + q) else 0) := sm_congr (fun q q0 q1 => by
    (try dsimp only)
    rw [if_neg (show ¬ q < 0 by omega)])
  rw [e1, sm_window hg, show (21 : Nat) = 20 + 1 from rfl, sm_first, hf0 i hi.1 hi.2, Int.zero_mul, Int.zero_add]
  refine sm_congr (fun m m0 m1 => ?_)
  (try dsimp only)
  unfold shE
  rw [show m + 1 - (40 - x) = x - (40 - (m + 1)) by omega, hlo]
