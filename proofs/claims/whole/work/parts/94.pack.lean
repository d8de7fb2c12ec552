/-! Figures packed into a long. -/
def pkF (g : Int → Int) : Nat → Int
  | 0 => 0
  | s + 1 => pkF g s + (if s = 0 then 0 else g s) * (8 : Int) ^ s
theorem p8pos (s : Nat) : 0 < (8 : Int) ^ s := Int.pow_pos (by omega)
theorem pkF_bd {g : Int → Int} {n : Nat} (hg : ∀ m : Int, 1 ≤ m → m < n → 0 ≤ g m ∧ g m < 8) : ∀ s, s ≤ n → 0 ≤ pkF g s ∧ pkF g s < (8 : Int) ^ s
  | 0, _ => by
    show 0 ≤ (0 : Int) ∧ (0 : Int) < (8 : Int) ^ 0
    rw [Int.pow_zero]
    omega
  | s + 1, h => by
    have ih := pkF_bd hg s (by omega)
    have hp := p8pos s
    show 0 ≤ pkF g s + (if s = 0 then 0 else g s) * (8 : Int) ^ s ∧ pkF g s + (if s = 0 then 0 else g s) * (8 : Int) ^ s < (8 : Int) ^ (s + 1)
    have hh : 0 ≤ (if s = 0 then 0 else g s) ∧ (if s = 0 then 0 else g s) ≤ 7 := by
      split
      · omega
      · have := hg s (by omega) (by omega)
        omega
    generalize (if s = 0 then 0 else g s) = c at *
    rw [Int.pow_succ]
    have h1 := Int.mul_nonneg hh.1 (Int.le_of_lt hp)
    have h2 := Int.mul_le_mul_of_nonneg_right hh.2 (Int.le_of_lt hp)
    omega
theorem fg_add_hi {a c : Int} {s m : Nat} (h : m < s) : fg (a + c * (8 : Int) ^ s) m = fg a m := by
  unfold fg
  rw [show ((m : Int)).toNat = m by omega, show s = (s - m - 1) + 1 + m by omega, Int.pow_add, ← Int.mul_assoc, Int.add_mul_ediv_right _ _ (by have := p8pos m; omega), Int.pow_succ, ← Int.mul_assoc]
  generalize c * 8 ^ (s - m - 1) = u
  omega
theorem fg_add_at {a c : Int} {s : Nat} (h0 : 0 ≤ a) (h1 : a < (8 : Int) ^ s) (c0 : 0 ≤ c) (c1 : c < 8) : fg (a + c * (8 : Int) ^ s) s = c := by
  unfold fg
  rw [show ((s : Int)).toNat = s by omega, Int.add_mul_ediv_right _ _ (by have := p8pos s; omega), Int.ediv_eq_zero_of_lt h0 h1]
  omega
theorem fg_lt {a : Int} {m : Nat} (h0 : 0 ≤ a) (h1 : a < (8 : Int) ^ m) : fg a m = 0 := by
  unfold fg
  rw [show ((m : Int)).toNat = m by omega, Int.ediv_eq_zero_of_lt h0 h1]
  rfl
theorem p8mono {a b : Nat} (h : a ≤ b) : (8 : Int) ^ a ≤ (8 : Int) ^ b := by
  rw [show b = (b - a) + a by omega, Int.pow_add]
  have h1 := p8pos (b - a)
  have h2 := p8pos a
  have := Int.mul_le_mul_of_nonneg_right (show (1 : Int) ≤ 8 ^ (b - a) by omega) (Int.le_of_lt h2)
  omega
theorem fg_pk {g : Int → Int} {n : Nat} (hg : ∀ m : Int, 1 ≤ m → m < n → 0 ≤ g m ∧ g m < 8) : ∀ (s : Nat), s ≤ n → ∀ m : Nat, fg (pkF g s) m = if 1 ≤ m ∧ m < s then g m else 0
  | 0, _, m => by
    rw [if_neg (by omega)]
    exact fg_zero _
  | s + 1, h, m => by
    have ih := fg_pk hg s (by omega) m
    have b := pkF_bd hg s (by omega)
    have b' := pkF_bd hg (s + 1) h
    by_cases q : m < s
    · show fg (pkF g s + (if s = 0 then 0 else g s) * (8 : Int) ^ s) m = _
      rw [fg_add_hi q, ih]
      by_cases q2 : 1 ≤ m
      · rw [if_pos ⟨q2, q⟩, if_pos ⟨q2, by omega⟩]
      · rw [if_neg (fun z => q2 z.1), if_neg (fun z => q2 z.1)]
    · by_cases q2 : m = s
      · subst q2
        show fg (pkF g m + (if m = 0 then 0 else g m) * (8 : Int) ^ m) m = _
        by_cases q3 : m = 0
        · rw [if_pos q3, if_neg (by omega), fg_add_at b.1 b.2 (by omega) (by omega)]
        · have := hg m (by omega) (by omega)
          rw [if_neg q3, if_pos ⟨by omega, by omega⟩, fg_add_at b.1 b.2 this.1 this.2]
      · rw [if_neg (by omega)]
        exact fg_lt b'.1 (Int.lt_of_lt_of_le b'.2 (p8mono (by omega)))
theorem p8_21 : (8 : Int) ^ 21 = 9223372036854775808 := by decide
theorem fg_one {dp m : Nat} : fg ((8 : Int) ^ dp) m = if m = dp then 1 else 0 := by
  have hp := p8pos dp
  by_cases q : m = dp
  · rw [if_pos q, q]
    have := fg_add_at (a := 0) (c := 1) (s := dp) (by omega) hp (by omega) (by omega)
    rw [Int.one_mul, Int.zero_add] at this
    exact this
  · rw [if_neg q]
    by_cases q2 : m < dp
    · have := fg_add_hi (a := 0) (c := 1) q2
      rw [Int.one_mul, Int.zero_add] at this
      rw [this]
      exact fg_zero _
    · refine fg_lt (Int.le_of_lt hp) (Int.lt_of_lt_of_le ?_ (p8mono (show dp + 1 ≤ m by omega)))
      rw [Int.pow_succ]
      omega
/-- one step of the packing, as the class takes it -/
theorem pk_step {g : Int → Int} {m : Int} (hg : ∀ q : Int, 1 ≤ q → q < 21 → 0 ≤ g q ∧ g q < 8) (h0 : 1 ≤ m) (h1 : m ≤ 20) : lOr (pkF g m.toNat) (lShl (g m) (3 * m)) = pkF g (m + 1).toNat := by
  have b := pkF_bd (n := 21) hg m.toNat (by omega)
  have b' := pkF_bd (n := 21) hg (m + 1).toNat (by omega)
  have gm := hg m h0 (by omega)
  have e8 : (2 : Int) ^ (3 * m).toNat = (8 : Int) ^ m.toNat := by
    rw [show (3 * m).toNat = 3 * m.toNat by omega]
    exact p8 _
  have en : pkF g (m + 1).toNat = pkF g m.toNat + g m * (8 : Int) ^ m.toNat := by
    rw [show (m + 1).toNat = m.toNat + 1 by omega]
    show pkF g m.toNat + (if m.toNat = 0 then 0 else g ((m.toNat : Nat) : Int)) * (8 : Int) ^ m.toNat = _
    rw [if_neg (by omega), show ((m.toNat : Nat) : Int) = m by omega]
  have hl : (8 : Int) ^ (m + 1).toNat ≤ 9223372036854775808 := by
    rw [← p8_21]
    exact p8mono (by omega)
  have hlt : pkF g m.toNat + g m * (8 : Int) ^ m.toNat < 9223372036854775808 := by
    rw [← en]
    omega
  have hgm : g m * (2 : Int) ^ (3 * m).toNat < 9223372036854775808 := by
    rw [e8]
    omega
  rw [lShl_ok gm.1 (by omega) (by omega) hgm, lOr_ok b.1 (by rw [e8]; exact b.2) gm.1 (by rw [e8]; exact hlt), e8, en]
