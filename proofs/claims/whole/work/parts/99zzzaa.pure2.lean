/-! The pure reader keeps its bounds; what it tells has no degree above 6. -/
def dg6 (P : Int → Int) : Prop := ∀ x, 0 ≤ x → x < 49 → 6 < dgS x → P x = 0
theorem acc_nz {p : Int} {A B : Int → Int} (x : Int) : ∀ (k : Nat), acc p A B k x ≠ 0 → ∃ j : Nat, j < k ∧ A ((j : Int) / 49) ≠ 0 ∧ B ((j : Int) % 49) ≠ 0 ∧ x = (j : Int) / 49 + (j : Int) % 49
  | 0, h => absurd rfl h
  | k + 1, h => by
    by_cases q : A ((k : Int) / 49) = 0 ∨ B ((k : Int) % 49) = 0 ∨ ¬ x = (k : Int) / 49 + (k : Int) % 49
    · have e : acc p A B (k + 1) x = acc p A B k x := if_pos q
      rw [e] at h
      obtain ⟨j, a, b⟩ := acc_nz x k h
      exact ⟨j, by omega, b⟩
    · exact ⟨k, by omega, fun z => q (Or.inl z), fun z => q (Or.inr (Or.inl z)), Decidable.byContradiction (fun z => q (Or.inr (Or.inr z)))⟩
theorem mlP_dg {p h : Int} {A B : Int → Int} (hA : dg6 A) : dg6 (mlP p h A B) := by
  unfold mlP
  by_cases q : 0 ≤ h ∨ ¬ hpN A B 2401 = 0
  · rw [if_pos q]
    exact hA
  · rw [if_neg q]
    have nh : nHi A B := hpN_n.mp (Decidable.byContradiction (fun z => q (Or.inr z)))
    intro x x0 x1 hx
    refine Decidable.byContradiction (fun z => ?_)
    obtain ⟨j, hj, a, b, e⟩ := acc_nz x 2401 z
    have := nh ((j : Int) / 49) ((j : Int) % 49) (by omega) (by omega) (by omega) (by omega) a b
    unfold dgS at hx this
    generalize (j : Int) / 49 = u at *
    generalize (j : Int) % 49 = v at *
    omega
theorem mlH_le {h g n : Int} {A B : Int → Int} (hh : h ≤ n) (hg : g ≤ n) : mlH h A B g ≤ n := by
  unfold mlH
  split <;> omega
theorem rsR_bd {p h g n : Int} {B : Int → Int} (hh : h ≤ n) (hg : g ≤ n) : ∀ (k : Nat), (rsR p h B g k).1 ≤ n ∧ dg6 (rsR p h B g k).2
  | 0 => ⟨hh, fun x x0 x1 hx => by
    show un1 x = 0
    unfold un1
    unfold dgS at hx
    rw [if_neg (by omega)]⟩
  | k + 1 => ⟨mlH_le (rsR_bd hh hg k).1 hg, mlP_dg (rsR_bd hh hg k).2⟩
/-- a result with its bounds -/
def rdB (n : Int) (q : Int × Int × Int × (Int → Int)) : Prop := (0 ≤ q.2.1 ∧ q.2.1 ≤ n) ∧ q.2.2.1 ≤ n ∧ dg6 q.2.2.2
def rdBB (n : Int) (R : Int → Int → Int × Int × Int × (Int → Int)) : Prop := ∀ i h, 0 ≤ i ∧ i ≤ n → h ≤ n → rdB n (R i h)
theorem dg6_0 : dg6 (fun _ => 0) := fun _ _ _ _ => rfl
theorem rdAt_bd {T : Int → Int} {n p : Int} {br : Int → Int → Int × Int × Int × (Int → Int)} (B : rdBB n br) : rdBB n (rdAt T n p br) := by
  intro i h hi hh
  have tb := tk_bd (T := T) hi
  have tx : 0 ≤ tkX T n i ∧ tkX T n i ≤ n := by omega
  unfold rdAt
  split
  · exact B i h hi hh
  · split
    · refine ⟨tx, hh, fun x x0 x1 hx => ?_⟩
      unfold dgS at hx
      show (if x = 1 then (1 : Int) else 0) = 0
      rw [if_neg (by omega)]
    · split
      · refine ⟨tx, hh, fun x x0 x1 hx => ?_⟩
        unfold dgS at hx
        show (if x = 7 then (1 : Int) else 0) = 0
        rw [if_neg (by omega)]
      · split
        · refine ⟨tx, hh, fun x x0 x1 hx => ?_⟩
          unfold dgS at hx
          show (if x = 0 then tkV T n i % p else 0) = 0
          rw [if_neg (by omega)]
        · exact ⟨hi, hh, dg6_0⟩
theorem rdPw_bd {T : Int → Int} {n p : Int} {br : Int → Int → Int × Int × Int × (Int → Int)} (B : rdBB n br) : rdBB n (rdPw T n p br) := by
  intro i h hi hh
  have a := rdAt_bd (T := T) (p := p) B i h hi hh
  unfold rdPw
  generalize rdAt T n p br i h = t at a
  have tb := tk_bd (T := T) a.1
  have a1 := a.1
  have tb2 := tk_bd (T := T) (n := n) (i := tkX T n t.2.1) (by omega)
  split
  · exact a
  · split
    · exact ⟨show 0 ≤ tkX T n t.2.1 ∧ tkX T n t.2.1 ≤ n by omega, a.2.1, dg6_0⟩
    · have := rsR_bd (p := p) (B := t.2.2.2) (g := tkW T n t.2.1) a.2.1 (by omega) (tkV T n (tkX T n t.2.1)).toNat
      exact ⟨show 0 ≤ tkX T n (tkX T n t.2.1) ∧ tkX T n (tkX T n t.2.1) ≤ n by omega, this.1, this.2⟩
theorem rdTl_bd {T : Int → Int} {n p : Int} {br : Int → Int → Int × Int × Int × (Int → Int)} (B : rdBB n br) : ∀ (f : Nat) (i h : Int) (P : Int → Int), 0 ≤ i ∧ i ≤ n → h ≤ n → dg6 P → rdB n (rdTl T n p br f i h P)
  | 0, i, h, P, hi, hh, hP => ⟨hi, hh, hP⟩
  | f + 1, i, h, P, hi, hh, hP => by
    have tb := tk_bd (T := T) hi
    have a := rdPw_bd (T := T) (p := p) B (tkX T n i) h (by omega) hh
    show rdB n (if ¬ tkK T n i = 42 then (1, i, h, P) else if (rdPw T n p br (tkX T n i) h).1 = 0 then rdPw T n p br (tkX T n i) h else rdTl T n p br f (rdPw T n p br (tkX T n i) h).2.1 (mlH (rdPw T n p br (tkX T n i) h).2.2.1 P (rdPw T n p br (tkX T n i) h).2.2.2 (tkW T n i)) (mlP p (rdPw T n p br (tkX T n i) h).2.2.1 P (rdPw T n p br (tkX T n i) h).2.2.2))
    generalize rdPw T n p br (tkX T n i) h = t at a
    split
    · exact ⟨hi, hh, hP⟩
    · split
      · exact a
      · exact rdTl_bd B f _ _ _ a.1 (mlH_le a.2.1 (by omega)) (mlP_dg hP)
theorem rdTm_bd {T : Int → Int} {n p : Int} {br : Int → Int → Int × Int × Int × (Int → Int)} (B : rdBB n br) : rdBB n (rdTm T n p br) := by
  intro i h hi hh
  have a := rdPw_bd (T := T) (p := p) B i h hi hh
  unfold rdTm
  split
  · exact a
  · exact rdTl_bd B 100 _ _ _ a.1 a.2.1 a.2.2
theorem dg6_add {p s : Int} {P Q : Int → Int} (hP : dg6 P) (hQ : dg6 Q) : dg6 (fun x => (P x + s * Q x) % p) := fun x x0 x1 hx => by
  show (P x + s * Q x) % p = 0
  rw [hP x x0 x1 hx, hQ x x0 x1 hx, Int.mul_zero]
  exact Int.zero_emod p
theorem rdSl_bd {T : Int → Int} {n p : Int} {br : Int → Int → Int × Int × Int × (Int → Int)} (B : rdBB n br) : ∀ (f : Nat) (s i h : Int) (P : Int → Int), 0 ≤ i ∧ i ≤ n → h ≤ n → dg6 P → rdB n (rdSl T n p br f s i h P)
  | 0, s, i, h, P, hi, hh, hP => ⟨hi, hh, hP⟩
  | f + 1, s, i, h, P, hi, hh, hP => by
    have a := rdTm_bd (T := T) (p := p) B i h hi hh
    show rdB n (if (rdTm T n p br i h).1 = 0 then rdTm T n p br i h else if tkK T n (rdTm T n p br i h).2.1 = 43 then rdSl T n p br f 1 (tkX T n (rdTm T n p br i h).2.1) (rdTm T n p br i h).2.2.1 (fun x => (P x + s * (rdTm T n p br i h).2.2.2 x) % p) else if tkK T n (rdTm T n p br i h).2.1 = 45 then rdSl T n p br f (p - 1) (tkX T n (rdTm T n p br i h).2.1) (rdTm T n p br i h).2.2.1 (fun x => (P x + s * (rdTm T n p br i h).2.2.2 x) % p) else (1, (rdTm T n p br i h).2.1, (rdTm T n p br i h).2.2.1, fun x => (P x + s * (rdTm T n p br i h).2.2.2 x) % p))
    generalize rdTm T n p br i h = t at a
    have tb := tk_bd (T := T) a.1
    have a1 := a.1
    split
    · exact a
    · split
      · exact rdSl_bd B f _ _ _ _ (by omega) a.2.1 (dg6_add hP a.2.2)
      · split
        · exact rdSl_bd B f _ _ _ _ (by omega) a.2.1 (dg6_add hP a.2.2)
        · exact ⟨a.1, a.2.1, dg6_add hP a.2.2⟩
theorem rdSm_bb {T : Int → Int} {n p : Int} {br : Int → Int → Int × Int × Int × (Int → Int)} (B : rdBB n br) : rdBB n (rdSm T n p br) := by
  intro i h hi hh
  have tb := tk_bd (T := T) hi
  unfold rdSm
  split
  · exact rdSl_bd B 100 _ _ _ _ (by omega) hh dg6_0
  · exact rdSl_bd B 100 _ _ _ _ hi hh dg6_0
theorem brk_bd {T : Int → Int} {n p : Int} : ∀ (k : Nat), rdBB n (brk T n p k)
  | 0 => fun i h hi hh => ⟨hi, hh, dg6_0⟩
  | k + 1 => by
    intro i h hi hh
    have tb := tk_bd (T := T) hi
    have a := rdSm_bb (T := T) (p := p) (brk_bd (T := T) (p := p) k) (tkX T n i) h (by omega) hh
    show rdB n (if (rdSm T n p (brk T n p k) (tkX T n i) h).1 = 0 ∨ ¬ tkK T n (rdSm T n p (brk T n p k) (tkX T n i) h).2.1 = 41 then (0, (rdSm T n p (brk T n p k) (tkX T n i) h).2.1, (rdSm T n p (brk T n p k) (tkX T n i) h).2.2.1, fun _ => 0) else (1, tkX T n (rdSm T n p (brk T n p k) (tkX T n i) h).2.1, (rdSm T n p (brk T n p k) (tkX T n i) h).2.2.1, (rdSm T n p (brk T n p k) (tkX T n i) h).2.2.2))
    generalize rdSm T n p (brk T n p k) (tkX T n i) h = t at a
    have tb2 := tk_bd (T := T) a.1
    have a1 := a.1
    split
    · exact ⟨a.1, a.2.1, dg6_0⟩
    · exact ⟨show 0 ≤ tkX T n t.2.1 ∧ tkX T n t.2.1 ≤ n by omega, a.2.1, a.2.2⟩
theorem rdSm_bd {T : Int → Int} {n p : Int} (h2 : 2 ≤ p ∧ p ≤ 7) (hn : 0 ≤ n ∧ n ≤ 100) (k : Nat) {i h : Int} (hi : 0 ≤ i ∧ i ≤ n) (hh : h ≤ n) : rdB n (rdSm T n p (brk T n p k) i h) := rdSm_bb (brk_bd k) i h hi hh
theorem rdA_bd {T : Int → Int} {n p : Int} (hn : 0 ≤ n ∧ n ≤ 100) : rdB n (rdA T n p) := rdSm_bb (brk_bd 4) 0 (-1) (by omega) (by omega)
