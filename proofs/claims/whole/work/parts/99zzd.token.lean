/-! Tokens of a text: what both readers find. -/
def skB (T : Int → Int) (n : Int) : Nat → Int → Int
  | 0, i => i
  | k + 1, i => if n ≤ i ∨ ¬ T i = 32 then i else skB T n k (i + 1)
def dgE (T : Int → Int) (n : Int) : Nat → Int → Int
  | 0, i => i
  | k + 1, i => if n ≤ i ∨ ¬ (48 ≤ T i ∧ T i ≤ 57) then i else dgE T n k (i + 1)
def vlN (T : Int → Int) (w : Int) : Nat → Int
  | 0 => 0
  | k + 1 => 10 * vlN T w k + T (w + k) - 48
theorem skB_bd {T : Int → Int} {n : Int} : ∀ (k : Nat) (i : Int), i ≤ n → k = (n - i).toNat → i ≤ skB T n k i ∧ skB T n k i ≤ n
  | 0, i, hi, _ => ⟨Int.le_refl i, hi⟩
  | k + 1, i, hi, hk => by
    show i ≤ (if n ≤ i ∨ ¬ T i = 32 then i else skB T n k (i + 1)) ∧ (if n ≤ i ∨ ¬ T i = 32 then i else skB T n k (i + 1)) ≤ n
    split
    · omega
    · have := skB_bd (T := T) (n := n) k (i + 1) (by omega) (by omega)
      omega
theorem dgE_bd {T : Int → Int} {n : Int} : ∀ (k : Nat) (i : Int), i ≤ n → k = (n - i).toNat → i ≤ dgE T n k i ∧ dgE T n k i ≤ n
  | 0, i, hi, _ => ⟨Int.le_refl i, hi⟩
  | k + 1, i, hi, hk => by
    show i ≤ (if n ≤ i ∨ ¬ (48 ≤ T i ∧ T i ≤ 57) then i else dgE T n k (i + 1)) ∧ (if n ≤ i ∨ ¬ (48 ≤ T i ∧ T i ≤ 57) then i else dgE T n k (i + 1)) ≤ n
    split
    · omega
    · have := dgE_bd (T := T) (n := n) k (i + 1) (by omega) (by omega)
      omega
/-- where the token that comes after i begins -/
def tkW (T : Int → Int) (n i : Int) : Int := skB T n (n - i).toNat i
/-- where its digits end -/
def tkE (T : Int → Int) (n i : Int) : Int := dgE T n (n - tkW T n i).toNat (tkW T n i)
def sgF (v : Int) : Int := if v = 120 ∨ (v = 121 ∨ (v = 43 ∨ (v = 45 ∨ (v = 42 ∨ (v = 94 ∨ (v = 40 ∨ ¬ (¬ v = 41))))))) then 1 else 0
/-- its kind: 0 the end, 1 a number, 2 wrong, or the sign -/
def tkK (T : Int → Int) (n i : Int) : Int := if tkW T n i < tkE T n i then (if tkE T n i - tkW T n i ≤ 3 then 1 else 2) else if n ≤ tkW T n i then 0 else if sgF (T (tkW T n i)) = 0 then 2 else T (tkW T n i)
/-- where the next may begin -/
def tkX (T : Int → Int) (n i : Int) : Int := if tkW T n i < tkE T n i then tkE T n i else if n ≤ tkW T n i then tkW T n i else tkW T n i + 1
def tkV (T : Int → Int) (n i : Int) : Int := vlN T (tkW T n i) (tkE T n i - tkW T n i).toNat
theorem tk_bd {T : Int → Int} {n i : Int} (hi : 0 ≤ i ∧ i ≤ n) : i ≤ tkW T n i ∧ tkW T n i ≤ tkE T n i ∧ tkE T n i ≤ n ∧ tkE T n i ≤ tkX T n i ∧ tkX T n i ≤ n := by
  have a := skB_bd (T := T) (n := n) (n - i).toNat i hi.2 rfl
  have b := dgE_bd (T := T) (n := n) (n - tkW T n i).toNat (tkW T n i) a.2 rfl
  have c : i ≤ tkW T n i := a.1
  have e : tkW T n i ≤ n := a.2
  have f : tkW T n i ≤ tkE T n i := b.1
  have g : tkE T n i ≤ n := b.2
  unfold tkX
  split
  · omega
  · split <;> omega
/-- a step takes something, unless the end is reached -/
theorem tk_go {T : Int → Int} {n i : Int} (hi : 0 ≤ i ∧ i ≤ n) (hk : tkK T n i ≠ 0) : i < tkX T n i := by
  have b := tk_bd (T := T) hi
  unfold tkK at hk
  unfold tkX at b ⊢
  split
  · omega
  · rename_i q
    rw [if_neg q] at hk
    split
    · rename_i q'
      rw [if_pos q'] at hk
      exact absurd rfl hk
    · omega
/-- kinds as the model writes them -/
def kdM (k : Int) : Int := if k = 2 then -1 else k
def mnR (D : Int) (S S' : Hp) : Prop := Md (fun x => x = D) S S' ∧ DW S' D ∧ ∀ i, i ≠ 19 → i ≠ 20 → i ≠ 21 → i ≠ 22 → zG S' D i = zG S D i
theorem mnR.tr {D : Int} {S T U : Hp} (h : mnR D S T) (h' : mnR D T U) : mnR D S U := ⟨h.1.tr h'.1, h'.2.1, fun i a b c e => (h'.2.2 i a b c e).trans (h.2.2 i a b c e)⟩
theorem mnR.st {D i v : Int} {S : Hp} (h : DW S D) (hi : i = 19 ∨ i = 20 ∨ i = 21 ∨ i = 22) : mnR D S (zS S D i v) := ⟨Md.zS _ _ _ _, h.sc (by rcases hi with rfl | rfl | rfl | rfl <;> decide), fun j a b c e => zG_zS_ne _ (Or.inr (by omega))⟩
theorem m_nextSkip {d : Nat} {D n : Int} {T : Int → Int} {Q : Vl → Hp → Prop} (hn : n ≤ 100) : ∀ (k : Nat) (S : Hp) (i : Int), DW S D → zG S D 18 = n → zG S D 19 = i → 0 ≤ i → i ≤ n → k = (n - i).toNat → (∀ x, 0 ≤ x → x < n → zG S (D + 13) x = T x) → (∀ S', mnR D S S' → zG S' D 19 = skB T n k i → At (d + 1) 175 c175_38 [(0, (2, D))] [] S' Q) → At (d + 1) 175 c175_0 [(0, (2, D))] [] S Q
  | k, S, i, h, h18, h19, i0, i1, hk, hT, H => by
    apply w_Model_next_0
    rw [h18, h19, h.x_tape.1, h.x_tape.2.1, h.x_tape.2.2]
    refine ⟨h.1, h.1, fun z => ⟨h.1, h.1, rfl, by omega, by omega⟩, fun z => H S ⟨Md.refl _ _, h, fun _ _ _ _ _ => rfl⟩ ?_, fun z => ⟨h.1, h.1, ?_⟩⟩
    · rw [h19]
      match k, hk with
      | 0, _ => rfl
      | k + 1, hk =>
        show i = if n ≤ i ∨ ¬ T i = 32 then i else skB T n k (i + 1)
        rw [hT i i0 (by omega)] at z
        rw [if_pos z]
    · have z1 : ¬ n ≤ i := fun y => z (Or.inl y)
      rintro _ rfl
      rw [w32_id (by omega) (by omega)]
      match k, hk with
      | 0, hk => omega
      | k + 1, hk =>
        have r := mnR.st (i := 19) (v := i + 1) h (by omega)
        refine m_nextSkip hn k (zS S D 19 (i + 1)) (i + 1) r.2.1 ((r.2.2 18 (by omega) (by omega) (by omega) (by omega)).trans h18) (zG_zS_at _ _ _ _) (by omega) (by omega) (by omega) (fun x x0 x1 => (r.1.G (by omega) x).trans (hT x x0 x1)) (fun S' r' e => H S' (r.tr r') ?_)
        rw [e]
        show _ = if n ≤ i ∨ ¬ T i = 32 then i else skB T n k (i + 1)
        rw [hT i i0 (by omega)] at z
        rw [if_neg z]
theorem m_isDigit {d : Nat} {v : Int} {S : Hp} {Q : Vl → Hp → Prop} (H : Q (0, if v < 48 ∨ 57 < v then 0 else 1) S) : Ev d 173 [(0, v)] S Q := by
  apply w_Model_isDigit_0
  rintro _ rfl
  refine ⟨?_, H⟩
  unfold in01
  split <;> omega
theorem m_isSign {d : Nat} {v : Int} {S : Hp} {Q : Vl → Hp → Prop} (H : Q (0, sgF v) S) : Ev d 174 [(0, v)] S Q := by
  apply w_Model_isSign_0
  rintro _ rfl
  refine ⟨?_, H⟩
  unfold in01
  split <;> omega
theorem m_nextDigits {d : Nat} {D n w : Int} {T : Int → Int} {Q : Vl → Hp → Prop} (hn : n ≤ 100) (w0 : 0 ≤ w) : ∀ (k : Nat) (S : Hp) (c i v : Int), DW S D → zG S D 18 = n → zG S D 19 = i → zG S D 22 = v → i = w + c → 0 ≤ c → i ≤ n → k = (n - i).toNat → (c ≤ 3 → v = vlN T w c.toNat) → (c = 0 → v = 0) → (c = 1 → v ≤ 9) → (c = 2 → v ≤ 99) → 0 ≤ v ∧ v ≤ 999 → (∀ x, 0 ≤ x → x < n → zG S (D + 13) x = T x) → (∀ S', mnR D S S' → zG S' D 19 = dgE T n k i → zG S' D 20 = zG S D 20 → zG S' D 21 = (if dgE T n k i - w ≤ 3 then 1 else -1) → (dgE T n k i - w ≤ 3 → zG S' D 22 = vlN T w (dgE T n k i - w).toNat) → Q (3, 0) S') → At (d + 1) 175 c175_128 [(0, (2, D)), (1, (0, c))] [] S Q
  | k, S, c, i, v, h, h18, h19, h22, hi, c0, i1, hk, hv, v0, v1, v2, vb, hT, H => by
    have fin : dgE T n k i = i → At (d + 1) 175 c175_203 [(0, (2, D)), (1, (0, c))] [] S Q := fun e => by
      rw [e] at H
      apply w_Model_next_203
      rintro _ rfl
      refine ⟨h.1, ?_⟩
      rintro _ rfl
      refine H _ (mnR.st h (by omega)) ((zG_zS_ne _ (Or.inr (by omega))).trans h19) (zG_zS_ne _ (Or.inr (by omega))) ?_ (fun z => ?_)
      · rw [zG_zS_at, show i - w = c by omega]
      · rw [zG_zS_ne _ (Or.inr (by omega)), h22, hv (by omega), show i - w = c by omega]
    apply w_Model_next_128
    rw [h18, h19, h.x_tape.1, h.x_tape.2.1, h.x_tape.2.2]
    refine ⟨h.1, h.1, fun z => fin ?_, fun z => ⟨h.1, h.1, ⟨rfl, by omega, by omega⟩, m_isDigit ⟨_, rfl, fun y => fin ?_, fun y => ?_⟩⟩⟩
    · match k, hk with
      | 0, _ => rfl
      | k + 1, hk => exact if_pos (Or.inl z)
    · match k, hk with
      | 0, _ => rfl
      | k + 1, hk =>
        refine if_pos (Or.inr (fun q => ?_))
        rw [hT i (by omega) (by omega), if_neg (by omega)] at y
        omega
    · rw [hT i (by omega) (by omega)] at y
      have ti : 48 ≤ T i ∧ T i ≤ 57 := Decidable.byContradiction (fun q => y (if_pos (by omega)))
      rw [h19, h22, h.x_tape.1, h.x_tape.2.1, h.x_tape.2.2, hT i (by omega) (by omega), w32_id (x := 10 * v) (by omega) (by omega), w32_id (x := 10 * v + T i) (by omega) (by omega), w32_id (x := 10 * v + T i - 48) (by omega) (by omega), w32_id (x := c + 1) (by omega) (by omega)]
      refine ⟨fun _ => ⟨h.1, h.1, h.1, rfl, by omega, by omega⟩, ?_⟩
      rintro _ rfl
      refine ⟨h.1, ?_⟩
      rintro _ rfl _ rfl
      generalize hx : (if 3 ≤ c then 0 else 10 * v + T i - 48) = x
      have r1 := mnR.st (i := 22) (v := x) h (by omega)
      rw [zG_zS_ne _ (Or.inr (by omega)), h19, w32_id (by omega) (by omega)]
      refine ⟨r1.2.1.1, r1.2.1.1, ?_⟩
      rintro _ rfl
      have r := r1.tr (mnR.st (i := 19) (v := i + 1) r1.2.1 (by omega))
      have xb : 0 ≤ x ∧ x ≤ 999 ∧ (c = 0 → x ≤ 9) ∧ (c = 1 → x ≤ 99) := by
        rw [← hx]
        split <;> omega
      match k, hk with
      | 0, hk => omega
      | k + 1, hk =>
        have st : dgE T n (k + 1) i = dgE T n k (i + 1) := if_neg (fun q => by omega)
        refine m_nextDigits hn w0 k _ (c + 1) (i + 1) x r.2.1 ((r.2.2 18 (by omega) (by omega) (by omega) (by omega)).trans h18) (zG_zS_at _ _ _ _) ((zG_zS_ne _ (Or.inr (by omega))).trans (zG_zS_at _ _ _ _)) (by omega) (by omega) (by omega) (by omega) (fun q => ?_) (by omega) (fun q => xb.2.2.1 (by omega)) (fun q => xb.2.2.2 (by omega)) ⟨xb.1, xb.2.1⟩ (fun x x0 x1 => (r.1.G (by omega) x).trans (hT x x0 x1)) (fun S' r' e19 e20 e21 e22 => H S' (r.tr r') ?_ ?_ ?_ ?_)
        · rw [← hx, if_neg (by omega), show (c + 1).toNat = c.toNat + 1 by omega, hv (by omega)]
          show _ = 10 * vlN T w c.toNat + T (w + (c.toNat : Int)) - 48
          rw [show w + ((c.toNat : Nat) : Int) = i by omega]
        · rw [st]
          exact e19
        · rw [e20, zG_zS_ne _ (Or.inr (by omega)), zG_zS_ne _ (Or.inr (by omega))]
        · rw [st]
          exact e21
        · rw [st]
          exact e22
theorem m_next {d : Nat} {D n i : Int} {S : Hp} {T : Int → Int} {Q : Vl → Hp → Prop} (hn : 0 ≤ n ∧ n ≤ 100) (h : DW S D) (h18 : zG S D 18 = n) (h19 : zG S D 19 = i) (hi : 0 ≤ i ∧ i ≤ n) (hT : ∀ x, 0 ≤ x → x < n → zG S (D + 13) x = T x) (H : ∀ S', mnR D S S' → zG S' D 19 = tkX T n i → zG S' D 20 = tkW T n i → zG S' D 21 = kdM (tkK T n i) → (tkK T n i = 1 → zG S' D 22 = tkV T n i) → Q (3, 0) S') : Ev (d + 1) 175 [(2, D)] S Q := by
  have b := tk_bd (T := T) hi
  apply w_Model_next_e
  refine m_nextSkip hn.2 (n - i).toNat S i h h18 h19 hi.1 hi.2 rfl hT (fun S1 r1 e1 => ?_)
  have e1 : zG S1 D 19 = tkW T n i := e1
  have hv : tkV T n i = vlN T (tkW T n i) (tkE T n i - tkW T n i).toNat := rfl
  have he : tkE T n i = dgE T n (n - tkW T n i).toNat (tkW T n i) := rfl
  unfold tkK tkX at H
  unfold tkX at b
  rw [hv] at H
  generalize tkE T n i = e at H he b
  generalize tkW T n i = w at H he b e1
  apply w_Model_next_38
  rw [e1]
  refine ⟨r1.2.1.1, r1.2.1.1, ?_⟩
  rintro _ rfl
  have q1 := mnR.st (i := 20) (v := w) r1.2.1 (by omega)
  refine ⟨q1.2.1.1, ?_⟩
  rintro _ rfl
  have q2 := q1.tr (mnR.st (i := 21) (v := 0) q1.2.1 (by omega))
  refine ⟨q2.2.1.1, ?_⟩
  rintro _ rfl
  have q3 := q2.tr (mnR.st (i := 22) (v := 0) q2.2.1 (by omega))
  have g19 : zG (zS (zS (zS S1 D 20 w) D 21 0) D 22 0) D 19 = w := by
    rw [zG_zS_ne _ (Or.inr (by omega)), zG_zS_ne _ (Or.inr (by omega)), zG_zS_ne _ (Or.inr (by omega)), e1]
  have g20 : zG (zS (zS (zS S1 D 20 w) D 21 0) D 22 0) D 20 = w := by
    rw [zG_zS_ne _ (Or.inr (by omega)), zG_zS_ne _ (Or.inr (by omega)), zG_zS_at]
  have g21 : zG (zS (zS (zS S1 D 20 w) D 21 0) D 22 0) D 21 = 0 := by
    rw [zG_zS_ne _ (Or.inr (by omega)), zG_zS_at]
  have g22 : zG (zS (zS (zS S1 D 20 w) D 21 0) D 22 0) D 22 = 0 := zG_zS_at _ _ _ _
  have q4 := r1.tr q3
  generalize zS (zS (zS S1 D 20 w) D 21 0) D 22 0 = S3 at g19 g20 g21 g22 q3 q4
  have g18 : zG S3 D 18 = n := (q4.2.2 18 (by omega) (by omega) (by omega) (by omega)).trans h18
  have h3 := q3.2.1
  have T3 : ∀ x, 0 ≤ x → x < n → zG S3 (D + 13) x = T x := fun x x0 x1 => (q4.1.G (by omega) x).trans (hT x x0 x1)
  rw [g18, g19, h3.x_tape.1, h3.x_tape.2.1, h3.x_tape.2.2]
  refine ⟨h3.1, h3.1, fun z => ⟨h3.1, h3.1, ⟨rfl, by omega, by omega⟩, m_isDigit ⟨_, rfl, fun y => ?_, fun y => ⟨h3.1, h3.1, ?_⟩⟩⟩, fun z => ?_⟩
  · rw [T3 w (by omega) (by omega)] at y
    have tw : 48 ≤ T w ∧ T w ≤ 57 := Decidable.byContradiction (fun q => y (if_pos (by omega)))
    have lt : w < e := by
      rw [he, show (n - w).toNat = (n - w - 1).toNat + 1 by omega]
      have := dgE_bd (T := T) (n := n) (n - w - 1).toNat (w + 1) (by omega) (by omega)
      rw [show dgE T n ((n - w - 1).toNat + 1) w = dgE T n (n - w - 1).toNat (w + 1) from if_neg (fun q => by omega)]
      omega
    refine m_nextDigits (T := T) (w := w) hn.2 (by omega) (n - w).toNat S3 0 w 0 h3 g18 g19 g22 (by omega) (by omega) (by omega) rfl (fun _ => rfl) (by omega) (by omega) (by omega) (by omega) T3 (fun S4 r4 e19 e20 e21 e22 => H S4 (q4.tr r4) ?_ (e20.trans g20) ?_ (fun z => ?_))
    · rw [e19, ← he, if_pos lt]
    · rw [e21, ← he, if_pos lt]
      unfold kdM
      by_cases q : e - w ≤ 3
      · rw [if_pos q, if_pos q, if_neg (by omega)]
      · rw [if_neg q, if_neg q, if_pos rfl]
    · rw [he]
      apply e22
      rw [← he]
      rw [if_pos lt] at z
      exact Decidable.byContradiction (fun q => by rw [if_neg q] at z; omega)
  · rw [T3 w (by omega) (by omega)] at y
    have tw : ¬ (48 ≤ T w ∧ T w ≤ 57) := fun q => y (by rw [if_neg (by omega)]; omega)
    have eq : e = w := by
      rw [he, show (n - w).toNat = (n - w - 1).toNat + 1 by omega]
      exact if_pos (Or.inr tw)
    rw [eq] at H
    rw [if_neg (show ¬ w < w by omega), if_neg (show ¬ w < w by omega), if_neg (show ¬ n ≤ w by omega), if_neg (show ¬ n ≤ w by omega)] at H
    rw [g19, h3.x_tape.1, h3.x_tape.2.1, h3.x_tape.2.2, T3 w (by omega) (by omega)]
    refine ⟨⟨rfl, by omega, by omega⟩, m_isSign ⟨_, rfl, fun _ => ⟨h3.1, h3.1, by rw [h3.x_tape.1, h3.x_tape.2.1, h3.x_tape.2.2, g19]; exact ⟨rfl, by omega, by omega⟩⟩, ?_⟩⟩
    rw [h3.x_tape.1, g19, T3 w (by omega) (by omega)]
    rintro _ rfl
    refine ⟨h3.1, ?_⟩
    rintro _ rfl
    generalize hx : (if sgF (T w) = 0 then -1 else T w) = x
    have q5 := mnR.st (i := 21) (v := x) h3 (by omega)
    rw [zG_zS_ne _ (Or.inr (by omega)), g19, w32_id (by omega) (by omega)]
    refine ⟨q5.2.1.1, q5.2.1.1, ?_⟩
    rintro _ rfl
    have q6 := q5.tr (mnR.st (i := 19) (v := w + 1) q5.2.1 (by omega))
    have sv : T w ≠ 2 ∨ sgF (T w) = 0 := by
      unfold sgF
      by_cases q : T w = 2
      · right
        rw [if_neg (by omega)]
      · exact Or.inl q
    refine H _ (q4.tr q6) (zG_zS_at _ _ _ _) ?_ ?_ (fun z => ?_)
    · rw [zG_zS_ne _ (Or.inr (by omega)), zG_zS_ne _ (Or.inr (by omega)), g20]
    · rw [zG_zS_ne _ (Or.inr (by omega)), zG_zS_at, ← hx]
      unfold kdM
      by_cases q : sgF (T w) = 0
      · rw [if_pos q, if_pos q, if_pos rfl]
      · rw [if_neg q, if_neg q, if_neg (by omega)]
    · exfalso
      by_cases q : sgF (T w) = 0
      · rw [if_pos q] at z
        omega
      · rw [if_neg q] at z
        unfold sgF at q
        rw [if_neg (by omega)] at q
        exact q rfl
  · have wn : w = n := Decidable.not_not.mp z
    have eq : e = w := by
      rw [he, show (n - w).toNat = 0 by omega]
      rfl
    rw [eq] at H
    rw [if_neg (show ¬ w < w by omega), if_neg (show ¬ w < w by omega), if_pos (show n ≤ w by omega), if_pos (show n ≤ w by omega)] at H
    refine H S3 q4 g19 g20 (g21.trans ?_) (fun z => ?_)
    · unfold kdM
      rw [if_neg (by omega)]
    · omega
