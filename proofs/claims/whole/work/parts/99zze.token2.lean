/-! Tokens: the class's reader. Layout from R: bytes R + 1, held R + 2 with rows R + 3 .. R + 17, base R + 18, scratch R + 19. -/
def RDW (S : Hp) (R : Int) : Prop := zK S R = 9 ∧ zG S R 0 = R + 1 ∧ zG S R 2 = R + 2 ∧ zG S R 3 = R + 18 ∧ zG S R 4 = R + 19 ∧ (zK S (R + 1) = 101 ∧ zL S (R + 1) = 100) ∧ (zK S (R + 2) = 108 ∧ zL S (R + 2) = 15) ∧ (∀ j, 0 ≤ j → j < 15 → zG S (R + 2) j = R + 3 + j) ∧ ∀ j, 0 ≤ j → j < 17 → zK S (R + 3 + j) = 101 ∧ zL S (R + 3 + j) = 49
theorem RDW.keep {M : Int → Prop} {S S' : Hp} {R : Int} (h : RDW S R) (m : Md M S S') (hR : ∀ i, i = 0 ∨ i = 2 ∨ i = 3 ∨ i = 4 → zG S' R i = zG S R i) (h2 : ¬ M (R + 2)) : RDW S' R := by
  obtain ⟨a1, a2, a3, a4, a5, a6, a7, a8, a9⟩ := h
  refine ⟨(m.K _).trans a1, (hR 0 (by omega)).trans a2, (hR 2 (by omega)).trans a3, (hR 3 (by omega)).trans a4, (hR 4 (by omega)).trans a5, ⟨(m.K _).trans a6.1, (m.L _).trans a6.2⟩, ⟨(m.K _).trans a7.1, (m.L _).trans a7.2⟩, fun j j0 j1 => (m.G h2 j).trans (a8 j j0 j1), fun j j0 j1 => ⟨(m.K _).trans (a9 j j0 j1).1, (m.L _).trans (a9 j j0 j1).2⟩⟩
def rnR (R : Int) (S S' : Hp) : Prop := Md (fun x => x = R) S S' ∧ RDW S' R ∧ ∀ i, i ≠ 6 → i ≠ 7 → i ≠ 8 → i ≠ 9 → zG S' R i = zG S R i
theorem rnR.tr {R : Int} {S T U : Hp} (h : rnR R S T) (h' : rnR R T U) : rnR R S U := ⟨h.1.tr h'.1, h'.2.1, fun i a b c e => (h'.2.2 i a b c e).trans (h.2.2 i a b c e)⟩
theorem rnR.st {R i v : Int} {S : Hp} (h : RDW S R) (hi : i = 6 ∨ i = 7 ∨ i = 8 ∨ i = 9) : rnR R S (zS S R i v) := ⟨Md.zS _ _ _ _, h.keep (Md.zS _ _ _ _) (fun j hj => zG_zS_ne _ (Or.inr (by omega))) (by omega), fun j a b c e => zG_zS_ne _ (Or.inr (by omega))⟩
theorem s_isDigit {d : Nat} {v : Int} {S : Hp} {Q : Vl → Hp → Prop} (H : Q (0, if v < 48 ∨ 57 < v then 0 else 1) S) : Ev d 86 [(0, v)] S Q := by
  apply w_Reader_isDigit_0
  rintro _ rfl
  refine ⟨?_, H⟩
  unfold in01
  split <;> omega
theorem s_isSign {d : Nat} {v : Int} {S : Hp} {Q : Vl → Hp → Prop} (H : Q (0, sgF v) S) : Ev d 87 [(0, v)] S Q := by
  apply w_Reader_isSign_0
  rintro _ rfl
  refine ⟨?_, H⟩
  unfold in01
  split <;> omega
theorem s_stepSkip {d : Nat} {R n : Int} {T : Int → Int} {Q : Vl → Hp → Prop} (hn : n ≤ 100) : ∀ (k : Nat) (S : Hp) (i : Int), RDW S R → zG S R 1 = n → zG S R 6 = i → 0 ≤ i → i ≤ n → k = (n - i).toNat → (∀ x, 0 ≤ x → x < n → zG S (R + 1) x = T x) → (∀ S', rnR R S S' → zG S' R 6 = skB T n k i → At (d + 1) 85 c85_38 [(0, (2, R))] [] S' Q) → At (d + 1) 85 c85_0 [(0, (2, R))] [] S Q
  | k, S, i, h, h1, h6, i0, i1, hk, hT, H => by
    apply w_Reader_step_0
    rw [h1, h6, h.2.1, h.2.2.2.2.2.1.1, h.2.2.2.2.2.1.2]
    refine ⟨h.1, h.1, fun z => ⟨h.1, h.1, rfl, by omega, by omega⟩, fun z => H S ⟨Md.refl _ _, h, fun _ _ _ _ _ => rfl⟩ ?_, fun z => ⟨h.1, h.1, ?_⟩⟩
    · rw [h6]
      match k, hk with
      | 0, _ => rfl
      | k + 1, hk =>
        show i = if n ≤ i ∨ ¬ T i = 32 then i else skB T n k (i + 1)
        rw [hT i i0 (by omega)] at z
        rw [if_pos z]
    · have z1 : ¬ n ≤ i := fun y => z (Or.inl y)
      rintro _ rfl
      rw [w32_id (by omega) (by omega)]
      match k, hk with
      | 0, hk => omega
      | k + 1, hk =>
        have r := rnR.st (i := 6) (v := i + 1) h (by omega)
        refine s_stepSkip hn k (zS S R 6 (i + 1)) (i + 1) r.2.1 ((r.2.2 1 (by omega) (by omega) (by omega) (by omega)).trans h1) (zG_zS_at _ _ _ _) (by omega) (by omega) (by omega) (fun x x0 x1 => (r.1.G (by omega) x).trans (hT x x0 x1)) (fun S' r' e => H S' (r.tr r') ?_)
        rw [e]
        show _ = if n ≤ i ∨ ¬ T i = 32 then i else skB T n k (i + 1)
        rw [hT i i0 (by omega)] at z
        rw [if_neg z]
theorem s_stepDigits {d : Nat} {R n w : Int} {T : Int → Int} {Q : Vl → Hp → Prop} (hn : n ≤ 100) (w0 : 0 ≤ w) : ∀ (k : Nat) (S : Hp) (c i v : Int), RDW S R → zG S R 1 = n → zG S R 6 = i → zG S R 8 = w → zG S R 9 = v → i = w + c → 0 ≤ c → i ≤ n → k = (n - i).toNat → (c ≤ 3 → v = vlN T w c.toNat) → (c = 0 → v = 0) → (c = 1 → v ≤ 9) → (c = 2 → v ≤ 99) → 0 ≤ v ∧ v ≤ 999 → (∀ x, 0 ≤ x → x < n → zG S (R + 1) x = T x) → (∀ S', rnR R S S' → zG S' R 6 = dgE T n k i → zG S' R 8 = w → (dgE T n k i - w ≤ 3 → zG S' R 9 = vlN T w (dgE T n k i - w).toNat) → At (d + 1) 85 c85_134 [(0, (2, R))] [] S' Q) → At (d + 1) 85 c85_51 [(0, (2, R))] [] S Q
  | k, S, c, i, v, h, h1, h6, h8, h9, hi, c0, i1, hk, hv, v0, v1, v2, vb, hT, H => by
    have fin : dgE T n k i = i → At (d + 1) 85 c85_134 [(0, (2, R))] [] S Q := fun e => by
      rw [e] at H
      refine H S ⟨Md.refl _ _, h, fun _ _ _ _ _ => rfl⟩ h6 h8 (fun z => ?_)
      rw [h9, hv (by omega), show i - w = c by omega]
    have hB := h.2.2.2.2.2.1
    apply w_Reader_step_51
    rw [h1, h6, h.2.1, hB.1, hB.2]
    refine ⟨h.1, h.1, fun z => fin ?_, fun z => ⟨h.1, h.1, ⟨rfl, by omega, by omega⟩, s_isDigit ⟨_, rfl, fun y => fin ?_, fun y => ?_⟩⟩⟩
    · match k, hk with
      | 0, _ => rfl
      | k + 1, hk => exact if_pos (Or.inl z)
    · match k, hk with
      | 0, _ => rfl
      | k + 1, hk =>
        refine if_pos (Or.inr (fun q => ?_))
        rw [hT i (by omega) (by omega), if_neg (by omega)] at y
        omega
    · rw [hT i (by omega) (by omega)] at y
      have ti : 48 ≤ T i ∧ T i ≤ 57 := Decidable.byContradiction (fun q => y (if_pos (by omega)))
      rw [h6, h8, h9, h.2.1, hB.1, hB.2, hT i (by omega) (by omega), w32_id (x := 10 * v) (by omega) (by omega), w32_id (x := 10 * v + T i) (by omega) (by omega), w32_id (x := 10 * v + T i - 48) (by omega) (by omega), w32_id (x := i - w) (by omega) (by omega)]
      refine ⟨h.1, h.1, fun _ => h.1, fun _ => ⟨h.1, h.1, h.1, rfl, by omega, by omega⟩, ?_⟩
      rintro _ rfl
      refine ⟨h.1, ?_⟩
      rintro _ rfl
      generalize hx : (if 3 ≤ i - w then v else 10 * v + T i - 48) = x
      have r1 := rnR.st (i := 9) (v := x) h (by omega)
      rw [zG_zS_ne _ (Or.inr (by omega)), h6, w32_id (by omega) (by omega)]
      refine ⟨r1.2.1.1, r1.2.1.1, ?_⟩
      rintro _ rfl
      have r := r1.tr (rnR.st (i := 6) (v := i + 1) r1.2.1 (by omega))
      have xb : 0 ≤ x ∧ x ≤ 999 ∧ (c = 0 → x ≤ 9) ∧ (c = 1 → x ≤ 99) := by
        rw [← hx]
        split <;> omega
      match k, hk with
      | 0, hk => omega
      | k + 1, hk =>
        have st : dgE T n (k + 1) i = dgE T n k (i + 1) := if_neg (fun q => by omega)
        refine s_stepDigits hn w0 k _ (c + 1) (i + 1) x r.2.1 ((r.2.2 1 (by omega) (by omega) (by omega) (by omega)).trans h1) (zG_zS_at _ _ _ _) ?_ ((zG_zS_ne _ (Or.inr (by omega))).trans (zG_zS_at _ _ _ _)) (by omega) (by omega) (by omega) (by omega) (fun q => ?_) (by omega) (fun q => xb.2.2.1 (by omega)) (fun q => xb.2.2.2 (by omega)) ⟨xb.1, xb.2.1⟩ (fun x x0 x1 => (r.1.G (by omega) x).trans (hT x x0 x1)) (fun S' r' e6 e8 e9 => H S' (r.tr r') ?_ e8 ?_)
        · rw [zG_zS_ne _ (Or.inr (by omega)), zG_zS_ne _ (Or.inr (by omega)), h8]
        · rw [← hx, if_neg (by omega), show (c + 1).toNat = c.toNat + 1 by omega, hv (by omega)]
          show _ = 10 * vlN T w c.toNat + T (w + (c.toNat : Int)) - 48
          rw [show w + ((c.toNat : Nat) : Int) = i by omega]
        · rw [st]
          exact e6
        · rw [st]
          exact e9
theorem s_step {d : Nat} {R n i : Int} {S : Hp} {T : Int → Int} {Q : Vl → Hp → Prop} (hn : 0 ≤ n ∧ n ≤ 100) (h : RDW S R) (h1 : zG S R 1 = n) (h6 : zG S R 6 = i) (hi : 0 ≤ i ∧ i ≤ n) (hT : ∀ x, 0 ≤ x → x < n → zG S (R + 1) x = T x) (H : ∀ S', rnR R S S' → zG S' R 6 = tkX T n i → zG S' R 8 = tkW T n i → zG S' R 7 = tkK T n i → (tkK T n i = 1 → zG S' R 9 = tkV T n i) → Q (3, 0) S') : Ev (d + 1) 85 [(2, R)] S Q := by
  have b := tk_bd (T := T) hi
  apply w_Reader_step_e
  refine s_stepSkip hn.2 (n - i).toNat S i h h1 h6 hi.1 hi.2 rfl hT (fun S1 r1 e1 => ?_)
  have e1 : zG S1 R 6 = tkW T n i := e1
  have hv : tkV T n i = vlN T (tkW T n i) (tkE T n i - tkW T n i).toNat := rfl
  have he : tkE T n i = dgE T n (n - tkW T n i).toNat (tkW T n i) := rfl
  unfold tkK tkX at H
  unfold tkX at b
  rw [hv] at H
  generalize tkE T n i = e at H he b
  generalize tkW T n i = w at H he b e1
  apply w_Reader_step_38
  rw [e1]
  refine ⟨r1.2.1.1, r1.2.1.1, ?_⟩
  rintro _ rfl
  have q1 := rnR.st (i := 8) (v := w) r1.2.1 (by omega)
  refine ⟨q1.2.1.1, ?_⟩
  rintro _ rfl
  have q2 := r1.tr (q1.tr (rnR.st (i := 9) (v := 0) q1.2.1 (by omega)))
  refine s_stepDigits (T := T) (w := w) hn.2 (by omega) (n - w).toNat _ 0 w 0 q2.2.1 ((q2.2.2 1 (by omega) (by omega) (by omega) (by omega)).trans h1) ?_ ?_ (zG_zS_at _ _ _ _) (by omega) (by omega) (by omega) rfl (fun _ => rfl) (by omega) (by omega) (by omega) (by omega) (fun x x0 x1 => (q2.1.G (by omega) x).trans (hT x x0 x1)) (fun S4 r4 e6 e8 e9 => ?_)
  · rw [zG_zS_ne _ (Or.inr (by omega)), zG_zS_ne _ (Or.inr (by omega)), e1]
  · rw [zG_zS_ne _ (Or.inr (by omega)), zG_zS_at]
  · rw [← he] at e6 e9
    have q4 := q2.tr r4
    have h4 := q4.2.1
    have g1 : zG S4 R 1 = n := (q4.2.2 1 (by omega) (by omega) (by omega) (by omega)).trans h1
    have hB := h4.2.2.2.2.2.1
    apply w_Reader_step_134
    rw [e6, e8, g1, h4.2.1, hB.1, hB.2]
    refine ⟨h4.1, h4.1, fun z => ⟨h4.1, h4.1, fun y => ⟨h4.1, h4.1, ⟨rfl, by omega, by omega⟩, ?_⟩, fun y => ⟨h4.1, ?_⟩⟩, fun z => ⟨h4.1, h4.1, ?_⟩⟩
    · have eq : e = w := by omega
      rw [eq] at H e6 y ⊢
      rw [if_neg (show ¬ w < w by omega), if_neg (show ¬ w < w by omega), if_neg (show ¬ n ≤ w by omega), if_neg (show ¬ n ≤ w by omega)] at H
      have T4 : zG S4 (R + 1) w = T w := (q4.1.G (by omega) w).trans (hT w (by omega) (by omega))
      rw [T4]
      refine s_isSign ⟨_, rfl, fun _ => ⟨h4.1, h4.1, by rw [h4.2.1, hB.1, hB.2, e6]; exact ⟨rfl, by omega, by omega⟩⟩, ?_⟩
      rw [h4.2.1, e6, T4]
      rintro _ rfl
      refine ⟨h4.1, ?_⟩
      rintro _ rfl
      generalize hx : (if sgF (T w) = 0 then 2 else T w) = x at H
      have q5 := rnR.st (i := 7) (v := x) h4 (by omega)
      rw [zG_zS_ne _ (Or.inr (by omega)), e6, w32_id (by omega) (by omega)]
      refine ⟨q5.2.1.1, q5.2.1.1, ?_⟩
      rintro _ rfl
      have q6 := q5.tr (rnR.st (i := 6) (v := w + 1) q5.2.1 (by omega))
      refine H _ (q4.tr q6) (zG_zS_at _ _ _ _) ?_ ?_ (fun z => ?_)
      · rw [zG_zS_ne _ (Or.inr (by omega)), zG_zS_ne _ (Or.inr (by omega)), e8]
      · rw [zG_zS_ne _ (Or.inr (by omega)), zG_zS_at]
      · exfalso
        rw [← hx] at z
        by_cases q : sgF (T w) = 0
        · rw [if_pos q] at z
          omega
        · rw [if_neg q] at z
          unfold sgF at q
          rw [if_neg (by omega)] at q
          exact q rfl
    · have eq : e = w := by omega
      rw [eq] at H e6 y
      rw [if_neg (show ¬ w < w by omega), if_neg (show ¬ w < w by omega), if_pos (show n ≤ w by omega), if_pos (show n ≤ w by omega)] at H
      rintro _ rfl
      exact H _ (q4.tr (rnR.st h4 (by omega))) ((zG_zS_ne _ (Or.inr (by omega))).trans e6) ((zG_zS_ne _ (Or.inr (by omega))).trans e8) (zG_zS_at _ _ _ _) (fun z => by omega)
    · rw [if_pos (show w < e by omega), if_pos (show w < e by omega)] at H
      rw [w32_id (x := e - w) (by omega) (by omega)]
      rintro _ rfl
      refine ⟨h4.1, ?_⟩
      rintro _ rfl
      refine H _ (q4.tr (rnR.st h4 (by omega))) ((zG_zS_ne _ (Or.inr (by omega))).trans e6) ((zG_zS_ne _ (Or.inr (by omega))).trans e8) ?_ (fun z => ?_)
      · rw [zG_zS_at]
        by_cases q : e - w ≤ 3
        · rw [if_pos q, if_neg (by omega)]
        · rw [if_neg q, if_pos (by omega)]
      · rw [zG_zS_ne _ (Or.inr (by omega))]
        exact e9 (Decidable.byContradiction (fun q => by rw [if_neg q] at z; omega))
