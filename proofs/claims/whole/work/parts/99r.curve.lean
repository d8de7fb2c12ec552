/-! The model: what a polynomial is like; a curve's numbers. -/
theorem m_degreeOf {d : Nat} {a : Int} {S : Hp} {Q : Vl → Hp → Prop} (ka : zK S a = 101) (la : zL S a = 49) (H : Q (0, dgr (zG S a)) S) : Ev d 177 [(2, a)] S Q := by
  apply w_Model_degreeOf_0
  generalize hF : zG S a = F at H
  refine loopU (α := Int) (P := fun j v => At d 177 c177_4 [(0, (2, a)), (1, (0, v)), (2, (0, j))] [] S Q) (I := fun j v => 0 ≤ j ∧ v = mxN F (fun e => e / 7 + e % 7) (7 * j).toNat) 7 ?_ ?_ 0 0 (by omega) ⟨by omega, rfl⟩
  · rintro j v hj ⟨j0, rfl⟩ hk
    apply w_Model_degreeOf_4
    refine ⟨fun hc => by omega, fun _ => ?_⟩
    refine loopU (α := Int) (P := fun i v => At d 177 c177_12 [(0, (2, a)), (1, (0, v)), (2, (0, j)), (3, (0, i))] [] S Q) (I := fun i v => 0 ≤ i ∧ v = mxN F (fun e => e / 7 + e % 7) (7 * j + i).toNat) 7 ?_ ?_ 0 _ (by omega) ⟨by omega, by rw [show 7 * j + 0 = 7 * j by omega]⟩
    · rintro i v hi ⟨i0, rfl⟩ hk2
      have st : mxN F (fun e => e / 7 + e % 7) (7 * j + (i + 1)).toNat = if F (7 * j + i) = 0 then mxN F (fun e => e / 7 + e % 7) (7 * j + i).toNat else max (mxN F (fun e => e / 7 + e % 7) (7 * j + i).toNat) (i + j) := by
        rw [show (7 * j + (i + 1)).toNat = (7 * j + i).toNat + 1 by omega]
        show (if F ((7 * j + i).toNat : Int) = 0 then mxN F (fun e => e / 7 + e % 7) (7 * j + i).toNat else max (mxN F (fun e => e / 7 + e % 7) (7 * j + i).toNat) (((7 * j + i).toNat : Int) / 7 + ((7 * j + i).toNat : Int) % 7)) = _
        rw [show (((7 * j + i).toNat : Nat) : Int) = 7 * j + i by omega, show (7 * j + i) / 7 + (7 * j + i) % 7 = i + j by omega]
      apply w_Model_degreeOf_12
      rw [w32_id (x := 7 * j) (by omega) (by omega), w32_id (x := 7 * j + i) (by omega) (by omega), hF, w32_id (x := i + j) (by omega) (by omega), la]
      refine ⟨fun hc => by omega, fun _ => ⟨⟨ka, by omega, by omega⟩, ?_⟩⟩
      rintro _ rfl _ rfl
      rw [w32_id (by omega) (by omega)]
      refine hk2 _ ⟨by omega, ?_⟩
      rw [st]
      clear hk hk2 st
      generalize mxN F (fun e => e / 7 + e % 7) (7 * j + i).toNat = u
      by_cases q : F (7 * j + i) = 0
      · rw [if_pos (Or.inl q), if_pos q]
      · rw [if_neg q]
        by_cases q2 : i + j ≤ u
        · rw [if_pos (Or.inr q2)]
          omega
        · rw [if_neg (by omega)]
          omega
    · rintro v ⟨i0, rfl⟩
      apply w_Model_degreeOf_12
      refine ⟨fun _ => ?_, fun hc => absurd (Int.le_refl 7) hc⟩
      rintro _ rfl
      rw [w32_id (by omega) (by omega)]
      exact hk _ ⟨by omega, by rw [show 7 * (j + 1) = 7 * j + 7 by omega]⟩
  · rintro v ⟨-, rfl⟩
    apply w_Model_degreeOf_4
    exact ⟨fun _ => H, fun hc => absurd (Int.le_refl 7) hc⟩
theorem m_heightOf {d : Nat} {D a : Int} {S : Hp} {Q : Vl → Hp → Prop} (ka : zK S a = 101) (la : zL S a = 49) (H0 : ¬ isCv (zG S a) → Q (0, 0) S) (H1 : isCv (zG S a) → Q (0, hgt (zG S a)) S) : Ev (d + 1) 188 [(2, D), (2, a)] S Q := by
  apply w_Model_heightOf_0
  generalize hF : zG S a = F at H0 H1
  refine loopU (α := Int) (P := fun j v => At (d + 1) 188 c188_4 [(1, (2, a)), (2, (0, v)), (3, (0, j))] [] S Q) (I := fun j v => 0 ≤ j ∧ 0 ≤ v ∧ (v ≤ j) ∧ v = mxN F (fun e => e / 7) (7 * j).toNat) 7 ?_ ?_ 0 0 (by omega) ⟨by omega, by omega, by omega, rfl⟩
  · rintro j v hj ⟨j0, v0, v1, vv⟩ hk
    apply w_Model_heightOf_4
    refine ⟨fun hc => by omega, fun _ => ?_⟩
    refine loopU (α := Int) (P := fun i v => At (d + 1) 188 c188_13 [(1, (2, a)), (2, (0, v)), (3, (0, j)), (4, (0, i))] [] S Q) (I := fun i v => 0 ≤ i ∧ 0 ≤ v ∧ v ≤ j ∧ v = mxN F (fun e => e / 7) (7 * j + i).toNat) 7 ?_ ?_ 0 _ (by omega) ⟨by omega, v0, v1, by rw [show 7 * j + 0 = 7 * j by omega]; exact vv⟩
    · rintro i v hi ⟨i0, v0, v1, rfl⟩ hk2
      have st : mxN F (fun e => e / 7) (7 * j + (i + 1)).toNat = if F (7 * j + i) = 0 then mxN F (fun e => e / 7) (7 * j + i).toNat else max (mxN F (fun e => e / 7) (7 * j + i).toNat) j := by
        rw [show (7 * j + (i + 1)).toNat = (7 * j + i).toNat + 1 by omega]
        show (if F ((7 * j + i).toNat : Int) = 0 then mxN F (fun e => e / 7) (7 * j + i).toNat else max (mxN F (fun e => e / 7) (7 * j + i).toNat) (((7 * j + i).toNat : Int) / 7)) = _
        rw [show (((7 * j + i).toNat : Nat) : Int) = 7 * j + i by omega, show (7 * j + i) / 7 = j by omega]
      apply w_Model_heightOf_13
      rw [w32_id (x := 7 * j) (by omega) (by omega), w32_id (x := 7 * j + i) (by omega) (by omega), hF, la]
      refine ⟨fun hc => by omega, fun _ => ⟨⟨ka, by omega, by omega⟩, ?_⟩⟩
      rintro _ rfl _ rfl
      rw [w32_id (by omega) (by omega)]
      refine hk2 _ ⟨by omega, ?_, ?_, ?_⟩
      · split <;> omega
      · split <;> omega
      · rw [st]
        grind
    · rintro v ⟨i0, v0, v1, vv⟩
      apply w_Model_heightOf_13
      refine ⟨fun _ => ?_, fun hc => absurd (Int.le_refl 7) hc⟩
      rintro _ rfl
      rw [w32_id (by omega) (by omega)]
      exact hk _ ⟨by omega, v0, by omega, by rw [show 7 * (j + 1) = 7 * j + 7 by omega]; exact vv⟩
  · rintro v ⟨-, v0, v1, vv⟩
    have hv : hgt F = v := vv.symm
    unfold isCv at H0 H1
    rw [hv] at H0 H1
    apply w_Model_heightOf_4
    refine ⟨fun _ => m_in ⟨_, rfl, fun hz => ⟨ka, ?_⟩, fun hz => H0 (fun z => ?_), fun hz => ?_⟩, fun hc => absurd (Int.le_refl 7) hc⟩
    · rw [w32_id (by omega) (by omega), la]
      have : 2 ≤ v ∧ v ≤ 4 := by grind
      omega
    · rw [if_pos ⟨z.1, z.2.1⟩, w32_id (by omega) (by omega), hF] at hz
      rcases hz with hz | hz
      · omega
      · exact hz z.2.2.1
    · have hr : 2 ≤ v ∧ v ≤ 4 := by grind
      rw [w32_id (by omega) (by omega), hF] at hz
      have h1 : F (7 * v) = 1 := by grind
      refine loopU (α := Unit) (P := fun i _ => At (d + 1) 188 c188_73 [(1, (2, a)), (2, (0, v)), (3, (0, i))] [] S Q) (I := fun i _ => 1 ≤ i ∧ ∀ e, 1 ≤ e → e < i → F (e + 7 * v) = 0) 7 ?_ ?_ 1 () (by omega) ⟨by omega, fun e e0 e1 => by omega⟩
      · rintro i _ hi ⟨i0, hz2⟩ hk
        apply w_Model_heightOf_73
        rw [w32_id (x := 7 * v) (by omega) (by omega), w32_id (x := 7 * v + i) (by omega) (by omega), hF, la]
        refine ⟨fun hc => by omega, fun _ => ⟨⟨ka, by omega, by omega⟩, fun he => ?_, fun he => H0 (fun z => he ?_)⟩⟩
        · rintro _ rfl
          rw [w32_id (by omega) (by omega)]
          refine hk () ⟨by omega, fun e e0 e1 => ?_⟩
          rcases Int.lt_or_le e i with q | q
          · exact hz2 e e0 q
          · rw [show e + 7 * v = 7 * v + i by omega]
            exact he
        · have := z.2.2.2 i i0 hi
          rw [show i + 7 * v = 7 * v + i by omega] at this
          exact this
      · rintro _ ⟨-, hz2⟩
        apply w_Model_heightOf_73
        exact ⟨fun _ => H1 ⟨hr.1, hr.2, h1, hz2⟩, fun hc => absurd (Int.le_refl 7) hc⟩
theorem m_isNone {d : Nat} {a : Int} {S : Hp} {Q : Vl → Hp → Prop} (ka : zK S a = 101) (la : zL S a = 49) (H : ∀ v, in01 v → (v = 1 ↔ ∀ e, 0 ≤ e → e < 49 → zG S a e = 0) → Q (0, v) S) : Ev d 178 [(2, a)] S Q := by
  apply w_Model_isNone_0
  refine loopU (α := Unit) (P := fun i _ => At d 178 c178_2 [(0, (2, a)), (1, (0, i))] [] S Q) (I := fun i _ => 0 ≤ i ∧ ∀ e, 0 ≤ e → e < i → zG S a e = 0) 49 ?_ ?_ 0 () (by omega) ⟨by omega, fun e e0 e1 => by omega⟩
  · rintro i _ hi ⟨i0, hz⟩ hk
    apply w_Model_isNone_2
    rw [la]
    refine ⟨fun _ => ⟨ka, i0, hi⟩, fun hc => ?_, fun hc => ?_⟩
    · have hc : ¬ zG S a i = 0 := by omega
      apply w_Model_isNone_20
      rintro _ rfl
      rw [if_pos (by omega)]
      exact ⟨Or.inl rfl, H 0 (Or.inl rfl) ⟨fun z => by omega, fun z => absurd (z i i0 hi) hc⟩⟩
    · rintro _ rfl
      rw [w32_id (by omega) (by omega)]
      refine hk () ⟨by omega, fun e e0 e1 => ?_⟩
      rcases Int.lt_or_le e i with q | q
      · exact hz e e0 q
      · rw [show e = i by omega]
        omega
  · rintro _ ⟨-, hz⟩
    apply w_Model_isNone_2
    refine ⟨fun hc => absurd (Int.le_refl 49) hc, fun _ => ?_, fun hc => absurd (Or.inl (Int.le_refl 49)) hc⟩
    apply w_Model_isNone_20
    rintro _ rfl
    rw [if_neg (by omega)]
    exact ⟨Or.inr rfl, H 1 (Or.inr rfl) ⟨fun _ => hz, fun _ => rfl⟩⟩
/-- what a new curve leaves: the row at a is its polynomial -/
def becR (p n : Int) (F : Int → Int) (D : Int) (S S' : Hp) : Prop := Md (fun x => x = D ∨ x = D + 1 ∨ x = D + 2 ∨ x = D + 3 ∨ (D + 23 ≤ x ∧ x ≤ D + 29)) S S' ∧ DW S' D ∧ (∀ e, 0 ≤ e → e < 49 → zG S' (D + 1) e = F e) ∧ zG S' D 1 = n ∧ zG S' D 2 = dgr F ∧ zG S' D 16 = 0 ∧ zG S' D 48 = -1 ∧ (∀ i, i ≠ 1 → i ≠ 2 → i ≠ 16 → i ≠ 48 → zG S' D i = zG S D i) ∧ (∀ i, zG S' (D + 3) i = fgH (zG S (D + 3)) i) ∧ ∃ P, NW p n (cfF F n) P ∧ (∀ k x, 6 * k < x → P k x = 0) ∧ (∀ x, 0 ≤ x → x < 200 → zG S' (D + 2) x = dsM p n (trE n P) x) ∧ ∃ x, dsM p n (trE n P) x ≠ 0
theorem dsM_out {p n : Int} {E : Int → Int → Int} {S : Hp} {a : Int} {G : Int → Int → Int} (b : BR S a 200 5 p G) (g : ∀ x, G n x = dsM p n E x) (x : Int) : (x < 0 ∨ 200 ≤ x) → dsM p n E x = 0 := fun hx => by
  rw [← g]
  exact b.2.2.2.1 n x hx
set_option maxHeartbeats 1000000 in
theorem m_becomesCurve {d : Nat} {D a p n : Int} {S : Hp} {F : Int → Int} {Q : Vl → Hp → Prop} (h : DW S D) (hp : zG S D 0 = p) (h2 : 2 ≤ p ∧ p ≤ 7) (aD : D + 3 < a ∧ (a < D + 23 ∨ D + 29 < a)) (ka : zK S a = 101) (la : zL S a = 49) (hn : 2 ≤ n ∧ n ≤ 4) (hF : ∀ e, 0 ≤ e → e < 49 → zG S a e = F e) (bF : ∀ e, 0 ≤ F e ∧ F e < p) (H0 : ∀ S' P, Md (fun x => D + 23 ≤ x ∧ x ≤ D + 29) S S' → DW S' D → NW p n (cfF F n) P → (∀ k x, 6 * k < x → P k x = 0) → (∀ x, dsM p n (trE n P) x = 0) → Q (0, -15) S') (H1 : ∀ S', becR p n F D S S' → Q (0, n) S') : Ev (d + 5) 199 [(2, D), (2, a), (0, n)] S Q := by
  apply w_Model_becomesCurve_0
  refine ⟨h.1, m_findsDisc (C := cfF F n) h hp h2 (by omega) ka la hn (fun j e j0 j1 e0 e1 => ?_) (fun j e => ?_) (fun j e he => ?_) (fun S1 P G v m1 nw dP b1 g1 v1 vz => ⟨_, rfl, fun hv => ?_, fun hv => ?_⟩)⟩
  · unfold cfF
    rw [if_pos ⟨j0, j1, e0, e1⟩]
    exact hF _ (by omega) (by omega)
  · unfold cfF
    split
    · exact bF _
    · omega
  · unfold cfF
    rw [if_neg (by omega)]
  · have w1 : DW S1 D := h.md m1 (by omega)
    have nz : ∃ x, dsM p n (trE n P) x ≠ 0 := by
      refine Classical.byContradiction (fun z => hv (vz.mpr (fun x => ?_)))
      rw [g1]
      exact Classical.byContradiction (fun y => z ⟨x, y⟩)
    refine loopU (P := fun k S' => At (d + 5) 199 c199_14 [(0, (2, D)), (1, (2, a)), (2, (0, n)), (3, (0, k))] [] S' Q) (I := fun k S' => 0 ≤ k ∧ Md (fun x => x = D + 2) S1 S' ∧ ∀ e, 0 ≤ e → e < k → zG S' (D + 2) e = dsM p n (trE n P) e) 200 ?_ ?_ 0 S1 (by omega) ⟨by omega, Md.refl _ _, fun e e0 e1 => by omega⟩
    · rintro k S2 hk ⟨k0, m2, v2⟩ hnx
      have w2 : DW S2 D := w1.md m2 (by omega)
      apply w_Model_becomesCurve_14
      rw [w2.x_equation.1, w2.x_disc.1, w32_id (x := 200 * n) (by omega) (by omega), w32_id (x := 200 * n + k) (by omega) (by omega), w2.x_equation.2.1, w2.x_disc.2.1, w2.x_equation.2.2, w2.x_disc.2.2, m2.G (a := D + 25) (by omega), b1.2.2.1 n k (by omega) (by omega) k0 hk, g1]
      refine ⟨fun hc => by omega, fun _ => ⟨w2.1, w2.1, ⟨rfl, by omega, by omega⟩, ⟨rfl, by omega, by omega⟩, ?_⟩⟩
      rintro _ rfl _ rfl
      rw [w32_id (by omega) (by omega)]
      refine hnx _ ⟨by omega, m2.tr (Md.zS _ _ _ _), fun e e0 e1 => ?_⟩
      by_cases q : e = k
      · rw [q, zG_zS_at]
      · rw [zG_zS_ne _ (Or.inr q)]
        exact v2 e e0 (by omega)
    · rintro S2 ⟨-, m2, v2⟩
      have w2 : DW S2 D := w1.md m2 (by omega)
      apply w_Model_becomesCurve_14
      refine ⟨fun _ => ?_, fun hc => absurd (Int.le_refl 200) hc⟩
      refine loopU (P := fun k S' => At (d + 5) 199 c199_47 [(0, (2, D)), (1, (2, a)), (2, (0, n)), (3, (0, k))] [] S' Q) (I := fun k S' => 0 ≤ k ∧ Md (fun x => x = D + 1) S2 S' ∧ ∀ e, 0 ≤ e → e < k → zG S' (D + 1) e = F e) 49 ?_ ?_ 0 S2 (by omega) ⟨by omega, Md.refl _ _, fun e e0 e1 => by omega⟩
      · rintro k S3 hk ⟨k0, m3, v3⟩ hnx
        have w3 : DW S3 D := w2.md m3 (by omega)
        apply w_Model_becomesCurve_47
        rw [w3.x_f.1, w3.x_f.2.1, w3.x_f.2.2, m3.G (a := a) (by omega), m2.G (a := a) (by omega), m1.G (a := a) (by omega), hF k k0 hk, m3.K a, m2.K a, m1.K a, m3.L a, m2.L a, m1.L a, la]
        refine ⟨fun hc => by omega, fun _ => ⟨w3.1, ⟨ka, by omega, by omega⟩, ⟨rfl, by omega, by omega⟩, ?_⟩⟩
        rintro _ rfl _ rfl
        rw [w32_id (by omega) (by omega)]
        refine hnx _ ⟨by omega, m3.tr (Md.zS _ _ _ _), fun e e0 e1 => ?_⟩
        by_cases q : e = k
        · rw [q, zG_zS_at]
        · rw [zG_zS_ne _ (Or.inr q)]
          exact v3 e e0 (by omega)
      · rintro S3 ⟨-, m3, v3⟩
        have w3 : DW S3 D := w2.md m3 (by omega)
        apply w_Model_becomesCurve_47
        refine ⟨fun _ => ⟨w3.1, ?_⟩, fun hc => absurd (Int.le_refl 49) hc⟩
        rintro _ rfl
        have w4 : DW (zS S3 D 1 n) D := w3.sc (by decide)
        rw [w4.x_f.1]
        refine ⟨w4.1, m_degreeOf w4.x_f.2.1 w4.x_f.2.2 ⟨_, rfl, w4.1, ?_⟩⟩
        rintro _ rfl
        have dg : dgr (zG (zS S3 D 1 n) (D + 1)) = dgr F := mxN_congr 49 (fun e e0 e1 => by
          rw [zG_zS_ne _ (Or.inl (by omega))]
          exact v3 e (by omega) (by omega))
        rw [dg]
        have w5 : DW (zS (zS S3 D 1 n) D 2 (dgr F)) D := w4.sc (by decide)
        refine ⟨w5.1, m_forgets w5 ⟨rfl, w5.1, ?_⟩⟩
        have m13 : Md (fun x => x = D ∨ x = D + 1 ∨ x = D + 2 ∨ x = D + 3 ∨ (D + 23 ≤ x ∧ x ≤ D + 29)) S S3 := ((m1.wide (fun x hx => by omega)).tr (m2.wide (fun x hx => by omega))).tr (m3.wide (fun x hx => by omega))
        have h3 : ∀ i, zG (zS (zS S3 D 1 n) D 2 (dgr F)) (D + 3) i = zG S (D + 3) i := fun i => by
          rw [zG_zS_ne _ (Or.inl (by omega)), zG_zS_ne _ (Or.inl (by omega)), m3.G (by omega), m2.G (by omega), m1.G (by omega)]
        have o3 : ∀ i, zG S3 D i = zG S D i := fun i => by rw [m3.G (by omega), m2.G (by omega), m1.G (by omega)]
        rw [show zG (zS (zS S3 D 1 n) D 2 (dgr F)) (D + 3) = zG S (D + 3) from funext h3]
        have e1 : zG (zS (zS (zR (zS (zS S3 D 1 n) D 2 (dgr F)) (D + 3) (fgH (zG S (D + 3)))) D 16 0) D 48 (-1)) D 1 = n := by
          rw [zG_zS_ne _ (Or.inr (by omega)), zG_zS_ne _ (Or.inr (by omega)), zG_zR_ne _ (by omega), zG_zS_ne _ (Or.inr (by omega)), zG_zS_at]
        rw [e1]
        refine H1 _ ⟨m13.tr ?_, (((w5.zR (by omega)).sc (by decide)).sc (by decide)), fun e e0 e1 => ?_, e1, ?_, ?_, zG_zS_at _ _ _ _, fun i i1 i2 i3 i4 => ?_, fun i => ?_, P, nw, dP, fun x x0 x1 => ?_, nz⟩
        · refine ((((Md.zS _ _ _ _).wide ?_).tr ((Md.zS _ _ _ _).wide ?_)).tr ((Md.zR _ _ _).wide ?_)).tr (((Md.zS _ _ _ _).wide ?_).tr ((Md.zS _ _ _ _).wide ?_)) <;> intro x hx <;> omega
        · rw [zG_zS_ne _ (Or.inl (by omega)), zG_zS_ne _ (Or.inl (by omega)), zG_zR_ne _ (by omega), zG_zS_ne _ (Or.inl (by omega)), zG_zS_ne _ (Or.inl (by omega))]
          exact v3 e e0 e1
        · rw [zG_zS_ne _ (Or.inr (by omega)), zG_zS_ne _ (Or.inr (by omega)), zG_zR_ne _ (by omega), zG_zS_at]
        · rw [zG_zS_ne _ (Or.inr (by omega)), zG_zS_at]
        · rw [zG_zS_ne _ (Or.inr i4), zG_zS_ne _ (Or.inr i3), zG_zR_ne _ (by omega), zG_zS_ne _ (Or.inr i2), zG_zS_ne _ (Or.inr i1)]
          exact o3 i
        · rw [zG_zS_ne _ (Or.inl (by omega)), zG_zS_ne _ (Or.inl (by omega)), zG_zR_at]
        · rw [zG_zS_ne _ (Or.inl (by omega)), zG_zS_ne _ (Or.inl (by omega)), zG_zR_ne _ (by omega), zG_zS_ne _ (Or.inl (by omega)), zG_zS_ne _ (Or.inl (by omega)), m3.G (by omega)]
          exact v2 x x0 x1
  · have hv : v = 0 := by omega
    refine H0 S1 P m1 (h.md m1 (by omega)) nw dP (fun x => ?_)
    rw [← g1]
    exact vz.mp hv x
