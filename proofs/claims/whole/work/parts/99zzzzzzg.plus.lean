/-! Elements worked out: plus. -/
theorem sh_all {S : Hp} {D p n : Int} (sh : SHE S D p n) : ∃ W : Int → Int → Int → Int, ∀ s, 0 ≤ s → s < 6 → zG S (D + 3) s = 1 → ELE S D p n s (W s) := by
  have e : ∀ s, ∃ W, 0 ≤ s → s < 6 → zG S (D + 3) s = 1 → ELE S D p n s W := fun s => by
    by_cases q : 0 ≤ s ∧ s < 6 ∧ zG S (D + 3) s = 1
    · obtain ⟨-, W, w⟩ := (sh s q.1 q.2.1).2.2.2.2.2.2.2 q.2.2
      exact ⟨W, fun _ _ _ => w⟩
    · exact ⟨fun _ _ => 0, fun a b c => absurd ⟨a, b, c⟩ q⟩
  exact ⟨fun s => Classical.choose (e s), fun s => Classical.choose_spec (e s)⟩
theorem sh_h3 {S : Hp} {D p n : Int} (sh : SHE S D p n) {s : Int} (s0 : 0 ≤ s) (s1 : s < 6) : zG S (D + 3) s = 0 ∨ zG S (D + 3) s = 1 ∨ zG S (D + 3) s = 2 := (sh s s0 s1).2.1
theorem s_pairRefusal {d : Nat} {S : Hp} {D v u p n g a b t : Int} {F Δ : Int → Int} {Q : Vl → Hp → Prop} (cl : CLS S v u p n g F Δ) (sh : SHE S D p n) (H : Q (0, rfT n a b t (zG S (D + 3) a) (zG S (D + 3) b) (zG S (D + 5) a) (zG S (D + 5) b) (zG S (D + 6) a) (zG S (D + 6) b)) S) : Ev (d + 1) 148 [(2, 1), (0, a), (0, b), (0, t)] S Q := by
  apply w_Crc_pairRefusal_0
  unfold rfT at H
  rw [cl.1.a1, cl.c1]
  refine ⟨cl.1.1, cl.vw.1, fun n0 => s_isShelf ⟨_, rfl, fun z => ?_, fun z => s_isShelf ⟨_, rfl, fun z2 => ?_, fun z2 => s_isShelf ⟨_, rfl, fun z3 => ?_, fun z3 => ?_⟩⟩⟩, fun n0 => ?_⟩
  · rw [if_neg n0, if_neg (fun w => i0 z w.1)] at H
    exact H
  · rw [if_neg n0, if_neg (fun w => i0 z2 w.2.1)] at H
    exact H
  · have ha : 0 ≤ a ∧ a < 6 := i1 z
    have hb : 0 ≤ b ∧ b < 6 := i1 z2
    have ht : 0 ≤ t ∧ t < 6 := i1 z3
    have aw := cl.sw ha.1 ha.2
    have bw := cl.sw hb.1 hb.2
    rw [if_neg n0, if_pos ⟨ha, hb, ht⟩] at H
    rw [cl.1.a6, cl.1.p6 a ha.1 ha.2, cl.1.p6 b hb.1 hb.2]
    refine ⟨cl.1.1, ⟨cl.1.k68.1, ha.1, by rw [cl.1.k68.2]; exact ha.2⟩, ?_⟩
    rintro _ rfl
    refine ⟨cl.1.1, ⟨cl.1.k68.1, hb.1, by rw [cl.1.k68.2]; exact hb.2⟩, ?_⟩
    rintro _ rfl
    rw [(sh a ha.1 ha.2).1, (sh b hb.1 hb.2).1, aw.2.1, bw.2.1]
    refine ⟨aw.1, fun _ => bw.1, fun q => ?_, fun q => ⟨aw.1, fun _ => bw.1, fun q2 => ?_, fun q2 => ⟨aw.1, aw.2.2.1.1, fun _ => ⟨bw.1, bw.2.2.1.1, fun _ => ⟨aw.1, aw.2.2.1.1, bw.1, bw.2.2.1.1⟩⟩, ?_⟩⟩⟩
    · rw [if_pos (by omega)] at H
      exact H
    · rw [if_neg (by omega), if_pos (by omega)] at H
      exact H
    · rintro _ rfl
      have a3 := sh_h3 sh ha.1 ha.2
      have b3 := sh_h3 sh hb.1 hb.2
      obtain ⟨-, A, la⟩ := (sh a ha.1 ha.2).2.2.2.2.2.2.2 (by omega)
      obtain ⟨-, B, lb⟩ := (sh b hb.1 hb.2).2.2.2.2.2.2.2 (by omega)
      rw [if_neg (by omega), if_neg (by omega)] at H
      rw [la.1.2.2.1, la.1.2.2.2.1, lb.1.2.2.1, lb.1.2.2.2.1]
      have e : (if (zG S (D + 5) a ≤ 0 ∨ (zG S (D + 5) b ≤ 0 ∨ zG S (D + 6) a = zG S (D + 6) b)) then (0 : Int) else -13) = if 0 < zG S (D + 5) a ∧ 0 < zG S (D + 5) b ∧ zG S (D + 6) a ≠ zG S (D + 6) b then -13 else 0 := by
        by_cases q : 0 < zG S (D + 5) a ∧ 0 < zG S (D + 5) b ∧ zG S (D + 6) a ≠ zG S (D + 6) b
        · rw [if_pos q, if_neg (by omega)]
        · rw [if_neg q, if_pos (by omega)]
      rw [e]
      exact H
  · rw [if_neg n0, if_neg (fun w => i2 z3 w.2.2)] at H
    exact H
  · rw [if_pos (Classical.not_not.mp n0)] at H
    exact H
theorem tmR_b {p c : Int} (hp : 0 < p) {F : Int → Int → Int} (h : ∀ j i, 0 ≤ F j i ∧ F j i < p) : ∀ (k : Nat) (j i : Int), 0 ≤ tmR p c k F j i ∧ tmR p c k F j i < p
  | 0, j, i => h j i
  | k + 1, j, i => ⟨em_ge (by omega), em_lt (by omega)⟩
/-- a line of a quotient was written anew -/
theorem QN.line {S S' : Hp} {a r p m c i : Int} {F G : Int → Int → Int} {P : Int → Int} (h : QN S a r p m c F) (h0 : 0 ≤ i) (h1 : i < 4) (hm : Md (ML (a + 1 + 1 + 2 * i)) S S') (hl : LN S' (a + 1 + 1 + 2 * i) r p P) (e : ∀ j, 0 ≤ j → j < 4 → ∀ x, (if j = i then P else F j) x = G j x) : QN S' a r p m c G := by
  have hne : ¬ ML (a + 1 + 1 + 2 * i) a := by
    unfold ML
    omega
  exact ⟨by rw [hm.K]; exact h.1, by rw [hm.G hne]; exact h.2.1, by rw [hm.G hne]; exact h.2.2.1, by rw [hm.G hne]; exact h.2.2.2.1, (h.2.2.2.2.set hm h0 h1 hl).congr e⟩
theorem r_plus {d : Nat} {S : Hp} {D a b t : Int} (hD : 485 ≤ D) (R : Rel S D) : TW (d + 20) 121 257 [(0, a), (0, b), (0, t)] S D := by
  obtain ⟨v, u, p, n, g, F, Δ, kn, cl, md, re⟩ := R
  have id0 := rel_id kn cl md re
  have sh := re.2.1
  have h2 := kn.1.two
  have n4 := kn.n4
  obtain ⟨W, hW⟩ := sh_all sh
  have hE : ∀ s, 0 ≤ s → s < 6 → zG S (D + 3) s ≠ 0 → zG S (D + 3) s ≠ 2 → n ≠ 0 → elW S D s n p (W s) ∧ (0 ≤ zG S (D + 5) s ∧ zG S (D + 5) s ≤ 20) ∧ 0 ≤ zG S (D + 6) s ∧ zG S (D + 6) s < p := fun s s0 s1 e0 e2 _ => by
    have := sh_h3 sh s0 s1
    have w := hW s s0 s1 (by omega)
    exact ⟨w.2.1, w.2.2.1, w.2.2.2.1⟩
  unfold TW
  apply w_Crc_plus_0
  refine ⟨cl.1.1, s_pairRefusal cl sh ⟨_, rfl, fun z => ?_, fun z => ?_⟩⟩
  · obtain ⟨n0, ⟨ha, hb, ht⟩, z0, z2⟩ := rfT_ok z
    have a3 := sh_h3 sh ha.1 ha.2
    have b3 := sh_h3 sh hb.1 hb.2
    have la := hW a ha.1 ha.2 (by omega)
    have lb := hW b hb.1 hb.2 (by omega)
    have aw := cl.sw ha.1 ha.2
    have bw := cl.sw hb.1 hb.2
    have q7 : QW S 70 128 := cl.2.1.2.2.2.2.1
    have q8 : QW S 80 128 := cl.2.1.2.2.2.2.2.1
    have same : 0 < zG S (D + 5) a → 0 < zG S (D + 5) b → zG S (D + 6) a = zG S (D + 6) b := fun x y => by
      unfold rfT at z
      rw [if_neg n0, if_pos ⟨ha, hb, ht⟩, if_neg z0, if_neg z2] at z
      by_cases e : zG S (D + 6) a = zG S (D + 6) b
      · exact e
      · rw [if_pos ⟨x, y, e⟩] at z
        omega
    have ea := la.2.2
    have eb := lb.2.2
    rw [cl.1.a6, cl.1.a9, cl.1.p6 a ha.1 ha.2, aw.2.1]
    refine ⟨cl.1.1, cl.1.1, ⟨cl.1.k68.1, ha.1, by rw [cl.1.k68.2]; exact ha.2⟩, aw.1, q7.1, s_qtake q7 la.1 (by omega) (fun j j0 j1 i hi => la.2.1.2.2.1 j i (by omega)) (fun S1 m1 qa => ⟨rfl, ?_⟩)⟩
    unfold MQ' at m1
    have cp1 : CP S1 v u := cl.1.keep m1 (by omega) (by omega) (by omega) (by omega)
    have bw1 : SW S1 (343 + 12 * b) := bw.keep m1 (fun x x0 x1 => by omega)
    rw [cp1.a6, cp1.a10, cp1.p6 b hb.1 hb.2, bw1.2.1]
    refine ⟨cp1.1, cp1.1, ⟨cp1.k68.1, hb.1, by rw [cp1.k68.2]; exact hb.2⟩, bw1.1, by rw [m1.K]; exact q8.1, s_qtake (q8.keep m1 (fun x x0 x1 => by omega)) (lb.1.keep m1 (fun x x0 x1 => by omega)) (by omega) (fun j j0 j1 i hi => lb.2.1.2.2.1 j i (by omega)) (fun S2 m2 qb => ⟨rfl, ?_⟩)⟩
    unfold MQ' at m2
    have qa2 := qa.keep m2 (fun x x0 x1 => by omega)
    have cp2 : CP S2 v u := cp1.keep m2 (by omega) (by omega) (by omega) (by omega)
    rw [cp2.a9, cp2.a10, qa2.2.2.1, qa2.2.2.2.1, qb.2.2.1, qb.2.2.2.1]
    refine ⟨cp2.1, qa2.1, fun _ => ⟨cp2.1, qb.1⟩, fun _ => ⟨cp2.1, qa2.1⟩, ?_⟩
    intro x5 h5
    have hx5 : 0 ≤ x5 ∧ x5 < p := by
      by_cases q : zG S (D + 5) a ≤ 0
      · rw [if_pos q] at h5
        omega
      · rw [if_neg q] at h5
        omega
    have x5a : zG S (D + 5) b ≤ zG S (D + 5) a → x5 = zG S (D + 6) a := fun w => by
      by_cases q : zG S (D + 5) a ≤ 0
      · rw [if_pos q] at h5
        have := ea.2.2.1 (by omega)
        have := eb.2.2.1 (by omega)
        omega
      · rw [if_neg q] at h5
        exact h5
    have x5b : zG S (D + 5) a ≤ zG S (D + 5) b → x5 = zG S (D + 6) b := fun w => by
      by_cases q : zG S (D + 5) a ≤ 0
      · rw [if_pos q] at h5
        exact h5
      · rw [if_neg q] at h5
        rw [h5]
        exact same (by omega) (by omega)
    have mx : max (zG S (D + 5) a) (zG S (D + 5) b) = zG S (D + 5) a ∨ max (zG S (D + 5) a) (zG S (D + 5) b) = zG S (D + 5) b := by omega
    generalize hM : max (zG S (D + 5) a) (zG S (D + 5) b) = M at *
    have M0 : zG S (D + 5) a ≤ M ∧ zG S (D + 5) b ≤ M ∧ 0 ≤ M ∧ M ≤ 20 := by omega
    have cv2 : zK S2 v = 2 ∧ zG S2 v 0 = p := by
      have vu := cl.1.2.2.2.2.1
      rw [m2.K, m1.K, m2.G (by omega), m1.G (by omega)]
      exact ⟨cl.vw.1, cl.c0⟩
    refine ⟨cp2.1, qa2.1, cp2.1, qb.1, s_max ?_⟩
    rw [hM]
    refine ⟨_, rfl, cp2.1, cp2.1, ?_⟩
    rw [cp2.a1, cv2.2, cp2.a9]
    refine ⟨cv2.1, qa2.1, s_widen (D := 30) qa2 hx5 ⟨by omega, by omega⟩ ⟨by omega, by omega, by omega⟩ (fun j j0 j1 i hi => la.2.1.2.2.1 j i (by omega)) (by omega) (fun S3 m3 qa3 => ⟨rfl, ?_⟩)⟩
    unfold MQ' at m3
    have qb3 := qb.keep m3 (fun x x0 x1 => by omega)
    have cp3 : CP S3 v u := cp2.keep m3 (by omega) (by omega) (by omega) (by omega)
    have cv3 : zK S3 v = 2 ∧ zG S3 v 0 = p := by
      have vu := cl.1.2.2.2.2.1
      rw [m3.K, m3.G (by omega)]
      exact cv2
    rw [cp3.a1, cv3.2, cp3.a10]
    refine ⟨cp3.1, cp3.1, cv3.1, qb3.1, s_widen (D := 30) qb3 hx5 ⟨by omega, by omega⟩ ⟨by omega, by omega, by omega⟩ (fun j j0 j1 i hi => lb.2.1.2.2.1 j i (by omega)) (by omega) (fun S4 m4 qb4 => ⟨rfl, ?_⟩)⟩
    unfold MQ' at m4
    have qa4 := qa3.keep m4 (fun x x0 x1 => by omega)
    have m04 : Md (fun x => 70 ≤ x ∧ x ≤ 89) S S4 := (m1.wide (fun x hx => by omega)).tr ((m2.wide (fun x hx => by omega)).tr ((m3.wide (fun x hx => by omega)).tr (m4.wide (fun x hx => by omega))))
    have bA : ∀ j i, 0 ≤ tmR p x5 (M - zG S (D + 5) a).toNat (W a) j i ∧ tmR p x5 (M - zG S (D + 5) a).toNat (W a) j i < p := fun j i => tmR_b (by omega) la.2.1.2.1 _ j i
    have bB : ∀ j i, 0 ≤ tmR p x5 (M - zG S (D + 5) b).toNat (W b) j i ∧ tmR p x5 (M - zG S (D + 5) b).toNat (W b) j i < p := fun j i => tmR_b (by omega) lb.2.1.2.1 _ j i
    have nA : ∀ j i, i < 0 → tmR p x5 (M - zG S (D + 5) a).toNat (W a) j i = 0 := fun j i hi => tmR_neg (fun i hi => la.2.1.2.2.1 j i (by omega)) _ i hi
    have nB : ∀ j i, i < 0 → tmR p x5 (M - zG S (D + 5) b).toNat (W b) j i = 0 := fun j i hi => tmR_neg (fun i hi => lb.2.1.2.2.1 j i (by omega)) _ i hi
    have tA : ∀ j i, 50 < i → tmR p x5 (M - zG S (D + 5) a).toNat (W a) j i = 0 := fun j i hi => tmR_top (D := 30) (fun i hi => la.2.1.2.2.1 j i (by omega)) _ i (by omega)
    have tB : ∀ j i, 50 < i → tmR p x5 (M - zG S (D + 5) b).toNat (W b) j i = 0 := fun j i hi => tmR_top (D := 30) (fun i hi => lb.2.1.2.2.1 j i (by omega)) _ i (by omega)
    have zA : ∀ j i, (j < 0 ∨ n ≤ j) → tmR p x5 (M - zG S (D + 5) a).toNat (W a) j i = 0 := fun j i hj => tmR_zero (fun i => la.2.1.2.2.2 j i hj) _ i
    have zB : ∀ j i, (j < 0 ∨ n ≤ j) → tmR p x5 (M - zG S (D + 5) b).toNat (W b) j i = 0 := fun j i hj => tmR_zero (fun i => lb.2.1.2.2.2 j i hj) _ i
    have tie : ∀ l w, (l = a ∧ w = b ∨ l = b ∧ w = a) → zG S (D + 5) l ≤ zG S (D + 5) w → M = zG S (D + 5) w ∧ x5 = zG S (D + 6) w ∧ (fun j i => (tmR p x5 (M - zG S (D + 5) a).toNat (W a) j i + tmR p x5 (M - zG S (D + 5) b).toNat (W b) j i) % p) = plF p (zG S (D + 6) w) (zG S (D + 5) w - zG S (D + 5) l).toNat (W l) (W w) := fun l w lw le => by
      rcases lw with ⟨r1, r2⟩ | ⟨r1, r2⟩
      · subst r1 r2
        have e1 : M = zG S (D + 5) w := by omega
        have e2 := x5b le
        refine ⟨e1, e2, funext fun j => funext fun i => ?_⟩
        unfold plF
        rw [e1, e2, show (zG S (D + 5) w - zG S (D + 5) w).toNat = 0 by omega]
        rfl
      · subst r1 r2
        have e1 : M = zG S (D + 5) w := by omega
        have e2 := x5a le
        refine ⟨e1, e2, funext fun j => funext fun i => ?_⟩
        unfold plF
        rw [e1, e2, show (zG S (D + 5) w - zG S (D + 5) w).toNat = 0 by omega, Int.add_comm]
        rfl
    generalize tmR p x5 (M - zG S (D + 5) a).toNat (W a) = A at *
    generalize tmR p x5 (M - zG S (D + 5) b).toNat (W b) = B at *
    refine loopU (P := fun i S' => At (d + 19 + 1) 121 c121_136 [(0, (2, 1)), (3, (0, t)), (7, (0, i))] [] S' (fun r S1 => ∃ x, r = (0, x) ∧ MID S S1 D ∧ Ev (d + 20) 257 [(2, D), (0, a), (0, b), (0, t)] S1 (fun r' S2 => r' = (0, x) ∧ MID S1 S2 D ∧ Rel S2 D))) (I := fun i S' => 0 ≤ i ∧ Md (fun x => 70 ≤ x ∧ x ≤ 89) S S' ∧ QN S' 70 128 p M x5 (fun j x => if j < i then (A j x + B j x) % p else A j x) ∧ QN S' 80 128 p M x5 B) 4 ?_ ?_ 0 S4 (by omega) ⟨by omega, m04, qa4.congr (fun j j0 j1 x => by rw [if_neg (by omega)]), qb4⟩
    · rintro i S5 hi ⟨h0, m5, qx, qy⟩ next
      have vu := cl.1.2.2.2.2.1
      have cp5 : CP S5 v u := cl.1.keep m5 (by omega) (by omega) (by omega) (by omega)
      have cv5 : zK S5 v = 2 ∧ zG S5 v 0 = p := by
        rw [m5.K, m5.G (by omega)]
        exact ⟨cl.vw.1, cl.c0⟩
      have lx := qx.2.2.2.2
      have ly := qy.2.2.2.2
      have nx := lx.at h0 hi
      have ny := ly.at h0 hi
      obtain ⟨tx, ix, -, -⟩ := nx
      obtain ⟨ty, iy, -, -⟩ := ny
      apply w_Crc_plus_136
      rw [cp5.a9, cp5.a10, qx.2.1, qy.2.1, lx.ptr h0 hi, ly.ptr h0 hi]
      have iyt := iy.2.2.2.1
      refine ⟨fun w => by omega, fun _ => ⟨cp5.1, qx.1, ⟨lx.1, h0, by rw [lx.2.1]; exact hi⟩, cp5.1, qy.1, ⟨ly.1, h0, by rw [ly.2.1]; exact hi⟩, ix.1.1, s_add ix iy (by omega) (fun x => by have := bB i x; omega) (fun x => ?_) (by omega) (by omega) (fun S6 m6 j6 => ⟨rfl, ?_⟩)⟩⟩
      · rw [if_neg (by omega)]
        have := bA i x
        omega
      · have hne : ¬ ML (70 + 1 + 1 + 2 * i) 70 := by
          unfold ML
          omega
        have m6' : Md (fun x => 70 ≤ x ∧ x ≤ 89) S5 S6 := m6.wide (fun x hx => by unfold ML at hx; omega)
        have cp6 : CP S6 v u := cp5.keep m6' (by omega) (by omega) (by omega) (by omega)
        have cv6 : zK S6 v = 2 ∧ zG S6 v 0 = p := by
          rw [m6'.K, m6'.G (by omega)]
          exact cv5
        have g0 : zG S6 70 0 = 70 + 1 := by
          rw [m6.G hne]
          exact qx.2.1
        have gp : zG S6 (70 + 1) i = 70 + 1 + 1 + 2 * i := by
          rw [m6.G (by unfold ML; omega)]
          exact lx.ptr h0 hi
        rw [cp6.a9, g0, gp, cp6.a1, cv6.2]
        refine ⟨cp6.1, by rw [m6.K]; exact qx.1, ⟨by rw [m6.K]; exact lx.1, h0, by rw [m6.L, lx.2.1]; exact hi⟩, cp6.1, cv6.1, by rw [m6.K]; exact ix.1.1, n_settle j6 ⟨by omega, by omega⟩ (fun S7 m7 l7 => ⟨rfl, ?_⟩)⟩
        rintro _ rfl
        rw [w32_id (by omega) (by omega)]
        refine next S7 ⟨by omega, m5.tr (m6'.tr (m7.wide (fun x hx => by unfold ML at hx; omega))), qx.line h0 hi (m6.tr m7) l7 (fun j j0 j1 x => ?_), (qy.keep m6 (fun x x0 x1 => by unfold ML; omega)).keep m7 (fun x x0 x1 => by unfold ML; omega)⟩
        by_cases e : j = i
        · subst e
          rw [if_pos rfl, if_pos (show j < j + 1 by omega)]
          (try dsimp only)
          by_cases x0 : x < 0
          · rw [if_pos x0, nA j x x0, nB j x x0]
            simp
          · rw [if_neg x0, if_neg (Int.lt_irrefl j), Int.one_mul, Int.sub_zero]
        · rw [if_neg e]
          by_cases q : j < i
          · rw [if_pos q, if_pos (by omega)]
          · rw [if_neg q, if_neg (by omega)]
    · rintro S5 ⟨-, m5, qx, qy⟩
      have qx' : QN S5 70 128 p M x5 (fun j x => (A j x + B j x) % p) := qx.congr (fun j j0 j1 x => if_pos j1)
      obtain ⟨cl5, md5, re5, mi5⟩ := st_q hD kn cl md re (m5.wide (fun x hx => by omega)) qx.w qy.w (cl.mw.keep m5 (fun x x0 x1 => by omega))
      apply w_Crc_plus_136
      refine ⟨fun _ => ⟨cl5.1.1, s_storeT hD kn cl5 md5 re5 ht n0 qx' hx5 (by omega) (fun j j0 j1 i hi => ?_) (fun j i => ⟨em_ge (by omega), em_lt (by omega)⟩) (fun j i hi => ?_) (fun j i hj => ?_) (fun x S6 m6 mi6 st => ⟨_, rfl, _, rfl, mid_tr mi5 mi6, ?_⟩)⟩, fun w => absurd (Int.le_refl _) w⟩
      · rw [tA j i (by omega), tB j i (by omega)]
        simp
      · rw [nA j i hi, nB j i hi]
        simp
      · rw [zA j i hj, zB j i hj]
        simp
      · have o6 : ∀ x i, 485 ≤ x → zG S6 x i = zG S x i := fun x i hx => (m6.G (by omega) i).trans (m5.G (by omega) i)
        have g3 : zG S6 (D + 3) = zG S (D + 3) := funext fun i => o6 _ _ (by omega)
        have g5 : zG S6 (D + 5) = zG S (D + 5) := funext fun i => o6 _ _ (by omega)
        have g6 : zG S6 (D + 6) = zG S (D + 6) := funext fun i => o6 _ _ (by omega)
        refine m_plus (W := W) (md5.1.md m6 (by omega)) ((o6 _ _ (by omega)).trans md.2.1) h2 ((o6 _ _ (by omega)).trans md.2.2.1) kn.2.1 (fun s s0 s1 e0 e2 e => ?_) (fun w => ?_) (fun _ l w lw le => ?_)
        · rw [g3] at e0 e2
          rw [g5, g6]
          obtain ⟨f1, f2, f3⟩ := hE s s0 s1 e0 e2 e
          exact ⟨(f1.keep m5 (by omega)).keep m6 (by omega), f2, f3⟩
        · rw [g3, g5, g6] at w
          exact absurd z w
        · rw [g5] at le
          rw [g5, g6]
          obtain ⟨t1, t2, t3⟩ := tie l w lw le
          rw [← t3, ← t1, ← t2]
          exact st
  · exact ⟨_, rfl, id0.1, m_plus md.1 md.2.1 h2 md.2.2.1 kn.2.1 hE (fun _ => ⟨rfl, id0⟩) (fun w => absurd w z)⟩
