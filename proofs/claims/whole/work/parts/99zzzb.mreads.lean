/-! The model's reader: a whole text. -/
theorem m_rdFail {d : Nat} {D w : Int} {S : Hp} {Q : Vl → Hp → Prop} (h : DW S D) (h20 : zG S D 20 = w) (hw : 0 ≤ w ∧ w ≤ 1000) (H : Q (0, -100 - w) (zS S D 18 0)) : mL d D 0 S Q := by
  apply w_Model_reads_30
  refine ⟨fun _ => ?_, fun z => absurd rfl z⟩
  apply w_Model_reads_116
  refine ⟨h.1, ?_⟩
  rintro _ rfl
  refine ⟨fun z => absurd rfl z, fun _ => ⟨h.1, ?_⟩⟩
  rw [zG_zS_ne _ (Or.inr (by omega)), h20, w32_id (by omega) (by omega)]
  exact H
theorem m_rdEnd {d : Nat} {D p h g s : Int} {S : Hp} {A P U : Int → Int} {Q : Vl → Hp → Prop} (h2 : 2 ≤ p ∧ p ≤ 7) (w : DW S D) (hp : zG S D 0 = p) (h27 : zG S D 27 = 0) (h28 : zG S D 28 = h) (rA : RO S (D + 18) p h A) (hg : zG S (D + 17) 0 = g) (rP : 0 ≤ g → TO S (D + 15) 0 p h P) (hs : s = if zG S (D + 16) 0 = 0 then 1 else p - 1) (rU : TO S (D + 14) 0 p h U) (hb : hS h g P A ≤ 1000) (H : ∀ S', mrF D S S' → zG S' D 18 = 0 → RO S' (D + 18) p (hS h g P A) (fun x => (U x + s * pS p h g P A x) % p) → Q (0, if hS h g P A < 0 then 0 else -300 - hS h g P A) S') : At (d + 5) 187 c187_116 [(0, (2, D)), (1, (0, 1))] [] S Q := by
  apply w_Model_reads_116
  refine ⟨w.1, ?_⟩
  rintro _ rfl
  have w1 : DW (zS S D 18 0) D := w.sc (by decide)
  have o1 : ∀ j, j ≠ 18 → zG (zS S D 18 0) D j = zG S D j := fun j hj => zG_zS_ne _ (Or.inr hj)
  have m1 : Md (fun x => x = D) S (zS S D 18 0) := Md.zS _ _ _ _
  have v1 : zG (zS S D 18 0) D 18 = 0 := zG_zS_at _ _ _ _
  generalize zS S D 18 0 = S1 at w1 o1 m1 v1
  refine ⟨fun _ => ⟨w1.1, m_comesToTerm h2 w1 ((o1 0 (by omega)).trans hp) ((o1 28 (by omega)).trans h28) (by omega) ((o1 27 (by omega)).trans h27) ((m1.G (by omega) 0).trans hg) (rA.keep m1 (by omega)) (fun z => (rP z).keep m1 (by omega)) (fun S2 m2 w2 o2 q2 t2 u2 v2 => ⟨rfl, w2.1, ?_⟩)⟩, fun z => absurd (show ¬ (1 : Int) = 0 by decide) z⟩
  have q2 : zG S2 D 28 = hS h g P A := q2
  have t2 : TO S2 (D + 15) 0 p (hS h g P A) (pS p h g P A) := t2
  refine m_comesToSum (P := U) (l := 0) (s := s) h2 w2 ((o2 0 (by omega)).trans ((o1 0 (by omega)).trans hp)) (by omega) ((o2 27 (by omega)).trans ((o1 27 (by omega)).trans h27)) (by rw [m2.G (by omega), m1.G (by omega)]; exact hs) t2 (TO.up ((rU.keep m1 (by omega)).keep m2 (by omega)) hS_neg) (fun S3 m3 t3 u3 => ⟨rfl, ?_⟩)
  have w3 : DW S3 D := w2.md m3 (by omega)
  have f3 : mrF D S S3 := ⟨((m1.wide (fun x hx => by omega)).tr (m2.wide (fun x hx => by omega))).tr (m3.wide (fun x hx => by omega)), w3, fun j hj => by rw [m3.G (by omega), o2 j (by omega), o1 j (by omega)]⟩
  refine loopU (P := fun e S' => At (d + 5) 187 c187_143 [(0, (2, D)), (2, (0, e))] [] S' Q) (I := fun e S' => 0 ≤ e ∧ Md (fun x => x = D + 18) S3 S' ∧ ∀ x, 0 ≤ x → x < e → zG S' (D + 18) x = zG S3 (D + 14) x) 49 ?_ ?_ 0 S3 (by omega) ⟨by omega, Md.refl _ _, fun x a b => by omega⟩
  · rintro e S4 he ⟨e0, m4, v4⟩ hk
    have w4 : DW S4 D := w3.md m4 (by omega)
    apply w_Model_reads_143
    rw [w4.x_sums.1, w4.x_sums.2.1, w4.x_sums.2.2, w4.x_power.1, w4.x_power.2.1, w4.x_power.2.2, m4.G (a := D + 14) (by omega)]
    refine ⟨fun z => by omega, fun _ => ⟨w4.1, w4.1, ⟨rfl, by omega, by omega⟩, ⟨rfl, by omega, by omega⟩, ?_⟩⟩
    rintro _ rfl _ rfl
    rw [w32_id (by omega) (by omega)]
    refine hk _ ⟨by omega, m4.tr (Md.zS _ _ _ _), fun x x0 x1 => ?_⟩
    rw [zG_zS]
    by_cases q : x = e
    · rw [if_pos ⟨rfl, q⟩, q]
    · rw [if_neg (fun z => q z.2)]
      exact v4 x x0 (by omega)
  · rintro S4 ⟨-, m4, v4⟩
    have w4 : DW S4 D := w3.md m4 (by omega)
    have k28 : zG S4 D 28 = hS h g P A := (m4.G (by omega) 28).trans ((m3.G (by omega) 28).trans q2)
    have HH := H S4 (f3.tr ⟨m4.wide (fun x hx => by omega), w4, fun j _ => m4.G (by omega) j⟩) (by rw [m4.G (by omega), m3.G (by omega), o2 18 (by omega), v1]) (fun x x0 x1 => by
      have := t3 x x0 x1
      rw [show 49 * (0 : Int) + x = x by omega] at this
      rw [v4 x x0 x1]
      exact this)
    apply w_Model_reads_143
    rw [k28]
    refine ⟨fun _ => ⟨w4.1, fun _ => w4.1, ?_⟩, fun z => absurd (Int.le_refl 49) z⟩
    rintro _ rfl
    by_cases q : hS h g P A < 0
    · rw [if_pos q] at HH ⊢
      exact HH
    · rw [if_neg q] at HH ⊢
      rw [w32_id (by omega) (by omega)]
      exact HH
theorem m_reads {d : Nat} {D n p : Int} {T : Int → Int} {S : Hp} {Q : Vl → Hp → Prop} (h2 : 2 ≤ p ∧ p ≤ 7) (w : DW S D) (hp : zG S D 0 = p) (h18 : zG S D 18 = n) (hn : 0 ≤ n ∧ n ≤ 100) (hT : ∀ x, 0 ≤ x → x < n → zG S (D + 13) x = T x) (hb : (rdA T n p).2.2.1 ≤ 1000) (H : ∀ S', mrF D S S' → zG S' D 18 = 0 → (rdR0 T n p = 0 → ∀ x, 0 ≤ x → x < 49 → zG S' (D + 18) x = (rdA T n p).2.2.2 x ∧ 0 ≤ zG S' (D + 18) x ∧ zG S' (D + 18) x < p) → Q (0, rdR0 T n p) S') : Ev (d + 5) 187 [(2, D)] S Q := by
  unfold rdR0 at H
  apply w_Model_reads_0
  refine ⟨w.1, ?_⟩
  rintro _ rfl
  refine ⟨w.1, ?_⟩
  rintro _ rfl
  refine ⟨w.1, ?_⟩
  rintro _ rfl
  refine ⟨w.1, ?_⟩
  rintro _ rfl
  have w4 : DW (zS (zS (zS (zS S D 19 0) D 27 0) D 28 (-1)) D 33 2) D := (((w.sc (by decide)).sc (by decide)).sc (by decide)).sc (by decide)
  have m4 : Md (fun x => x = D) S (zS (zS (zS (zS S D 19 0) D 27 0) D 28 (-1)) D 33 2) := (((Md.zS _ _ _ _).tr (Md.zS _ _ _ _)).tr (Md.zS _ _ _ _)).tr (Md.zS _ _ _ _)
  have o4 : ∀ j, j ≠ 19 → j ≠ 27 → j ≠ 28 → j ≠ 33 → zG (zS (zS (zS (zS S D 19 0) D 27 0) D 28 (-1)) D 33 2) D j = zG S D j := fun j a b c e => by
    rw [zG_zS_ne _ (Or.inr e), zG_zS_ne _ (Or.inr c), zG_zS_ne _ (Or.inr b), zG_zS_ne _ (Or.inr a)]
  have e19 : zG (zS (zS (zS (zS S D 19 0) D 27 0) D 28 (-1)) D 33 2) D 19 = 0 := by
    rw [zG_zS_ne _ (Or.inr (by omega)), zG_zS_ne _ (Or.inr (by omega)), zG_zS_ne _ (Or.inr (by omega)), zG_zS_at]
  have e27 : zG (zS (zS (zS (zS S D 19 0) D 27 0) D 28 (-1)) D 33 2) D 27 = 0 := by
    rw [zG_zS_ne _ (Or.inr (by omega)), zG_zS_ne _ (Or.inr (by omega)), zG_zS_at]
  have e28 : zG (zS (zS (zS (zS S D 19 0) D 27 0) D 28 (-1)) D 33 2) D 28 = -1 := by
    rw [zG_zS_ne _ (Or.inr (by omega)), zG_zS_at]
  have e33 : zG (zS (zS (zS (zS S D 19 0) D 27 0) D 28 (-1)) D 33 2) D 33 = 2 := zG_zS_at _ _ _ _
  generalize zS (zS (zS (zS S D 19 0) D 27 0) D 28 (-1)) D 33 2 = S4 at w4 m4 o4 e19 e27 e28 e33
  refine ⟨w4.1, m_begins w4 e27 (by omega) (fun S5 m5 u5 s5 g5 => ⟨rfl, by rw [m5.K]; exact w4.1, ?_⟩)⟩
  have w5 : DW S5 D := w4.md m5 (by omega)
  have o5 : ∀ j, zG S5 D j = zG S4 D j := fun j => m5.G (by omega) j
  refine m_next hn w5 ((o5 18).trans ((o4 18 (by omega) (by omega) (by omega) (by omega)).trans h18)) ((o5 19).trans e19) (by omega) (T := T) (fun x x0 x1 => by rw [m5.G (by omega), m4.G (by omega)]; exact hT x x0 x1) (fun S6 r6 a19 a20 a21 a22 => ⟨rfl, ?_⟩)
  have k6 : ∀ j, j ≠ 19 → j ≠ 20 → j ≠ 21 → j ≠ 22 → zG S6 D j = zG S4 D j := fun j a b c e => (r6.2.2 j a b c e).trans (o5 j)
  have r : MRS S6 D T n p 0 0 (-1) := ⟨r6.2.1, by rw [k6 18 (by omega) (by omega) (by omega) (by omega), o4 18 (by omega) (by omega) (by omega) (by omega), h18], hn, by omega, fun x x0 x1 => by rw [r6.1.G (by omega), m5.G (by omega), m4.G (by omega)]; exact hT x x0 x1, by rw [k6 0 (by omega) (by omega) (by omega) (by omega), o4 0 (by omega) (by omega) (by omega) (by omega), hp], a19, a20, a21, a22, (k6 27 (by omega) (by omega) (by omega) (by omega)).trans e27, (k6 28 (by omega) (by omega) (by omega) (by omega)).trans e28⟩
  have f6 : mrF D S S6 := ⟨((m4.wide (fun x hx => by omega)).tr (m5.wide (fun x hx => by omega))).tr (r6.1.wide (fun x hx => by omega)), r6.2.1, fun j hj => by rw [k6 j (by omega) (by omega) (by omega) (by omega), o4 j (by omega) (by omega) (by omega) (by omega)]⟩
  have hbr : ∀ t : Int × Int × Int × (Int → Int), (t.1 = 0 ∨ ¬ tkK T n t.2.1 = 0) → (0 ≤ tkW T n t.2.1 ∧ tkW T n t.2.1 ≤ 1000) → rdA T n p = t → FL d D (tkW T n t.2.1) S6 Q := fun t z b e S' f e20 => by
    refine m_rdFail f.2.1 e20 b ?_
    have f7 : mrF D S (zS S' D 18 0) := (f6.tr f).tr ⟨(Md.zS _ _ _ _).wide (fun x hx => Or.inl hx), f.2.1.sc (by decide), fun j hj => zG_zS_ne _ (Or.inr (by omega))⟩
    have := H _ f7 (zG_zS_at _ _ _ _)
    rw [e, if_pos z] at this
    exact this (fun y => by omega)
  have hbd : ∀ i, 0 ≤ i ∧ i ≤ n → 0 ≤ tkW T n i ∧ tkW T n i ≤ 1000 := fun i hi => by
    have := tk_bd (T := T) hi
    omega
  show mL d D 1 S6 Q
  refine m_simSm (h := -1) h2 (by omega) (m_simBr h2 4 0 (by omega) (by omega)) r ((k6 33 (by omega) (by omega) (by omega) (by omega)).trans e33) (by rw [r6.1.G (by omega), g5, if_pos rfl]) (by rw [r6.1.G (by omega), s5, if_pos rfl]) (fun x x0 x1 => by rw [r6.1.G (by omega), u5, if_pos ⟨x0, x1⟩]) (fun z => ?_) ?_
  · exact hbr _ (Or.inl z) (hbd _ (rdSm_bd h2 hn 4 (by omega) (by omega)).1) rfl
  · have eA : rdA T n p = rdSm T n p (brk T n p 4) 0 (-1) := rfl
    rw [← eA]
    intro z i7 S7 h' g' s' A' P' U' mo f7 l7 b33 b94 b42 b43 r7 rA7 hg7 rP7 es7 rU7 eh7 ep7
    by_cases q : tkK T n (rdA T n p).2.1 = 0
    · apply w_Model_reads_30
      rw [r7.2.2.2.2.2.2.2.2.1, r7.2.2.2.2.2.2.2.2.2.2.1, kdM_0, b33]
      refine ⟨fun y => absurd y (by decide), fun _ => ⟨r7.1.1, fun _ => ⟨r7.1.1, fun _ => r7.1.1⟩, fun y => by omega, fun _ => ?_⟩⟩
      refine m_rdEnd h2 r7.1 r7.2.2.2.2.2.1 r7.2.2.2.2.2.2.2.2.2.2.1 r7.2.2.2.2.2.2.2.2.2.2.2 rA7 hg7 rP7 es7 rU7 (by rw [← eh7]; exact hb) (fun S8 f8 a18 ro8 => ?_)
      have HH := H S8 ((f6.tr f7).tr f8) a18
      rw [← eh7, ← ep7] at ro8
      rw [← eh7]
      rw [if_neg (fun y => by rcases y with y | y; exact z y; exact y q)] at HH
      refine HH (fun y x x0 x1 => ?_)
      have hh : (rdA T n p).2.2.1 < 0 := by
        by_cases q2 : (rdA T n p).2.2.1 < 0
        · exact q2
        · rw [if_neg q2] at y
          omega
      exact ⟨(ro8 x x0 x1).2 hh, (ro8 x x0 x1).1⟩
    · exact m_simNo h2 (by omega) r7 b33 b94 b42 b43 rA7 hg7 rP7 es7 rU7 (fun y => by omega) (fun y => q y.1) ((hbr _ (Or.inr q) (hbd _ r7.2.2.2.1) rfl).to f7)
