/-! The model: whole, equation; rows of numbers. -/
theorem i0 {c : Prop} [Decidable c] (h : (if c then (1 : Int) else 0) = 0) : ¬ c := fun z => by
  rw [if_pos z] at h
  omega
theorem i1 {c : Prop} [Decidable c] (h : ¬ (if c then (1 : Int) else 0) = 0) : c := Decidable.byContradiction (fun z => h (if_neg z))
theorem i2 {c : Prop} [Decidable c] (h : ¬ ¬ (if c then (1 : Int) else 0) = 0) : ¬ c := i0 (Decidable.not_not.mp h)
set_option maxHeartbeats 1000000 in
theorem m_whole {d : Nat} {D p n s : Int} {S : Hp} {W C : Int → Int → Int} {Q : Vl → Hp → Prop} (h : DW S D) (hp : zG S D 0 = p) (h2 : 2 ≤ p ∧ p ≤ 7) (hN : zG S D 1 = n) (hn : n = 0 ∨ (2 ≤ n ∧ n ≤ 4)) (hC : ∀ k, 0 ≤ k → k < 7 * n → zG S (D + 1) k = C (k / 7) (k % 7)) (bC : ∀ j e, 0 ≤ C j e ∧ C j e < p) (sC : ∀ j e, (e < 0 ∨ 6 < e) → C j e = 0) (zC : ∀ j e, (j < 0 ∨ n ≤ j) → C j e = 0) (hE : rfE n s True (zG S (D + 3) s) = 0 → elW S D s n p W ∧ (0 ≤ zG S (D + 5) s ∧ zG S (D + 5) s ≤ 20) ∧ 0 ≤ zG S (D + 6) s ∧ zG S (D + 6) s < p) (H : rfE n s True (zG S (D + 3) s) ≠ 0 → Q (0, rfE n s True (zG S (D + 3) s)) S) (H0 : rfE n s True (zG S (D + 3) s) = 0 → ¬ (∀ j, 1 ≤ j → j ≤ n → okK p (zG S (D + 6) s) 199 (j * zG S (D + 5) s).toNat (bkQ p (tbE p n C W) n.toNat j)) → ∀ S', eqR D S S' → Q (0, 0) S') (H1 : rfE n s True (zG S (D + 3) s) = 0 → (∀ j, 1 ≤ j → j ≤ n → okK p (zG S (D + 6) s) 199 (j * zG S (D + 5) s).toNat (bkQ p (tbE p n C W) n.toNat j)) → ∀ S', eqR D S S' → Q (0, 1) S') : Ev (d + 5) 264 [(2, D), (0, s)] S Q := by
  apply w_Model_whole_0
  rw [hN]
  refine ⟨h.1, fun n0 => m_isShelf ⟨_, rfl, fun hz => ⟨h.1, ?_⟩, fun hz => ?_⟩, fun n0 => ?_⟩
  · have hs := i1 hz
    have er : rfE n s True (zG S (D + 3) s) = if zG S (D + 3) s = 0 then -11 else if zG S (D + 3) s = 2 then -13 else 0 := by
      unfold rfE
      rw [if_neg n0, if_pos ⟨hs.1, hs.2, trivial⟩]
    rw [er] at H H0 H1 hE
    refine m_wrongElement h hs (fun hh => ⟨_, rfl, fun z => by omega, fun _ => ?_⟩) (fun hh => ⟨_, rfl, fun z => by omega, fun _ => ?_⟩) (fun hh hh2 => ⟨_, rfl, fun _ => ⟨h.1, ?_⟩, fun z => absurd rfl z⟩)
    · rw [if_pos hh] at H
      exact H (by omega)
    · rw [if_neg (by omega), if_pos hh] at H
      exact H (by omega)
    · rw [if_neg hh, if_neg hh2] at H0 H1 hE
      obtain ⟨eW, m0, c0⟩ := hE rfl
      refine m_tableDiv h hp h2 hN (by omega) hs hC bC sC zC eW rfl m0 rfl c0 (fun hb S' r => ⟨_, rfl, ?_⟩) (fun hb S' r _ => ⟨_, rfl, ?_⟩)
      · rintro _ rfl
        rw [if_pos rfl]
        exact H0 rfl hb S' r
      · rintro _ rfl
        rw [if_neg (by omega)]
        exact H1 rfl hb S' r
  · have e : rfE n s True (zG S (D + 3) s) = -1 := by
      unfold rfE
      rw [if_neg n0, if_neg (fun z => i2 hz ⟨z.1, z.2.1⟩)]
    rw [e] at H
    exact H (by omega)
  · have e : rfE n s True (zG S (D + 3) s) = -2 := by
      unfold rfE
      rw [if_pos (by omega)]
    rw [e] at H
    exact H (by omega)
set_option maxHeartbeats 1000000 in
theorem m_equation {d : Nat} {D p n s j i : Int} {S : Hp} {W C : Int → Int → Int} {Q : Vl → Hp → Prop} (h : DW S D) (hp : zG S D 0 = p) (h2 : 2 ≤ p ∧ p ≤ 7) (hN : zG S D 1 = n) (hn : n = 0 ∨ (2 ≤ n ∧ n ≤ 4)) (hC : ∀ k, 0 ≤ k → k < 7 * n → zG S (D + 1) k = C (k / 7) (k % 7)) (bC : ∀ j e, 0 ≤ C j e ∧ C j e < p) (sC : ∀ j e, (e < 0 ∨ 6 < e) → C j e = 0) (zC : ∀ j e, (j < 0 ∨ n ≤ j) → C j e = 0) (hE : rfE n s True (zG S (D + 3) s) = 0 → elW S D s n p W ∧ (0 ≤ zG S (D + 5) s ∧ zG S (D + 5) s ≤ 20) ∧ 0 ≤ zG S (D + 6) s ∧ zG S (D + 6) s < p) (H : rfE n s ((1 ≤ j ∧ j ≤ n) ∧ 0 ≤ i ∧ i ≤ 199) (zG S (D + 3) s) ≠ 0 → Q (0, rfE n s ((1 ≤ j ∧ j ≤ n) ∧ 0 ≤ i ∧ i ≤ 199) (zG S (D + 3) s)) S) (H0 : rfE n s ((1 ≤ j ∧ j ≤ n) ∧ 0 ≤ i ∧ i ≤ 199) (zG S (D + 3) s) = 0 → ¬ (∀ j, 1 ≤ j → j ≤ n → okK p (zG S (D + 6) s) 199 (j * zG S (D + 5) s).toNat (bkQ p (tbE p n C W) n.toNat j)) → ∀ S', eqR D S S' → Q (0, -3) S') (H1 : rfE n s ((1 ≤ j ∧ j ≤ n) ∧ 0 ≤ i ∧ i ≤ 199) (zG S (D + 3) s) = 0 → (∀ j, 1 ≤ j → j ≤ n → okK p (zG S (D + 6) s) 199 (j * zG S (D + 5) s).toNat (bkQ p (tbE p n C W) n.toNat j)) → ∀ S', eqR D S S' → Q (0, dvK p (zG S (D + 6) s) 199 (j * zG S (D + 5) s).toNat (bkQ p (tbE p n C W) n.toNat j) i) S') : Ev (d + 5) 265 [(2, D), (0, s), (0, j), (0, i)] S Q := by
  have bad : n ≠ 0 → ¬ (0 ≤ s ∧ s < 6 ∧ (1 ≤ j ∧ j ≤ n) ∧ 0 ≤ i ∧ i ≤ 199) → Q (0, -1) S := fun n0 z => by
    have e : rfE n s ((1 ≤ j ∧ j ≤ n) ∧ 0 ≤ i ∧ i ≤ 199) (zG S (D + 3) s) = -1 := by
      unfold rfE
      rw [if_neg n0, if_neg z]
    rw [e] at H
    exact H (by omega)
  apply w_Model_equation_0
  rw [hN]
  refine ⟨h.1, fun n0 => m_isShelf ⟨_, rfl, fun hz => bad n0 (fun z => i0 hz ⟨z.1, z.2.1⟩), fun hz1 => ⟨h.1, m_in ⟨_, rfl, fun hz => bad n0 (fun z => ?_), fun hz2 => m_in ⟨_, rfl, fun hz3 => ⟨h.1, ?_⟩, fun hz => bad n0 (fun z => i2 hz z.2.2.2)⟩⟩⟩⟩, fun n0 => ?_⟩
  · rw [hN] at hz
    exact i0 hz z.2.2.1
  · rw [hN] at hz2
    have hs := i1 hz1
    have hj := i1 hz2
    have hi := i1 hz3
    have er : rfE n s ((1 ≤ j ∧ j ≤ n) ∧ 0 ≤ i ∧ i ≤ 199) (zG S (D + 3) s) = if zG S (D + 3) s = 0 then -11 else if zG S (D + 3) s = 2 then -13 else 0 := by
      unfold rfE
      rw [if_neg n0, if_pos ⟨hs.1, hs.2, hj, hi⟩]
    have er2 : rfE n s True (zG S (D + 3) s) = if zG S (D + 3) s = 0 then -11 else if zG S (D + 3) s = 2 then -13 else 0 := by
      unfold rfE
      rw [if_neg n0, if_pos ⟨hs.1, hs.2, trivial⟩]
    rw [er] at H H0 H1
    rw [er2] at hE
    refine m_wrongElement h hs (fun hh => ⟨_, rfl, fun z => by omega, fun _ => ?_⟩) (fun hh => ⟨_, rfl, fun z => by omega, fun _ => ?_⟩) (fun hh hh2 => ⟨_, rfl, fun _ => ⟨h.1, ?_⟩, fun z => absurd rfl z⟩)
    · rw [if_pos hh] at H
      exact H (by omega)
    · rw [if_neg (by omega), if_pos hh] at H
      exact H (by omega)
    · rw [if_neg hh, if_neg hh2] at H0 H1 hE
      obtain ⟨eW, m0, c0⟩ := hE rfl
      refine m_tableDiv h hp h2 hN (by omega) hs hC bC sC zC eW rfl m0 rfl c0 (fun hb S' r => ⟨_, rfl, fun z => absurd rfl z, ?_⟩) (fun hb S' r b => ⟨_, rfl, fun _ => ⟨r.2.2.1, ?_⟩, ?_⟩)
      · rintro _ rfl
        rw [if_pos rfl]
        exact H0 rfl hb S' r
      · rw [r.2.2.x_equation.1, r.2.2.x_equation.2.1, r.2.2.x_equation.2.2, w32_id (x := 200 * j) (by omega) (by omega), w32_id (by omega) (by omega)]
        exact ⟨rfl, by omega, by omega⟩
      · rintro _ rfl
        have v := b.2.2.1 j i (by omega) (by omega) hi.1 (by omega)
        (try dsimp only at v)
        rw [if_pos hj] at v
        rw [if_neg (by omega), r.2.2.x_equation.1, w32_id (x := 200 * j) (by omega) (by omega), w32_id (by omega) (by omega), v]
        exact H1 rfl hb S' r
  · have e : rfE n s ((1 ≤ j ∧ j ≤ n) ∧ 0 ≤ i ∧ i ≤ 199) (zG S (D + 3) s) = -2 := by
      unfold rfE
      rw [if_pos (by omega)]
    rw [e] at H
    exact H (by omega)
def rfR (s h : Int) : Int := if 0 ≤ s ∧ s < 6 then (if h = 0 then -11 else if h = 1 then -13 else 0) else -1
theorem m_wrongRow {d : Nat} {D s : Int} {S : Hp} {Q : Vl → Hp → Prop} (h : DW S D) (hs : 0 ≤ s ∧ s < 6) (H : Q (0, rfR s (zG S (D + 3) s)) S) : Ev d 275 [(2, D), (0, s)] S Q := by
  unfold rfR at H
  rw [if_pos hs] at H
  apply w_Model_wrongRow_0
  rw [h.x_holds.1, h.x_holds.2.1, h.x_holds.2.2]
  refine ⟨h.1, ⟨rfl, by omega, by omega⟩, fun z => ⟨h.1, ⟨rfl, by omega, by omega⟩, fun y => ?_, fun y => ?_⟩, fun z => ?_⟩
  · rw [if_neg z, if_neg y] at H
    exact H
  · rw [if_neg z, if_pos (Decidable.not_not.mp y)] at H
    exact H
  · rw [if_pos (Decidable.not_not.mp z)] at H
    exact H
theorem m_row {d : Nat} {D s t n : Int} {S : Hp} {Q : Vl → Hp → Prop} (h : DW S D) (H0 : ¬ ((0 ≤ s ∧ s < 6) ∧ (0 ≤ t ∧ t ≤ 1) ∧ n ≤ 40) → Q (0, -1) S) (H1 : (0 ≤ s ∧ s < 6) ∧ (0 ≤ t ∧ t ≤ 1) ∧ n ≤ 40 → n < 0 → Q (0, -14) S) (H2 : (0 ≤ s ∧ s < 6) ∧ (0 ≤ t ∧ t ≤ 1) ∧ n ≤ 40 → 0 ≤ n → ∀ S', Md (fun x => x = D + 3 ∨ x = D + 7 ∨ x = D + 8 ∨ x = D + 9) S S' → DW S' D → (∀ i, zG S' (D + 3) i = if i = s then 2 else zG S (D + 3) i) → (∀ i, zG S' (D + 7) i = if i = s then t else zG S (D + 7) i) → (∀ i, zG S' (D + 8) i = if i = s then n else zG S (D + 8) i) → (∀ i, zG S' (D + 9) i = if 40 * s ≤ i ∧ i < 40 * s + 40 then 0 else zG S (D + 9) i) → Q (0, 1) S') : Ev (d + 2) 274 [(2, D), (0, s), (0, t), (0, n)] S Q := by
  apply w_Model_row_0
  refine m_isShelf ⟨_, rfl, fun hz => H0 (fun z => i0 hz z.1), fun hz1 => m_in ⟨_, rfl, fun hz => H0 (fun z => ?_), fun hz => ?_⟩⟩
  · rcases hz with hz | hz
    · exact i0 hz z.2.1
    · exact hz z.2.2
  · have hs := i1 hz1
    have ht := i1 (fun z => hz (Or.inl z))
    have hn : n ≤ 40 := Decidable.byContradiction (fun z => hz (Or.inr z))
    refine ⟨fun n0 => ⟨h.1, ?_⟩, fun n0 => H1 ⟨hs, ht, hn⟩ (by omega)⟩
    have H2 := H2 ⟨hs, ht, hn⟩ n0
    rw [h.x_holds.1, h.x_holds.2.1, h.x_holds.2.2]
    refine ⟨⟨rfl, by omega, by omega⟩, ?_⟩
    rintro _ rfl
    have w1 : DW (zS S (D + 3) s 2) D := h.zSr (by omega)
    rw [w1.x_sorts.1, w1.x_sorts.2.1, w1.x_sorts.2.2]
    refine ⟨w1.1, ⟨rfl, by omega, by omega⟩, ?_⟩
    rintro _ rfl
    have w2 : DW (zS (zS S (D + 3) s 2) (D + 7) s t) D := w1.zSr (by omega)
    rw [w2.x_sizes.1, w2.x_sizes.2.1, w2.x_sizes.2.2]
    refine ⟨w2.1, ⟨rfl, by omega, by omega⟩, ?_⟩
    rintro _ rfl
    have w3 : DW (zS (zS (zS S (D + 3) s 2) (D + 7) s t) (D + 8) s n) D := w2.zSr (by omega)
    have m3 : Md (fun x => x = D + 3 ∨ x = D + 7 ∨ x = D + 8 ∨ x = D + 9) S (zS (zS (zS S (D + 3) s 2) (D + 7) s t) (D + 8) s n) := (((Md.zS _ _ _ _).wide (fun x hx => by omega)).tr ((Md.zS _ _ _ _).wide (fun x hx => by omega))).tr ((Md.zS _ _ _ _).wide (fun x hx => by omega))
    have g3 : ∀ i, zG (zS (zS (zS S (D + 3) s 2) (D + 7) s t) (D + 8) s n) (D + 3) i = if i = s then 2 else zG S (D + 3) i := fun i => by
      rw [zG_zS_ne _ (Or.inl (by omega)), zG_zS_ne _ (Or.inl (by omega)), zG_zS]
      by_cases q : i = s
      · rw [if_pos ⟨rfl, q⟩, if_pos q]
      · rw [if_neg (fun z => q z.2), if_neg q]
    have g7 : ∀ i, zG (zS (zS (zS S (D + 3) s 2) (D + 7) s t) (D + 8) s n) (D + 7) i = if i = s then t else zG S (D + 7) i := fun i => by
      rw [zG_zS_ne _ (Or.inl (by omega)), zG_zS, zG_zS_ne _ (Or.inl (by omega))]
      by_cases q : i = s
      · rw [if_pos ⟨rfl, q⟩, if_pos q]
      · rw [if_neg (fun z => q z.2), if_neg q]
    have g8 : ∀ i, zG (zS (zS (zS S (D + 3) s 2) (D + 7) s t) (D + 8) s n) (D + 8) i = if i = s then n else zG S (D + 8) i := fun i => by
      rw [zG_zS, zG_zS_ne _ (Or.inl (by omega)), zG_zS_ne _ (Or.inl (by omega))]
      by_cases q : i = s
      · rw [if_pos ⟨rfl, q⟩, if_pos q]
      · rw [if_neg (fun z => q z.2), if_neg q]
    have g9 : ∀ i, zG (zS (zS (zS S (D + 3) s 2) (D + 7) s t) (D + 8) s n) (D + 9) i = zG S (D + 9) i := fun i => by
      rw [zG_zS_ne _ (Or.inl (by omega)), zG_zS_ne _ (Or.inl (by omega)), zG_zS_ne _ (Or.inl (by omega))]
    generalize zS (zS (zS S (D + 3) s 2) (D + 7) s t) (D + 8) s n = S3 at *
    refine loopU (P := fun k S' => At (d + 2) 274 c274_55 [(0, (2, D)), (1, (0, s)), (4, (0, k))] [] S' Q) (I := fun k S' => 0 ≤ k ∧ Md (fun x => x = D + 9) S3 S' ∧ ∀ i, zG S' (D + 9) i = if 40 * s ≤ i ∧ i < 40 * s + k then 0 else zG S (D + 9) i) 40 ?_ ?_ 0 S3 (by omega) ⟨by omega, Md.refl _ _, fun i => by rw [if_neg (by omega)]; exact g9 i⟩
    · rintro k S4 hk ⟨k0, m4, v4⟩ hnx
      have w4 : DW S4 D := w3.md m4 (by omega)
      apply w_Model_row_55
      rw [w4.x_numbers.1, w4.x_numbers.2.1, w4.x_numbers.2.2, w32_id (x := 40 * s) (by omega) (by omega), w32_id (x := 40 * s + k) (by omega) (by omega)]
      refine ⟨fun hc => by omega, fun _ => ⟨w4.1, ⟨rfl, by omega, by omega⟩, ?_⟩⟩
      rintro _ rfl _ rfl
      rw [w32_id (by omega) (by omega)]
      refine hnx _ ⟨by omega, m4.tr (Md.zS _ _ _ _), fun i => ?_⟩
      by_cases q : i = 40 * s + k
      · rw [q, zG_zS_at, if_pos (by omega)]
      · rw [zG_zS_ne _ (Or.inr q), v4 i]
        by_cases q2 : 40 * s ≤ i ∧ i < 40 * s + k
        · rw [if_pos q2, if_pos (by omega)]
        · rw [if_neg q2, if_neg (by omega)]
    · rintro S4 ⟨-, m4, v4⟩
      apply w_Model_row_55
      exact ⟨fun _ => H2 S4 (m3.tr (m4.wide (fun x hx => by omega))) (w3.md m4 (by omega)) (fun i => (m4.G (by omega) i).trans (g3 i)) (fun i => (m4.G (by omega) i).trans (g7 i)) (fun i => (m4.G (by omega) i).trans (g8 i)) v4, fun hc => absurd (Int.le_refl 40) hc⟩
theorem w32_eq {v : Int} : lCmp (w32 v) v = 0 ↔ -2147483648 ≤ v ∧ v ≤ 2147483647 := by
  have e : lCmp (w32 v) v = 0 ↔ w32 v = v := by
    unfold lCmp
    constructor
    · intro h
      by_cases q1 : w32 v < v
      · rw [if_pos q1] at h
        omega
      · rw [if_neg q1] at h
        by_cases q2 : w32 v = v
        · exact q2
        · rw [if_neg q2] at h
          omega
    · intro h
      rw [if_neg (by omega), if_pos h]
  rw [e]
  constructor
  · intro h
    unfold w32 at h
    rw [Int.bmod_def] at h
    split at h <;> omega
  · intro h
    exact w32_id (by omega) (by omega)
theorem m_put {d : Nat} {D s i v : Int} {S : Hp} {Q : Vl → Hp → Prop} (h : DW S D) (hZ : 0 ≤ s → s < 6 → 0 ≤ zG S (D + 8) s ∧ zG S (D + 8) s ≤ 40) (H0 : rfR s (zG S (D + 3) s) ≠ 0 → Q (0, rfR s (zG S (D + 3) s)) S) (H1 : rfR s (zG S (D + 3) s) = 0 → ¬ (0 ≤ i ∧ i < zG S (D + 8) s) → Q (0, -12) S) (H2 : rfR s (zG S (D + 3) s) = 0 → 0 ≤ i ∧ i < zG S (D + 8) s → (zG S (D + 7) s = 0 ∧ ¬ (-2147483648 ≤ v ∧ v ≤ 2147483647)) → Q (0, -16) S) (H3 : rfR s (zG S (D + 3) s) = 0 → 0 ≤ i ∧ i < zG S (D + 8) s → ¬ (zG S (D + 7) s = 0 ∧ ¬ (-2147483648 ≤ v ∧ v ≤ 2147483647)) → Q (0, 1) (zS S (D + 9) (40 * s + i) v)) : Ev (d + 2) 276 [(2, D), (0, s), (0, i), (1, v)] S Q := by
  apply w_Model_put_0
  refine m_isShelf ⟨_, rfl, fun hz => ⟨h.1, ?_⟩, fun hz => ?_⟩
  · have hs := i1 hz
    have sz := hZ hs.1 hs.2
    have r11 : zK S (zG S D 11) = 101 ∧ 0 ≤ s ∧ s < zL S (zG S D 11) := by
      rw [h.x_sizes.1, h.x_sizes.2.1, h.x_sizes.2.2]
      exact ⟨rfl, by omega, by omega⟩
    have r10 : zK S (zG S D 10) = 101 ∧ 0 ≤ s ∧ s < zL S (zG S D 10) := by
      rw [h.x_sorts.1, h.x_sorts.2.1, h.x_sorts.2.2]
      exact ⟨rfl, by omega, by omega⟩
    have e11 : w32 (zG S (zG S D 11) s - 1) = zG S (D + 8) s - 1 := by rw [h.x_sizes.1, w32_id (by omega) (by omega)]
    have e10 : zG S (zG S D 10) s = zG S (D + 7) s := by rw [h.x_sorts.1]
    refine m_wrongRow h hs ⟨_, rfl, fun hr => ⟨h.1, r11, m_in ⟨_, rfl, fun hz2 => ⟨h.1, r10, fun hy => ?_, fun hy => ?_⟩, fun hz2 => ?_⟩⟩, fun hr => H0 hr⟩
    · rw [e11] at hz2
      have hi := i1 hz2
      apply w_Model_put_63
      rw [h.x_numbers.1, h.x_numbers.2.1, h.x_numbers.2.2, w32_id (x := 40 * s) (by omega) (by omega), w32_id (x := 40 * s + i) (by omega) (by omega)]
      refine ⟨h.1, ⟨rfl, by omega, by omega⟩, ?_⟩
      rintro _ rfl
      refine H3 hr (by omega) (fun z => ?_)
      rw [e10, w32_eq] at hy
      rcases hy with hy | hy
      · exact hy z.1
      · exact z.2 hy
    · rw [e11] at hz2
      have hi := i1 hz2
      rw [e10, w32_eq] at hy
      exact H2 hr (by omega) ⟨Decidable.byContradiction (fun z => hy (Or.inl z)), fun z => hy (Or.inr z)⟩
    · rw [e11] at hz2
      have hi := i2 hz2
      exact H1 hr (fun z => hi (by omega))
  · have e : rfR s (zG S (D + 3) s) = -1 := by
      unfold rfR
      rw [if_neg (i2 hz)]
    rw [e] at H0
    exact H0 (by omega)
theorem m_get {d : Nat} {D s i : Int} {S : Hp} {Q : Vl → Hp → Prop} (h : DW S D) (hZ : 0 ≤ s → s < 6 → 0 ≤ zG S (D + 8) s ∧ zG S (D + 8) s ≤ 40) (H0 : ¬ (0 ≤ s ∧ s < 6) → Q (1, 0) (zS S D 5 1)) (H1 : 0 ≤ s ∧ s < 6 → ¬ (zG S (D + 3) s = 2 ∧ 0 ≤ i ∧ i < zG S (D + 8) s) → Q (1, 0) (zS S D 5 2)) (H2 : 0 ≤ s ∧ s < 6 → zG S (D + 3) s = 2 ∧ 0 ≤ i ∧ i < zG S (D + 8) s → Q (1, zG S (D + 9) (40 * s + i)) (zS S D 5 0)) : Ev (d + 2) 277 [(2, D), (0, s), (0, i)] S Q := by
  apply w_Model_get_0
  refine m_isShelf ⟨_, rfl, fun hz => ⟨h.1, ?_⟩, fun hz => ?_⟩
  · have hs := i1 hz
    have sz := hZ hs.1 hs.2
    have e11 : w32 (zG S (zG S D 11) s - 1) = zG S (D + 8) s - 1 := by rw [h.x_sizes.1, w32_id (by omega) (by omega)]
    have bad : ¬ (zG S (D + 3) s = 2 ∧ 0 ≤ i ∧ i < zG S (D + 8) s) → At (d + 2) 277 c277_38 [(0, (2, D)), (1, (0, s)), (2, (0, i))] [(2, D)] S Q := fun hb => by
      apply w_Model_get_38
      apply w_Model_get_43
      refine ⟨h.1, ?_⟩
      rintro _ rfl
      rw [zG_zS_at]
      refine ⟨h.1, fun z => absurd (by decide) z, ?_⟩
      rintro _ rfl
      exact H1 hs hb
    rw [h.x_holds.1, h.x_holds.2.1, h.x_holds.2.2]
    refine ⟨⟨rfl, by omega, by omega⟩, fun hh => bad (fun z => hh z.1), fun hh => ⟨h.1, ?_, m_in ⟨_, rfl, fun hz2 => ?_, fun hz2 => bad (fun z => ?_)⟩⟩⟩
    · rw [h.x_sizes.1, h.x_sizes.2.1, h.x_sizes.2.2]
      exact ⟨rfl, by omega, by omega⟩
    · rw [e11] at hz2
      have hi := i1 hz2
      apply w_Model_get_43
      refine ⟨h.1, ?_⟩
      rintro _ rfl
      have w1 : DW (zS S D 5 0) D := h.sc (by decide)
      rw [zG_zS_at, w1.x_numbers.1, w1.x_numbers.2.1, w1.x_numbers.2.2, w32_id (x := 40 * s) (by omega) (by omega), w32_id (x := 40 * s + i) (by omega) (by omega), zG_zS_ne _ (Or.inl (by omega))]
      refine ⟨h.1, fun z => ⟨h.1, rfl, by omega, by omega⟩, ?_⟩
      rintro _ rfl
      exact H2 hs ⟨Decidable.not_not.mp hh, by omega⟩
    · rw [e11] at hz2
      exact i2 hz2 (by omega)
  · apply w_Model_get_43
    refine ⟨h.1, ?_⟩
    rintro _ rfl
    rw [zG_zS_at]
    refine ⟨h.1, fun z => absurd (by decide) z, ?_⟩
    rintro _ rfl
    exact H0 (i2 hz)
theorem m_clear {d : Nat} {D s : Int} {S : Hp} {Q : Vl → Hp → Prop} (h : DW S D) (H0 : ¬ (0 ≤ s ∧ s < 6) → Q (0, -1) S) (H1 : 0 ≤ s ∧ s < 6 → Q (0, if zG S (D + 3) s = 0 then 0 else 1) (zS S (D + 3) s 0)) : Ev (d + 2) 281 [(2, D), (0, s)] S Q := by
  apply w_Model_clear_0
  refine m_isShelf ⟨_, rfl, fun hz => ⟨h.1, ?_⟩, fun hz => H0 (i2 hz)⟩
  have hs := i1 hz
  rw [h.x_holds.1, h.x_holds.2.1, h.x_holds.2.2]
  refine ⟨⟨rfl, by omega, by omega⟩, ?_⟩
  rintro _ rfl
  refine ⟨h.1, ⟨rfl, by omega, by omega⟩, ?_⟩
  rintro _ rfl
  have := H1 hs
  by_cases q : zG S (D + 3) s = 0
  · rw [if_pos q] at this
    rw [if_neg (fun z => z q)]
    exact this
  · rw [if_neg q] at this
    rw [if_pos q]
    exact this
theorem m_holding {d : Nat} {D w : Int} {S : Hp} {Q : Vl → Hp → Prop} (h : DW S D) (H : Q (0, bsN (fun s => if zG S (D + 3) s = w then 1 else 0) 6) S) : Ev d 284 [(2, D), (0, w)] S Q := by
  apply w_Model_holding_0
  refine loopU (α := Int) (P := fun i v => At d 284 c284_4 [(0, (2, D)), (1, (0, w)), (2, (0, v)), (3, (0, i))] [] S Q) (I := fun i v => 0 ≤ i ∧ v = bsN (fun s => if zG S (D + 3) s = w then 1 else 0) i.toNat) 6 ?_ ?_ 0 0 (by omega) ⟨by omega, rfl⟩
  · rintro i v hi ⟨i0, rfl⟩ hk
    apply w_Model_holding_4
    rw [h.x_holds.1, h.x_holds.2.1, h.x_holds.2.2]
    refine ⟨fun hc => by omega, fun _ => ⟨h.1, ⟨rfl, by omega, by omega⟩, ?_⟩⟩
    rintro _ rfl _ rfl _ rfl
    rw [w32_id (by omega) (by omega)]
    refine hk _ ⟨by omega, ?_⟩
    rw [show (i + 1).toNat = i.toNat + 1 by omega]
    show _ = bOr _ (if (if zG S (D + 3) (i.toNat : Int) = w then (1 : Int) else 0) = 0 then 0 else bShl 1 (i.toNat : Int))
    rw [show ((i.toNat : Nat) : Int) = i by omega]
    congr 1
    by_cases q : zG S (D + 3) i = w
    · rw [if_neg (fun z => z q), if_pos q, if_neg (by omega)]
    · rw [if_pos q, if_neg q, if_pos rfl]
  · rintro v ⟨-, rfl⟩
    apply w_Model_holding_4
    exact ⟨fun _ => H, fun hc => absurd (Int.le_refl 6) hc⟩
