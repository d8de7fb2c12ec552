/-! The model: spills, the book. -/
set_option maxHeartbeats 1000000 in
theorem m_spills {d : Nat} {D n s t : Int} {S : Hp} {Q : Vl → Hp → Prop} (h : DW S D) (hN : zG S D 1 = n) (hn : n = 0 ∨ (2 ≤ n ∧ n ≤ 4)) (hZ : 0 ≤ t → t < 6 → 0 ≤ zG S (D + 8) t ∧ zG S (D + 8) t ≤ 40) (H0 : n = 0 → Q (0, -2) S) (H1 : n ≠ 0 → ¬ ((0 ≤ s ∧ s < 6) ∧ 0 ≤ t ∧ t < 6) → Q (0, -1) S) (H2 : n ≠ 0 → (0 ≤ s ∧ s < 6) ∧ 0 ≤ t ∧ t < 6 → zG S (D + 3) s = 0 ∨ zG S (D + 3) t = 0 → Q (0, -11) S) (H3 : n ≠ 0 → (0 ≤ s ∧ s < 6) ∧ 0 ≤ t ∧ t < 6 → ¬ (zG S (D + 3) s = 0 ∨ zG S (D + 3) t = 0) → zG S (D + 3) s = 2 ∨ 0 < zG S (D + 5) s ∨ zG S (D + 3) t = 1 → Q (0, -13) S) (H4 : n ≠ 0 → (0 ≤ s ∧ s < 6) ∧ 0 ≤ t ∧ t < 6 → ¬ (zG S (D + 3) s = 0 ∨ zG S (D + 3) t = 0) → ¬ (zG S (D + 3) s = 2 ∨ 0 < zG S (D + 5) s ∨ zG S (D + 3) t = 1) → ∀ S', Md (fun x => x = D + 9) S S' → DW S' D → (∀ x, zG S' (D + 9) x = if 40 * t ≤ x ∧ x < 40 * t + min (zG S (D + 8) t) (8 * n) then zG S (D + 4) (124 * s + 31 * ((x - 40 * t) / 8) + (x - 40 * t) % 8) else zG S (D + 9) x) → Q (0, min (zG S (D + 8) t) (8 * n)) S') : Ev (d + 2) 280 [(2, D), (0, s), (0, t)] S Q := by
  apply w_Model_spills_0
  rw [hN]
  refine ⟨h.1, fun n0 => m_isShelf ⟨_, rfl, fun hz => H1 n0 (fun z => i0 hz z.1), fun hz1 => m_isShelf ⟨_, rfl, fun hz2 => ⟨h.1, ?_⟩, fun hz => H1 n0 (fun z => i2 hz z.2)⟩⟩, fun n0 => H0 (by omega)⟩
  have hs := i1 hz1
  have ht := i1 hz2
  have zt := hZ ht.1 ht.2
  have H2 := H2 n0 ⟨hs, ht⟩
  have H3 := H3 n0 ⟨hs, ht⟩
  have H4 := H4 n0 ⟨hs, ht⟩
  have hn : 2 ≤ n ∧ n ≤ 4 := by omega
  rw [h.x_holds.1, h.x_holds.2.1, h.x_holds.2.2, h.x_under.1, h.x_under.2.1, h.x_under.2.2, h.x_sizes.1, h.x_sizes.2.1, h.x_sizes.2.2, hN, w32_id (x := 8 * n) (by omega) (by omega)]
  refine ⟨⟨rfl, by omega, by omega⟩, fun _ => ⟨h.1, rfl, by omega, by omega⟩, fun hz => H2 (by omega), fun hz => ⟨h.1, ⟨rfl, by omega, by omega⟩, fun _ => ⟨h.1, ⟨rfl, by omega, by omega⟩, fun _ => ⟨h.1, rfl, by omega, by omega⟩⟩, fun hy => H3 (by omega) (by omega), fun hy => ⟨h.1, ⟨rfl, by omega, by omega⟩, h.1, fun _ => h.1, fun _ => ⟨h.1, rfl, by omega, by omega⟩, ?_⟩⟩⟩
  have H4 := H4 (by omega) (by omega)
  intro m hm
  have hm : m = min (zG S (D + 8) t) (8 * n) := by
    rw [hm]
    split <;> omega
  rw [← hm] at H4
  have mb : 0 ≤ m ∧ m ≤ 8 * n ∧ m ≤ 40 := by omega
  clear hm H0 H1 H2 H3
  refine loopU (P := fun k S' => At (d + 2) 280 c280_115 [(0, (2, D)), (1, (0, s)), (2, (0, t)), (3, (0, m)), (4, (0, k))] [] S' Q) (I := fun k S' => 0 ≤ k ∧ Md (fun x => x = D + 9) S S' ∧ ∀ x, zG S' (D + 9) x = if 40 * t ≤ x ∧ x < 40 * t + k then zG S (D + 4) (124 * s + 31 * ((x - 40 * t) / 8) + (x - 40 * t) % 8) else zG S (D + 9) x) m ?_ ?_ 0 S (by omega) ⟨by omega, Md.refl _ _, fun x => by rw [if_neg (by omega)]⟩
  · rintro k S1 hk ⟨k0, m1, v1⟩ hnx
    have w1 : DW S1 D := h.md m1 (by omega)
    apply w_Model_spills_115
    rw [show k.tdiv 8 = k / 8 from Int.tdiv_eq_ediv_of_nonneg k0, tm_nn k0, w32_id (x := k / 8) (by omega) (by omega), w32_id (x := 31 * (k / 8)) (by omega) (by omega), w32_id (x := 124 * s) (by omega) (by omega), w32_id (x := 124 * s + 31 * (k / 8)) (by omega) (by omega), w32_id (x := 124 * s + 31 * (k / 8) + k % 8) (by omega) (by omega), w32_id (x := 40 * t) (by omega) (by omega), w32_id (x := 40 * t + k) (by omega) (by omega), w1.x_parts.1, w1.x_parts.2.1, w1.x_parts.2.2, w1.x_numbers.1, w1.x_numbers.2.1, w1.x_numbers.2.2, m1.G (a := D + 4) (by omega)]
    refine ⟨fun hc => by omega, fun _ => ⟨w1.1, w1.1, by decide, by decide, ⟨rfl, by omega, by omega⟩, ⟨rfl, by omega, by omega⟩, ?_⟩⟩
    rintro _ rfl _ rfl
    rw [w32_id (by omega) (by omega)]
    refine hnx _ ⟨by omega, m1.tr (Md.zS _ _ _ _), fun x => ?_⟩
    by_cases q : x = 40 * t + k
    · rw [q, zG_zS_at, if_pos (by omega), show 40 * t + k - 40 * t = k by omega]
    · rw [zG_zS_ne _ (Or.inr q), v1 x]
      by_cases q2 : 40 * t ≤ x ∧ x < 40 * t + k
      · rw [if_pos q2, if_pos (by omega)]
      · rw [if_neg q2, if_neg (by omega)]
  · rintro S1 ⟨-, m1, v1⟩
    apply w_Model_spills_115
    exact ⟨fun _ => H4 S1 m1 (h.md m1 (by omega)) v1, fun hc => absurd (Int.le_refl m) hc⟩
/-- entry b of the book is what is on shelf s -/
def bkEq (S : Hp) (D s b : Int) : Prop := zG S (D + 11) b = zG S (D + 5) s ∧ zG S (D + 12) b = zG S (D + 6) s ∧ ∀ k, 0 ≤ k → k < 124 → zG S (D + 10) (124 * b + k) = zG S (D + 4) (124 * s + k)
theorem m_numberInBook {d : Nat} {D s : Int} {S : Hp} {Q : Vl → Hp → Prop} (h : DW S D) (hs : 0 ≤ s ∧ s < 6) (hB : 0 ≤ zG S D 16 ∧ zG S D 16 ≤ 7) (H0 : (∀ b, 0 ≤ b → b < zG S D 16 → ¬ bkEq S D s b) → Q (0, -3) S) (H1 : ∀ b, 0 ≤ b → b < zG S D 16 → bkEq S D s b → (∀ a, 0 ≤ a → a < b → ¬ bkEq S D s a) → Q (0, b) S) : Ev d 270 [(2, D), (0, s)] S Q := by
  apply w_Model_numberInBook_0
  refine loopU (α := Unit) (P := fun b _ => At d 270 c270_2 [(0, (2, D)), (1, (0, s)), (2, (0, b))] [] S Q) (I := fun b _ => 0 ≤ b ∧ ∀ a, 0 ≤ a → a < b → ¬ bkEq S D s a) (zG S D 16) ?_ ?_ 0 () (by omega) ⟨by omega, fun a a0 a1 => by omega⟩
  · rintro b _ hb ⟨b0, nb⟩ hk
    -- what follows the comparison
    have fin : ∀ v, (v = 0 ∨ v = 1) → (v = 1 ↔ bkEq S D s b) → At d 270 c270_99 [(0, (2, D)), (1, (0, s)), (2, (0, b)), (3, (0, v))] [] S Q := fun v v1 v2 => by
      apply w_Model_numberInBook_99
      refine ⟨fun z => ?_, fun z => H1 b b0 hb (v2.mp (by omega)) nb⟩
      rintro _ rfl
      rw [w32_id (by omega) (by omega)]
      refine hk () ⟨by omega, fun a a0 a1 => ?_⟩
      rcases Int.lt_or_le a b with q | q
      · exact nb a a0 q
      · rw [show a = b by omega]
        intro y
        have := v2.mpr y
        omega
    apply w_Model_numberInBook_2
    rw [h.x_bookUnder.1, h.x_bookUnder.2.1, h.x_bookUnder.2.2, h.x_under.1, h.x_under.2.1, h.x_under.2.2, h.x_bookPlaces.1, h.x_bookPlaces.2.1, h.x_bookPlaces.2.2, h.x_places.1, h.x_places.2.1, h.x_places.2.2]
    refine ⟨h.1, fun hc => by omega, fun _ => ⟨h.1, ⟨rfl, by omega, by omega⟩, h.1, ⟨rfl, by omega, by omega⟩, fun _ => ⟨h.1, ⟨rfl, by omega, by omega⟩, h.1, rfl, by omega, by omega⟩, ?_⟩⟩
    rintro _ rfl
    refine loopU (α := Int) (P := fun k v => At d 270 c270_49 [(0, (2, D)), (1, (0, s)), (2, (0, b)), (3, (0, v)), (4, (0, k))] [] S Q) (I := fun k v => 0 ≤ k ∧ (v = 0 ∨ v = 1) ∧ (v = 1 ↔ zG S (D + 11) b = zG S (D + 5) s ∧ zG S (D + 12) b = zG S (D + 6) s ∧ ∀ e, 0 ≤ e → e < k → zG S (D + 10) (124 * b + e) = zG S (D + 4) (124 * s + e))) 124 ?_ ?_ 0 _ (by omega) ⟨by omega, ?_, ?_⟩
    · rintro k v hk' ⟨k0, v1, v2⟩ hk2
      apply w_Model_numberInBook_49
      rw [h.x_bookParts.1, h.x_bookParts.2.1, h.x_bookParts.2.2, h.x_parts.1, h.x_parts.2.1, h.x_parts.2.2, w32_id (x := 124 * b) (by omega) (by omega), w32_id (x := 124 * s) (by omega) (by omega), w32_id (x := 124 * b + k) (by omega) (by omega), w32_id (x := 124 * s + k) (by omega) (by omega)]
      refine ⟨fun hc => fin v v1 ?_, fun hc => ⟨h.1, ⟨rfl, by omega, by omega⟩, h.1, ⟨rfl, by omega, by omega⟩, ?_⟩⟩
      · have v0 : v = 0 := by omega
        refine ⟨fun z => by omega, fun z => ?_⟩
        exact v2.mpr ⟨z.1, z.2.1, fun e e0 e1 => z.2.2 e e0 (by omega)⟩
      · have v1' := v2.mp (by omega)
        rintro _ rfl _ rfl
        rw [w32_id (by omega) (by omega)]
        refine hk2 _ ⟨by omega, ?_, ?_⟩
        · split
          · exact Or.inl rfl
          · exact Or.inr rfl
        · constructor
          · intro z
            refine ⟨v1'.1, v1'.2.1, fun e e0 e1 => ?_⟩
            rcases Int.lt_or_le e k with q | q
            · exact v1'.2.2 e e0 q
            · rw [show e = k by omega]
              exact Decidable.byContradiction (fun y => by rw [if_pos y] at z; omega)
          · intro z
            exact if_neg (fun y => y (z.2.2 k k0 (by omega)))
    · rintro v ⟨-, v1, v2⟩
      apply w_Model_numberInBook_49
      exact ⟨fun _ => fin v v1 v2, fun hc => absurd (Or.inl (Int.le_refl 124)) hc⟩
    · split
      · exact Or.inl rfl
      · exact Or.inr rfl
    · constructor
      · intro z
        by_cases q : ¬ zG S (D + 11) b = zG S (D + 5) s ∨ ¬ zG S (D + 12) b = zG S (D + 6) s
        · rw [if_pos q] at z
          omega
        · exact ⟨by omega, by omega, fun e e0 e1 => by omega⟩
      · intro z
        exact if_neg (by omega)
  · rintro _ ⟨-, nb⟩
    apply w_Model_numberInBook_2
    exact ⟨h.1, fun _ => H0 nb, fun hc => absurd (Int.le_refl _) hc⟩
theorem m_find {d : Nat} {D n s : Int} {S : Hp} {Q : Vl → Hp → Prop} (h : DW S D) (hN : zG S D 1 = n) (hB : 0 ≤ zG S D 16 ∧ zG S D 16 ≤ 7) (H : rfE n s True (zG S (D + 3) s) ≠ 0 → Q (0, rfE n s True (zG S (D + 3) s)) S) (H0 : rfE n s True (zG S (D + 3) s) = 0 → (∀ b, 0 ≤ b → b < zG S D 16 → ¬ bkEq S D s b) → Q (0, -3) S) (H1 : rfE n s True (zG S (D + 3) s) = 0 → ∀ b, 0 ≤ b → b < zG S D 16 → bkEq S D s b → (∀ a, 0 ≤ a → a < b → ¬ bkEq S D s a) → Q (0, b) S) : Ev (d + 2) 272 [(2, D), (0, s)] S Q := by
  apply w_Model_find_0
  rw [hN]
  unfold rfE at H H0 H1
  refine ⟨h.1, fun n0 => m_isShelf ⟨_, rfl, fun hz => ⟨h.1, ?_⟩, fun hz => ?_⟩, fun n0 => ?_⟩
  · have hs := i1 hz
    rw [if_neg n0, if_pos ⟨hs.1, hs.2, trivial⟩] at H H0 H1
    refine m_wrongElement h hs (fun hh => ⟨_, rfl, fun z => by omega, fun _ => ?_⟩) (fun hh => ⟨_, rfl, fun z => by omega, fun _ => ?_⟩) (fun hh hh2 => ⟨_, rfl, fun _ => ⟨h.1, ?_⟩, fun z => absurd rfl z⟩)
    · rw [if_pos hh] at H
      exact H (by omega)
    · rw [if_neg (by omega), if_pos hh] at H
      exact H (by omega)
    · rw [if_neg hh, if_neg hh2] at H0 H1
      exact m_numberInBook h hs hB (fun z => ⟨_, rfl, H0 rfl z⟩) (fun b b0 b1 e f => ⟨_, rfl, H1 rfl b b0 b1 e f⟩)
  · rw [if_neg n0, if_neg (fun z => i2 hz ⟨z.1, z.2.1⟩)] at H
    exact H (by omega)
  · rw [if_pos (by omega)] at H
    exact H (by omega)
set_option maxHeartbeats 1000000 in
theorem m_note {d : Nat} {D n s : Int} {S : Hp} {Q : Vl → Hp → Prop} (h : DW S D) (hN : zG S D 1 = n) (hB : 0 ≤ zG S D 16 ∧ zG S D 16 ≤ 7) (H : rfE n s True (zG S (D + 3) s) ≠ 0 → Q (0, rfE n s True (zG S (D + 3) s)) S) (H1 : rfE n s True (zG S (D + 3) s) = 0 → ∀ b, 0 ≤ b → b < zG S D 16 → bkEq S D s b → (∀ a, 0 ≤ a → a < b → ¬ bkEq S D s a) → Q (0, b) S) (H2 : rfE n s True (zG S (D + 3) s) = 0 → (∀ b, 0 ≤ b → b < zG S D 16 → ¬ bkEq S D s b) → zG S D 16 = 7 → Q (0, -4) S) (H3 : rfE n s True (zG S (D + 3) s) = 0 → (∀ b, 0 ≤ b → b < zG S D 16 → ¬ bkEq S D s b) → zG S D 16 < 7 → ∀ S', Md (fun x => x = D ∨ x = D + 10 ∨ x = D + 11 ∨ x = D + 12) S S' → DW S' D → (∀ i, zG S' D i = if i = 16 then zG S D 16 + 1 else zG S D i) → (∀ i, zG S' (D + 11) i = if i = zG S D 16 then zG S (D + 5) s else zG S (D + 11) i) → (∀ i, zG S' (D + 12) i = if i = zG S D 16 then zG S (D + 6) s else zG S (D + 12) i) → (∀ x, zG S' (D + 10) x = if 124 * zG S D 16 ≤ x ∧ x < 124 * zG S D 16 + 124 then zG S (D + 4) (124 * s + (x - 124 * zG S D 16)) else zG S (D + 10) x) → Q (0, zG S D 16) S') : Ev (d + 3) 271 [(2, D), (0, s)] S Q := by
  apply w_Model_note_0
  refine ⟨h.1, m_find h hN hB (fun z => ⟨_, rfl, fun y => ?_, fun y => H z⟩) (fun z nb => ⟨_, rfl, fun _ => ⟨h.1, fun b7 => ?_, fun b7 => H2 z nb (Decidable.not_not.mp b7)⟩, fun y => absurd rfl y⟩) (fun z b b0 b1 e f => ⟨_, rfl, fun y => by omega, fun _ => H1 z b b0 b1 e f⟩)⟩
  · exfalso
    rcases rfE_cases (n := n) (s := s) (h := zG S (D + 3) s) (f := True) with ⟨_, q⟩ | ⟨_, _, q⟩ | ⟨_, _, q⟩
    · omega
    · omega
    · rw [q] at y
      by_cases q1 : zG S (D + 3) s = 0
      · rw [if_pos q1] at y
        omega
      · rw [if_neg q1] at y
        by_cases q2 : zG S (D + 3) s = 2
        · rw [if_pos q2] at y
          omega
        · rw [if_neg q2] at y
          omega
  · have hs : 0 ≤ s ∧ s < 6 := by
      rcases rfE_cases (n := n) (s := s) (h := zG S (D + 3) s) (f := True) with ⟨_, q⟩ | ⟨_, _, q⟩ | ⟨_, q, _⟩
      · omega
      · omega
      · exact ⟨q.1, q.2.1⟩
    have H3 := H3 z nb (by omega)
    clear H H1 H2
    generalize hb : zG S D 16 = b at *
    refine loopU (P := fun k S' => At (d + 3) 271 c271_28 [(0, (2, D)), (1, (0, s)), (3, (0, k))] [] S' Q) (I := fun k S' => 0 ≤ k ∧ Md (fun x => x = D + 10) S S' ∧ ∀ x, zG S' (D + 10) x = if 124 * b ≤ x ∧ x < 124 * b + k then zG S (D + 4) (124 * s + (x - 124 * b)) else zG S (D + 10) x) 124 ?_ ?_ 0 S (by omega) ⟨by omega, Md.refl _ _, fun x => by rw [if_neg (by omega)]⟩
    · rintro k S1 hk ⟨k0, m1, v1⟩ hnx
      have w1 : DW S1 D := h.md m1 (by omega)
      have b1 : zG S1 D 16 = b := (m1.G (by omega) 16).trans hb
      apply w_Model_note_28
      rw [w1.x_parts.1, w1.x_parts.2.1, w1.x_parts.2.2, w1.x_bookParts.1, w1.x_bookParts.2.1, w1.x_bookParts.2.2, b1, w32_id (x := 124 * b) (by omega) (by omega), w32_id (x := 124 * s) (by omega) (by omega), w32_id (x := 124 * b + k) (by omega) (by omega), w32_id (x := 124 * s + k) (by omega) (by omega), m1.G (a := D + 4) (by omega)]
      refine ⟨fun hc => by omega, fun _ => ⟨w1.1, w1.1, w1.1, ⟨rfl, by omega, by omega⟩, ⟨rfl, by omega, by omega⟩, ?_⟩⟩
      rintro _ rfl _ rfl
      rw [w32_id (by omega) (by omega)]
      refine hnx _ ⟨by omega, m1.tr (Md.zS _ _ _ _), fun x => ?_⟩
      by_cases q : x = 124 * b + k
      · rw [q, zG_zS_at, if_pos (by omega), show 124 * b + k - 124 * b = k by omega]
      · rw [zG_zS_ne _ (Or.inr q), v1 x]
        by_cases q2 : 124 * b ≤ x ∧ x < 124 * b + k
        · rw [if_pos q2, if_pos (by omega)]
        · rw [if_neg q2, if_neg (by omega)]
    · rintro S1 ⟨-, m1, v1⟩
      have w1 : DW S1 D := h.md m1 (by omega)
      have b1 : zG S1 D 16 = b := (m1.G (by omega) 16).trans hb
      apply w_Model_note_28
      rw [w1.x_under.1, w1.x_under.2.1, w1.x_under.2.2, w1.x_bookUnder.1, w1.x_bookUnder.2.1, w1.x_bookUnder.2.2, b1]
      refine ⟨fun _ => ⟨w1.1, w1.1, w1.1, ⟨rfl, by omega, by omega⟩, ⟨rfl, by omega, by omega⟩, ?_⟩, fun hc => absurd (Int.le_refl 124) hc⟩
      rintro _ rfl
      have w2 : DW (zS S1 (D + 11) b (zG S1 (D + 5) s)) D := w1.zSr (by omega)
      have b2 : zG (zS S1 (D + 11) b (zG S1 (D + 5) s)) D 16 = b := by rw [zG_zS_ne _ (Or.inl (by omega))]; exact b1
      rw [w2.x_places.1, w2.x_places.2.1, w2.x_places.2.2, w2.x_bookPlaces.1, w2.x_bookPlaces.2.1, w2.x_bookPlaces.2.2, b2]
      refine ⟨w2.1, w2.1, w2.1, ⟨rfl, by omega, by omega⟩, ⟨rfl, by omega, by omega⟩, ?_⟩
      rintro _ rfl
      have m3 : Md (fun x => x = D ∨ x = D + 10 ∨ x = D + 11 ∨ x = D + 12) S (zS (zS S1 (D + 11) b (zG S1 (D + 5) s)) (D + 12) b (zG (zS S1 (D + 11) b (zG S1 (D + 5) s)) (D + 6) s)) := ((m1.wide (fun x hx => by omega)).tr ((Md.zS _ _ _ _).wide (fun x hx => by omega))).tr ((Md.zS _ _ _ _).wide (fun x hx => by omega))
      have w3 : DW (zS (zS S1 (D + 11) b (zG S1 (D + 5) s)) (D + 12) b (zG (zS S1 (D + 11) b (zG S1 (D + 5) s)) (D + 6) s)) D := w2.zSr (by omega)
      have o3 : ∀ i, zG (zS (zS S1 (D + 11) b (zG S1 (D + 5) s)) (D + 12) b (zG (zS S1 (D + 11) b (zG S1 (D + 5) s)) (D + 6) s)) D i = zG S D i := fun i => by
        rw [zG_zS_ne _ (Or.inl (by omega)), zG_zS_ne _ (Or.inl (by omega)), m1.G (by omega)]
      have g11 : ∀ i, zG (zS (zS S1 (D + 11) b (zG S1 (D + 5) s)) (D + 12) b (zG (zS S1 (D + 11) b (zG S1 (D + 5) s)) (D + 6) s)) (D + 11) i = if i = b then zG S (D + 5) s else zG S (D + 11) i := fun i => by
        rw [zG_zS_ne _ (Or.inl (by omega)), zG_zS]
        by_cases q : i = b
        · rw [if_pos ⟨rfl, q⟩, if_pos q, m1.G (by omega)]
        · rw [if_neg (fun z => q z.2), if_neg q, m1.G (by omega)]
      have g12 : ∀ i, zG (zS (zS S1 (D + 11) b (zG S1 (D + 5) s)) (D + 12) b (zG (zS S1 (D + 11) b (zG S1 (D + 5) s)) (D + 6) s)) (D + 12) i = if i = b then zG S (D + 6) s else zG S (D + 12) i := fun i => by
        rw [zG_zS]
        by_cases q : i = b
        · rw [if_pos ⟨rfl, q⟩, if_pos q, zG_zS_ne _ (Or.inl (by omega)), m1.G (by omega)]
        · rw [if_neg (fun z => q z.2), if_neg q, zG_zS_ne _ (Or.inl (by omega)), m1.G (by omega)]
      have g10 : ∀ x, zG (zS (zS S1 (D + 11) b (zG S1 (D + 5) s)) (D + 12) b (zG (zS S1 (D + 11) b (zG S1 (D + 5) s)) (D + 6) s)) (D + 10) x = zG S1 (D + 10) x := fun x => by
        rw [zG_zS_ne _ (Or.inl (by omega)), zG_zS_ne _ (Or.inl (by omega))]
      generalize zS (zS S1 (D + 11) b (zG S1 (D + 5) s)) (D + 12) b (zG (zS S1 (D + 11) b (zG S1 (D + 5) s)) (D + 6) s) = S3 at *
      rw [o3 16, hb]
      refine ⟨w3.1, w3.1, ?_⟩
      rintro _ rfl
      rw [zG_zS_at, w32_id (x := b + 1) (by omega) (by omega), w32_id (by omega) (by omega), show b + 1 - 1 = b by omega]
      refine ⟨w3.1, H3 _ (m3.tr ((Md.zS _ _ _ _).wide (fun x hx => Or.inl hx))) (w3.sc (by decide)) (fun i => ?_) (fun i => ?_) (fun i => ?_) (fun x => ?_)⟩
      · rw [zG_zS]
        by_cases q : i = 16
        · rw [if_pos ⟨rfl, q⟩, if_pos q]
        · rw [if_neg (fun z => q z.2), if_neg q, o3]
      · rw [zG_zS_ne _ (Or.inl (by omega)), g11]
      · rw [zG_zS_ne _ (Or.inl (by omega)), g12]
      · rw [zG_zS_ne _ (Or.inl (by omega)), g10, v1]
