/-! The model: growsOne. -/
def gcF (p g j : Int) (l : Int) : Int := if 0 ≤ g then dgt p g l else if l = j then 1 else 0
def gbF (g : Int) : Int := if 0 ≤ g then 1 else 0
def gwS (b : Int) (c : Int → Int) (fig : Int → Int → Int → Int) (L i m : Int) : Int := sm L.toNat (fun l => if i ≤ l ∧ 0 ≤ m - b then c l * fig l i (m - b) else 0)
def gwV (p b : Int) (c : Int → Int) (fig : Int → Int → Int → Int) (L i m : Int) : Int := gwS b c fig L i m % p
/-- while b_l is added: parts below I, and of part I the numbers below M -/
def gwP (p b : Int) (c : Int → Int) (fig : Int → Int → Int → Int) (L I M i m : Int) : Int := if i ≤ L ∧ 0 ≤ m - b ∧ (i < I ∨ i = I ∧ m - b < M) then gwV p b c fig (L + 1) i m else gwV p b c fig L i m
theorem gwV_bd {p b L i m : Int} {c : Int → Int} {fig : Int → Int → Int → Int} (hp : 2 ≤ p) : 0 ≤ gwV p b c fig L i m ∧ gwV p b c fig L i m < p := ⟨em_ge (by omega), em_lt (by omega)⟩
theorem gwP_bd {p b L I M i m : Int} {c : Int → Int} {fig : Int → Int → Int → Int} (hp : 2 ≤ p) : 0 ≤ gwP p b c fig L I M i m ∧ gwP p b c fig L I M i m < p := by
  unfold gwP
  split
  · exact gwV_bd hp
  · exact gwV_bd hp
theorem gwS_step {b L i m : Int} {c : Int → Int} {fig : Int → Int → Int → Int} (hL : 0 ≤ L) : gwS b c fig (L + 1) i m = gwS b c fig L i m + (if i ≤ L ∧ 0 ≤ m - b then c L * fig L i (m - b) else 0) := by
  unfold gwS
  rw [show (L + 1).toNat = L.toNat + 1 by omega, sm_succ, show ((L.toNat : Nat) : Int) = L by omega]
set_option maxHeartbeats 2000000 in
theorem m_growsOne {d : Nat} {D p n k j g : Int} {S : Hp} {fig : Int → Int → Int → Int} {dp : Int → Int} {Q : Vl → Hp → Prop} (h : DW S D) (hp : zG S D 0 = p) (h2 : 2 ≤ p ∧ p ≤ 7) (hN : zG S D 1 = n) (hn : 2 ≤ n ∧ n ≤ 4) (hk : 0 ≤ k ∧ k < 19) (hj : 0 ≤ j ∧ j < n) (hd : DG S D k n p fig dp) (hdp : 0 ≤ dp j ∧ dp j ≤ 1000) (hg : zG S (D + 40) j = g) (gb : -1 ≤ g ∧ g < 100000) (H : ∀ S', Md (fun x => x = D + 32 ∨ x = D + 33) S S' → DW S' D → (∀ x, x ≠ 4 * (k + 1) + j → zG S' (D + 33) x = zG S (D + 33) x) → zG S' (D + 33) (4 * (k + 1) + j) = dp j + gbF g → (∀ i m, 0 ≤ i → i < n → 0 ≤ m → m < 21 → zG S' (D + 32) (84 * (4 * (k + 1) + j) + 21 * i + m) = gwV p (gbF g) (gcF p g j) fig (j + 1) i m) → (∀ x, ¬ (84 * (4 * (k + 1) + j) ≤ x ∧ x < 84 * (4 * (k + 1) + j) + 21 * n) → zG S' (D + 32) x = zG S (D + 32) x) → Q (3, 0) S') : Ev (d + 1) 226 [(2, D), (0, k), (0, j)] S Q := by
  apply w_Model_growsOne_0
  rw [h.x_gain.1, h.x_gain.2.1, h.x_gain.2.2, hg, h.x_depths.1, h.x_depths.2.1, h.x_depths.2.2, w32_id (x := 4 * k) (by omega) (by omega), w32_id (x := 4 * k + j) (by omega) (by omega), w32_id (x := 4 * k + 4) (by omega) (by omega), w32_id (x := 4 * k + 4 + j) (by omega) (by omega), hd.2 j hj.1 hj.2]
  refine ⟨h.1, ⟨rfl, by omega, by omega⟩, ?_⟩
  intro b hb
  have hb : b = gbF g := hb
  have b01 : 0 ≤ b ∧ b ≤ 1 := by
    rw [hb]
    unfold gbF
    split <;> omega
  rw [← hb] at H
  rw [w32_id (x := dp j + b) (by omega) (by omega)]
  refine ⟨h.1, h.1, ⟨rfl, by omega, by omega⟩, ⟨rfl, by omega, by omega⟩, ?_⟩
  rintro _ rfl
  have m1 : Md (fun x => x = D + 32 ∨ x = D + 33) S (zS S (D + 33) (4 * k + 4 + j) (dp j + b)) := (Md.zS _ _ _ _).wide (fun x hx => Or.inr hx)
  have w1 : DW (zS S (D + 33) (4 * k + 4 + j) (dp j + b)) D := h.zSr (by omega)
  have e33 : zG (zS S (D + 33) (4 * k + 4 + j) (dp j + b)) (D + 33) (4 * (k + 1) + j) = dp j + b := by
    rw [show 4 * (k + 1) + j = 4 * k + 4 + j by omega, zG_zS_at]
  have o33 : ∀ x, x ≠ 4 * (k + 1) + j → zG (zS S (D + 33) (4 * k + 4 + j) (dp j + b)) (D + 33) x = zG S (D + 33) x := fun x hx => zG_zS_ne _ (Or.inr (by omega))
  have g32 : ∀ x, zG (zS S (D + 33) (4 * k + 4 + j) (dp j + b)) (D + 32) x = zG S (D + 32) x := fun x => zG_zS_ne _ (Or.inl (by omega))
  generalize zS S (D + 33) (4 * k + 4 + j) (dp j + b) = S1 at *
  obtain ⟨o, ho⟩ : ∃ o, o = 84 * (4 * (k + 1) + j) := ⟨_, rfl⟩
  rw [← ho] at H
  have dold : ∀ l i m, 0 ≤ l → l < n → 0 ≤ i → i < 4 → 0 ≤ m → m < 21 → zG S (D + 32) (84 * (4 * k + l) + 21 * i + m) = fig l i m ∧ 0 ≤ fig l i m ∧ fig l i m < p := hd.1
  -- zero first
  refine loopU (P := fun i S' => At (d + 1) 226 c226_42 [(0, (2, D)), (1, (0, k)), (2, (0, j)), (3, (0, b)), (4, (0, i))] [] S' Q) (I := fun i S' => 0 ≤ i ∧ Md (fun x => x = D + 32) S1 S' ∧ (∀ a m, 0 ≤ a → a < i → 0 ≤ m → m < 21 → zG S' (D + 32) (o + 21 * a + m) = 0) ∧ ∀ x, ¬ (o ≤ x ∧ x < o + 21 * n) → zG S' (D + 32) x = zG S (D + 32) x) n ?_ ?_ 0 S1 (by omega) ⟨by omega, Md.refl _ _, fun a m a0 a1 => by omega, fun x _ => g32 x⟩
  · rintro i S2 hi ⟨i0, m2, v2, o2⟩ hk1
    have w2 : DW S2 D := w1.md m2 (by omega)
    apply w_Model_growsOne_42
    rw [(m2.G (a := D) (by omega) 1).trans ((m1.G (a := D) (by omega) 1).trans hN)]
    refine ⟨w2.1, fun z => by omega, fun _ => ?_⟩
    refine loopU (P := fun m S' => At (d + 1) 226 c226_54 [(0, (2, D)), (1, (0, k)), (2, (0, j)), (3, (0, b)), (4, (0, i)), (5, (0, m))] [] S' Q) (I := fun m S' => 0 ≤ m ∧ Md (fun x => x = D + 32) S1 S' ∧ (∀ a e, 0 ≤ a → 0 ≤ e → e < 21 → (a < i ∨ a = i ∧ e < m) → zG S' (D + 32) (o + 21 * a + e) = 0) ∧ ∀ x, ¬ (o ≤ x ∧ x < o + 21 * n) → zG S' (D + 32) x = zG S (D + 32) x) 21 ?_ ?_ 0 S2 (by omega) ⟨by omega, m2, fun a e a0 e0 e1 ae => v2 a e a0 (by omega) e0 e1, o2⟩
    · rintro m S3 hm ⟨m0, m3, v3, o3⟩ hk2
      have w3 : DW S3 D := w1.md m3 (by omega)
      apply w_Model_growsOne_54
      rw [w32_id (x := k + 1) (by omega) (by omega)]
      refine ⟨fun z => by omega, fun _ => ⟨w3.1, w3.1, m_digitAt (by omega) (by omega) (by omega) (by omega) ⟨_, rfl, ?_⟩⟩⟩
      rw [w3.x_digits.1, w3.x_digits.2.1, w3.x_digits.2.2, ← ho]
      refine ⟨⟨rfl, by omega, by omega⟩, ?_⟩
      rintro _ rfl _ rfl
      rw [w32_id (by omega) (by omega)]
      refine hk2 _ ⟨by omega, m3.tr (Md.zS _ _ _ _), fun a e a0 e0 e1 ae => ?_, fun x hx => ?_⟩
      · by_cases q : o + 21 * a + e = o + 21 * i + m
        · rw [q, zG_zS_at]
        · rw [zG_zS_ne _ (Or.inr q)]
          exact v3 a e a0 e0 e1 (by omega)
      · rw [zG_zS_ne _ (Or.inr (by omega))]
        exact o3 x hx
    · rintro S3 ⟨-, m3, v3, o3⟩
      apply w_Model_growsOne_54
      refine ⟨fun _ => ?_, fun z => absurd (Int.le_refl 21) z⟩
      rintro _ rfl
      rw [w32_id (by omega) (by omega)]
      exact hk1 _ ⟨by omega, m3, fun a m a0 a1 m0 m1 => v3 a m a0 m0 m1 (by omega), o3⟩
  · rintro S2 ⟨-, m2, v2, o2⟩
    apply w_Model_growsOne_42
    rw [(m2.G (a := D) (by omega) 1).trans ((m1.G (a := D) (by omega) 1).trans hN)]
    refine ⟨by rw [m2.K]; exact w1.1, fun _ => ?_, fun z => absurd (Int.le_refl n) z⟩
    have ec : gcF p g j = fun l => if b = 0 then (if l = j then 1 else 0) else dgt p g l := funext fun l => by
      unfold gcF
      rw [hb]
      unfold gbF
      by_cases q : 0 ≤ g
      · rw [if_pos q, if_pos q, if_neg (by omega)]
      · rw [if_neg q, if_neg q, if_pos rfl]
    have g0 : b ≠ 0 → 0 ≤ g := fun z => by
      rw [hb] at z
      unfold gbF at z
      by_cases q : 0 ≤ g
      · exact q
      · rw [if_neg q] at z
        omega
    generalize gcF p g j = c at *
    have cb : ∀ l, 0 ≤ c l ∧ c l < p := fun l => by
      rw [ec]
      (try dsimp only)
      split
      · split <;> omega
      · exact dgt_bd h2.1
    refine loopU (P := fun l S' => At (d + 1) 226 c226_94 [(0, (2, D)), (1, (0, k)), (2, (0, j)), (3, (0, b)), (4, (0, l))] [] S' Q) (I := fun l S' => 0 ≤ l ∧ Md (fun x => x = D + 32) S1 S' ∧ (∀ a m, 0 ≤ a → a < n → 0 ≤ m → m < 21 → zG S' (D + 32) (o + 21 * a + m) = gwV p b c fig l a m) ∧ ∀ x, ¬ (o ≤ x ∧ x < o + 21 * n) → zG S' (D + 32) x = zG S (D + 32) x) (j + 1) ?_ ?_ 0 S2 (by omega) ⟨by omega, m2, fun a m a0 a1 m0 m1 => by rw [v2 a m a0 a1 m0 m1]; rfl, o2⟩
    · rintro l S3 hl ⟨l0, m3, v3, o3⟩ hk1
      have w3 : DW S3 D := w1.md m3 (by omega)
      have p3 : zG S3 D 0 = p := (m3.G (by omega) 0).trans ((m1.G (by omega) 0).trans hp)
      -- after b_l
      have nxt : ∀ S4, Md (fun x => x = D + 32) S1 S4 → (∀ a m, 0 ≤ a → a < n → 0 ≤ m → m < 21 → zG S4 (D + 32) (o + 21 * a + m) = gwV p b c fig (l + 1) a m) → (∀ x, ¬ (o ≤ x ∧ x < o + 21 * n) → zG S4 (D + 32) x = zG S (D + 32) x) → At (d + 1) 226 c226_229 [(0, (2, D)), (1, (0, k)), (2, (0, j)), (3, (0, b)), (4, (0, l))] [] S4 Q := fun S4 m4 v4 o4 => by
        apply w_Model_growsOne_229
        rintro _ rfl
        rw [w32_id (by omega) (by omega)]
        exact hk1 _ ⟨by omega, m4, v4, o4⟩
      have go : At (d + 1) 226 c226_133 [(0, (2, D)), (1, (0, k)), (2, (0, j)), (3, (0, b)), (4, (0, l))] [(0, c l)] S3 Q := by
        apply w_Model_growsOne_133
        by_cases cz : c l = 0
        · apply w_Model_growsOne_138
          refine ⟨fun _ => nxt S3 m3 (fun a m a0 a1 m0 m1 => ?_) o3, fun z => absurd (Or.inr cz) z⟩
          rw [v3 a m a0 a1 m0 m1]
          unfold gwV
          rw [gwS_step l0, cz]
          simp
        · refine loopU (P := fun i S' => At (d + 1) 226 c226_138 [(0, (2, D)), (1, (0, k)), (2, (0, j)), (3, (0, b)), (4, (0, l)), (5, (0, c l)), (6, (0, i))] [] S' Q) (I := fun i S' => 0 ≤ i ∧ Md (fun x => x = D + 32) S1 S' ∧ (∀ a m, 0 ≤ a → a < n → 0 ≤ m → m < 21 → zG S' (D + 32) (o + 21 * a + m) = gwP p b c fig l i 0 a m) ∧ ∀ x, ¬ (o ≤ x ∧ x < o + 21 * n) → zG S' (D + 32) x = zG S (D + 32) x) (l + 1) ?_ ?_ 0 S3 (by omega) ⟨by omega, m3, fun a m a0 a1 m0 m1 => by rw [v3 a m a0 a1 m0 m1]; unfold gwP; rw [if_neg (by omega)], o3⟩
          · rintro i S4 hi ⟨i0, m4, v4, o4⟩ hk2
            apply w_Model_growsOne_138
            refine ⟨fun z => absurd z (by omega), fun _ => ?_⟩
            refine loopU (P := fun m S' => At (d + 1) 226 c226_153 [(0, (2, D)), (1, (0, k)), (2, (0, j)), (3, (0, b)), (4, (0, l)), (5, (0, c l)), (6, (0, i)), (7, (0, m))] [] S' Q) (I := fun m S' => 0 ≤ m ∧ Md (fun x => x = D + 32) S1 S' ∧ (∀ a e, 0 ≤ a → a < n → 0 ≤ e → e < 21 → zG S' (D + 32) (o + 21 * a + e) = gwP p b c fig l i m a e) ∧ ∀ x, ¬ (o ≤ x ∧ x < o + 21 * n) → zG S' (D + 32) x = zG S (D + 32) x) (21 - b) ?_ ?_ 0 S4 (by omega) ⟨by omega, m4, v4, o4⟩
            · rintro m S5 hm ⟨m0, m5, v5, o5⟩ hk3
              have w5 : DW S5 D := w1.md m5 (by omega)
              have vo := v5 i (m + b) i0 (by omega) (by omega) (by omega)
              have vp : gwP p b c fig l i m i (m + b) = gwV p b c fig l i (m + b) := by
                unfold gwP
                rw [if_neg (by omega)]
              rw [vp] at vo
              have bo := gwV_bd (b := b) (L := l) (i := i) (m := m + b) (c := c) (fig := fig) h2.1
              have dl := dold l i m l0 (by omega) i0 (by omega) m0 (by omega)
              have dv : zG S5 (D + 32) (84 * (4 * k + l) + 21 * i + m) = fig l i m := by
                rw [o5 _ (by omega)]
                exact dl.1
              have cb' := cb l
              have mb := mul_b (x := c l) (y := fig l i m) (by omega) (by omega)
              apply w_Model_growsOne_153
              rw [w32_id (x := m + b) (by omega) (by omega), w32_id (x := k + 1) (by omega) (by omega)]
              refine ⟨fun z => by omega, fun _ => ⟨w5.1, m_digitAt (by omega) (by omega) (by omega) (by omega) ⟨_, rfl, w5.1, w5.1, ?_⟩⟩⟩
              rw [w5.x_digits.1, w5.x_digits.2.1, w5.x_digits.2.2, ← ho, show o + 21 * i + (m + b) = o + 21 * i + (m + b) from rfl, vo]
              refine ⟨⟨rfl, by omega, by omega⟩, w5.1, w5.1, m_digitAt (by omega) (by omega) (by omega) (by omega) ⟨_, rfl, ⟨w5.x_digits.2.1, by omega, by rw [w5.x_digits.2.2]; omega⟩, w5.1, ?_⟩⟩
              rw [dv, (m5.G (a := D) (by omega) 0).trans ((m1.G (a := D) (by omega) 0).trans hp), w32_id (x := c l * fig l i m) (by omega) (by omega), w32_id (by omega) (by omega), tm_nn (by omega)]
              refine ⟨by omega, ⟨w5.x_digits.2.1, by omega, by rw [w5.x_digits.2.2]; omega⟩, ?_⟩
              rintro _ rfl _ rfl
              rw [w32_id (by omega) (by omega)]
              refine hk3 _ ⟨by omega, m5.tr (Md.zS _ _ _ _), fun a e a0 a1 e0 e1 => ?_, fun x hx => ?_⟩
              · by_cases q : a = i ∧ e = m + b
                · rw [q.1, q.2, zG_zS_at]
                  unfold gwP
                  rw [if_pos (by omega)]
                  unfold gwV
                  rw [gwS_step l0, if_pos (by omega), show m + b - b = m by omega, Int.emod_add_emod]
                · rw [zG_zS_ne _ (Or.inr (by omega)), v5 a e a0 a1 e0 e1]
                  unfold gwP
                  by_cases q2 : a ≤ l ∧ 0 ≤ e - b ∧ (a < i ∨ a = i ∧ e - b < m)
                  · rw [if_pos q2, if_pos (by omega)]
                  · rw [if_neg q2, if_neg (by omega)]
              · rw [zG_zS_ne _ (Or.inr (by omega))]
                exact o5 x hx
            · rintro S5 ⟨-, m5, v5, o5⟩
              apply w_Model_growsOne_153
              rw [w32_id (x := 21 - b + b) (by omega) (by omega)]
              refine ⟨fun _ => ?_, fun z => absurd (show 21 ≤ 21 - b + b by omega) z⟩
              rintro _ rfl
              rw [w32_id (by omega) (by omega)]
              refine hk2 _ ⟨by omega, m5, fun a m a0 a1 m0 m1 => ?_, o5⟩
              rw [v5 a m a0 a1 m0 m1]
              unfold gwP
              by_cases q2 : a ≤ l ∧ 0 ≤ m - b ∧ (a < i ∨ a = i ∧ m - b < 21 - b)
              · rw [if_pos q2, if_pos (by omega)]
              · rw [if_neg q2, if_neg (by omega)]
          · rintro S4 ⟨-, m4, v4, o4⟩
            apply w_Model_growsOne_138
            refine ⟨fun _ => nxt S4 m4 (fun a m a0 a1 m0 m1 => ?_) o4, fun z => absurd (Or.inl (show l < l + 1 by omega)) z⟩
            rw [v4 a m a0 a1 m0 m1]
            unfold gwP
            by_cases q2 : a ≤ l ∧ 0 ≤ m - b ∧ (a < l + 1 ∨ a = l + 1 ∧ m - b < 0)
            · rw [if_pos q2]
            · rw [if_neg q2]
              unfold gwV
              rw [gwS_step l0, if_neg (by omega), Int.add_zero]
      apply w_Model_growsOne_94
      rw [w3.x_gain.1, w3.x_gain.2.1, w3.x_gain.2.2, m3.G (a := D + 40) (by omega), m1.G (a := D + 40) (by omega), hg, p3]
      refine ⟨fun z => by omega, fun _ => ⟨fun bz => ⟨w3.1, ⟨rfl, by omega, by omega⟩, w3.1, m_numberIn h2 ⟨g0 bz, gb.2⟩ (by omega) ⟨_, rfl, ?_⟩⟩, fun bz => ⟨fun lj => ?_, fun lj => ?_⟩⟩⟩
      · have : c l = dgt p g l := by
          rw [ec]
          (try dsimp only)
          rw [if_neg bz]
        rw [← this]
        exact go
      · have : c l = 0 := by
          rw [ec]
          (try dsimp only)
          rw [if_pos (Decidable.not_not.mp bz), if_neg lj]
        rw [← this]
        exact go
      · have : c l = 1 := by
          rw [ec]
          (try dsimp only)
          rw [if_pos (Decidable.not_not.mp bz), if_pos (Decidable.not_not.mp lj)]
        rw [← this]
        exact go
    · rintro S3 ⟨-, m3, v3, o3⟩
      apply w_Model_growsOne_94
      refine ⟨fun _ => H S3 (m1.tr (m3.wide (fun x hx => Or.inl hx))) (w1.md m3 (by omega)) (fun x hx => (m3.G (by omega) x).trans (o33 x hx)) ((m3.G (by omega) _).trans e33) v3 o3, fun z => absurd (show j < j + 1 by omega) z⟩
