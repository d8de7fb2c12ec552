/-! The model: copy, loads, spills, the book. -/
set_option maxHeartbeats 1000000 in
theorem m_copy {d : Nat} {D s i t j n : Int} {S : Hp} {Q : Vl → Hp → Prop} (h : DW S D) (hj : -2147483648 ≤ j ∧ j < 2147483648) (hi : -2147483648 ≤ i ∧ i < 2147483648) (hZ : ∀ s, 0 ≤ s → s < 6 → 0 ≤ zG S (D + 8) s ∧ zG S (D + 8) s ≤ 40) (H0 : ¬ ((0 ≤ s ∧ s < 6) ∧ 0 ≤ t ∧ t < 6) → Q (0, -1) S) (H1 : (0 ≤ s ∧ s < 6) ∧ 0 ≤ t ∧ t < 6 → zG S (D + 3) s = 0 ∨ zG S (D + 3) t = 0 → Q (0, -11) S) (H2 : (0 ≤ s ∧ s < 6) ∧ 0 ≤ t ∧ t < 6 → ¬ (zG S (D + 3) s = 0 ∨ zG S (D + 3) t = 0) → zG S (D + 3) s = 1 ∨ zG S (D + 3) t = 1 ∨ zG S (D + 7) s ≠ zG S (D + 7) t → Q (0, -13) S) (H3 : (0 ≤ s ∧ s < 6) ∧ 0 ≤ t ∧ t < 6 → ¬ (zG S (D + 3) s = 0 ∨ zG S (D + 3) t = 0) → ¬ (zG S (D + 3) s = 1 ∨ zG S (D + 3) t = 1 ∨ zG S (D + 7) s ≠ zG S (D + 7) t) → ¬ (0 ≤ n ∧ 0 ≤ i ∧ 0 ≤ j ∧ n ≤ zG S (D + 8) s - i ∧ n ≤ zG S (D + 8) t - j) → Q (0, -12) S) (H4 : (0 ≤ s ∧ s < 6) ∧ 0 ≤ t ∧ t < 6 → ¬ (zG S (D + 3) s = 0 ∨ zG S (D + 3) t = 0) → ¬ (zG S (D + 3) s = 1 ∨ zG S (D + 3) t = 1 ∨ zG S (D + 7) s ≠ zG S (D + 7) t) → 0 ≤ n ∧ 0 ≤ i ∧ 0 ≤ j ∧ n ≤ zG S (D + 8) s - i ∧ n ≤ zG S (D + 8) t - j → ∀ S', Md (fun x => x = D + 9 ∨ x = D + 42) S S' → DW S' D → (∀ x, zG S' (D + 9) x = if 40 * t + j ≤ x ∧ x < 40 * t + j + n then zG S (D + 9) (40 * s + i + (x - (40 * t + j))) else zG S (D + 9) x) → Q (0, n) S') : Ev (d + 2) 278 [(2, D), (0, s), (0, i), (0, t), (0, j), (0, n)] S Q := by
  apply w_Model_copy_0
  refine m_isShelf ⟨_, rfl, fun hz => H0 (fun z => i0 hz z.1), fun hz1 => m_isShelf ⟨_, rfl, fun hz2 => ⟨h.1, ?_⟩, fun hz => H0 (fun z => i2 hz z.2)⟩⟩
  have hs := i1 hz1
  have ht := i1 hz2
  have H1 := H1 ⟨hs, ht⟩
  have H2 := H2 ⟨hs, ht⟩
  have H3 := H3 ⟨hs, ht⟩
  have H4 := H4 ⟨hs, ht⟩
  have zs := hZ s hs.1 hs.2
  have zt := hZ t ht.1 ht.2
  rw [h.x_holds.1, h.x_holds.2.1, h.x_holds.2.2, h.x_sorts.1, h.x_sorts.2.1, h.x_sorts.2.2, h.x_sizes.1, h.x_sizes.2.1, h.x_sizes.2.2]
  refine ⟨⟨rfl, by omega, by omega⟩, fun _ => ⟨h.1, rfl, by omega, by omega⟩, fun hz => H1 (by omega), fun hz => ⟨h.1, ⟨rfl, by omega, by omega⟩, fun _ => ⟨h.1, ⟨rfl, by omega, by omega⟩, fun _ => ⟨h.1, ⟨rfl, by omega, by omega⟩, h.1, rfl, by omega, by omega⟩⟩, fun hy => H2 (by omega) hy, fun hy => ⟨fun _ _ _ => ⟨h.1, ⟨rfl, by omega, by omega⟩, fun _ => ⟨h.1, rfl, by omega, by omega⟩⟩, fun hx => ?_, fun hx => ?_⟩⟩⟩
  · refine H3 (by omega) hy (fun z => ?_)
    rw [w32_id (x := zG S (D + 8) s - i) (by omega) (by omega), w32_id (x := zG S (D + 8) t - j) (by omega) (by omega)] at hx
    omega
  · have i0' : 0 ≤ n ∧ 0 ≤ i ∧ 0 ≤ j := by omega
    rw [w32_id (x := zG S (D + 8) s - i) (by omega) (by omega), w32_id (x := zG S (D + 8) t - j) (by omega) (by omega)] at hx
    have H4 := H4 (by omega) hy (by omega)
    clear H0 H1 H2 H3
    have b : 0 ≤ n ∧ 0 ≤ i ∧ 0 ≤ j ∧ n + i ≤ 40 ∧ n + j ≤ 40 := by omega
    refine loopU (P := fun k S' => At (d + 2) 278 c278_122 [(0, (2, D)), (1, (0, s)), (2, (0, i)), (3, (0, t)), (4, (0, j)), (5, (0, n)), (6, (0, k))] [] S' Q) (I := fun k S' => 0 ≤ k ∧ Md (fun x => x = D + 42) S S' ∧ ∀ e, 0 ≤ e → e < k → zG S' (D + 42) e = zG S (D + 9) (40 * s + i + e)) n ?_ ?_ 0 S (by omega) ⟨by omega, Md.refl _ _, fun e e0 e1 => by omega⟩
    · rintro k S1 hk ⟨k0, m1, v1⟩ hnx
      have w1 : DW S1 D := h.md m1 (by omega)
      apply w_Model_copy_122
      rw [w1.x_numbers.1, w1.x_numbers.2.1, w1.x_numbers.2.2, w1.x_lifted.1, w1.x_lifted.2.1, w1.x_lifted.2.2, w32_id (x := 40 * s) (by omega) (by omega), w32_id (x := 40 * s + i) (by omega) (by omega), w32_id (x := 40 * s + i + k) (by omega) (by omega), m1.G (a := D + 9) (by omega)]
      refine ⟨fun hc => by omega, fun _ => ⟨w1.1, w1.1, ⟨rfl, by omega, by omega⟩, ⟨rfl, by omega, by omega⟩, ?_⟩⟩
      rintro _ rfl _ rfl
      rw [w32_id (by omega) (by omega)]
      refine hnx _ ⟨by omega, m1.tr (Md.zS _ _ _ _), fun e e0 e1 => ?_⟩
      by_cases q : e = k
      · rw [q, zG_zS_at]
      · rw [zG_zS_ne _ (Or.inr q)]
        exact v1 e e0 (by omega)
    · rintro S1 ⟨-, m1, v1⟩
      apply w_Model_copy_122
      refine ⟨fun _ => ?_, fun hc => absurd (Int.le_refl n) hc⟩
      refine loopU (P := fun k S' => At (d + 2) 278 c278_159 [(0, (2, D)), (3, (0, t)), (4, (0, j)), (5, (0, n)), (6, (0, k))] [] S' Q) (I := fun k S' => 0 ≤ k ∧ Md (fun x => x = D + 9) S1 S' ∧ ∀ x, zG S' (D + 9) x = if 40 * t + j ≤ x ∧ x < 40 * t + j + k then zG S (D + 9) (40 * s + i + (x - (40 * t + j))) else zG S (D + 9) x) n ?_ ?_ 0 S1 (by omega) ⟨by omega, Md.refl _ _, fun x => by rw [if_neg (by omega)]; exact m1.G (by omega) x⟩
      · rintro k S2 hk ⟨k0, m2, v2⟩ hnx
        have w2 : DW S2 D := (h.md m1 (by omega)).md m2 (by omega)
        apply w_Model_copy_159
        rw [w2.x_numbers.1, w2.x_numbers.2.1, w2.x_numbers.2.2, w2.x_lifted.1, w2.x_lifted.2.1, w2.x_lifted.2.2, w32_id (x := 40 * t) (by omega) (by omega), w32_id (x := 40 * t + j) (by omega) (by omega), w32_id (x := 40 * t + j + k) (by omega) (by omega), m2.G (a := D + 42) (by omega), v1 k k0 hk]
        refine ⟨fun hc => by omega, fun _ => ⟨w2.1, w2.1, ⟨rfl, by omega, by omega⟩, ⟨rfl, by omega, by omega⟩, ?_⟩⟩
        rintro _ rfl _ rfl
        rw [w32_id (by omega) (by omega)]
        refine hnx _ ⟨by omega, m2.tr (Md.zS _ _ _ _), fun x => ?_⟩
        by_cases q : x = 40 * t + j + k
        · rw [q, zG_zS_at, if_pos (by omega), show 40 * s + i + (40 * t + j + k - (40 * t + j)) = 40 * s + i + k by omega]
        · rw [zG_zS_ne _ (Or.inr q), v2 x]
          by_cases q2 : 40 * t + j ≤ x ∧ x < 40 * t + j + k
          · rw [if_pos q2, if_pos (by omega)]
          · rw [if_neg q2, if_neg (by omega)]
      · rintro S2 ⟨-, m2, v2⟩
        apply w_Model_copy_159
        exact ⟨fun _ => H4 S2 ((m1.wide (fun x hx => Or.inr hx)).tr (m2.wide (fun x hx => Or.inl hx))) ((h.md m1 (by omega)).md m2 (by omega)) v2, fun hc => absurd (Int.le_refl n) hc⟩
/-- a row read as an element -/
def ldW (p m : Int) (r : Int → Int) : Int → Int → Int := fun j x => if 0 ≤ j ∧ 0 ≤ x ∧ x < 8 ∧ 8 * j + x < m then r (8 * j + x) % p else 0
set_option maxHeartbeats 1000000 in
theorem m_loads {d : Nat} {D p n s t : Int} {S : Hp} {Q : Vl → Hp → Prop} (h : DW S D) (hp : zG S D 0 = p) (h2 : 2 ≤ p ∧ p ≤ 7) (hN : zG S D 1 = n) (hn : n = 0 ∨ (2 ≤ n ∧ n ≤ 4)) (hZ : 0 ≤ s → s < 6 → 0 ≤ zG S (D + 8) s ∧ zG S (D + 8) s ≤ 40) (H0 : n = 0 → Q (0, -2) S) (H1 : n ≠ 0 → ¬ ((0 ≤ s ∧ s < 6) ∧ 0 ≤ t ∧ t < 6) → Q (0, -1) S) (H2 : n ≠ 0 → (0 ≤ s ∧ s < 6) ∧ 0 ≤ t ∧ t < 6 → rfR s (zG S (D + 3) s) ≠ 0 → Q (0, rfR s (zG S (D + 3) s)) S) (H3 : n ≠ 0 → (0 ≤ s ∧ s < 6) ∧ 0 ≤ t ∧ t < 6 → rfR s (zG S (D + 3) s) = 0 → ∀ S', shR D t 0 0 (ldW p (min (zG S (D + 8) s) (8 * n)) (fun x => zG S (D + 9) (40 * s + x))) S S' → Q (0, min (zG S (D + 8) s) (8 * n)) S') : Ev (d + 3) 279 [(2, D), (0, s), (0, t)] S Q := by
  apply w_Model_loads_0
  rw [hN]
  refine ⟨h.1, fun n0 => m_isShelf ⟨_, rfl, fun hz => H1 n0 (fun z => i0 hz z.1), fun hz1 => m_isShelf ⟨_, rfl, fun hz2 => ⟨h.1, ?_⟩, fun hz => H1 n0 (fun z => i2 hz z.2)⟩⟩, fun n0 => H0 (by omega)⟩
  have hs := i1 hz1
  have ht := i1 hz2
  have zs := hZ hs.1 hs.2
  have hn : 2 ≤ n ∧ n ≤ 4 := by omega
  have r11 : zK S (zG S D 11) = 101 ∧ 0 ≤ s ∧ s < zL S (zG S D 11) := by
    rw [h.x_sizes.1, h.x_sizes.2.1, h.x_sizes.2.2]
    exact ⟨rfl, by omega, by omega⟩
  refine m_wrongRow h hs ⟨_, rfl, fun hr => ⟨h.1, r11, h.1, fun _ => h.1, fun _ => ⟨h.1, r11⟩, ?_⟩, fun hr => H2 n0 ⟨hs, ht⟩ hr⟩
  have H3 := H3 n0 ⟨hs, ht⟩ hr
  intro m hm
  have hm : m = min (zG S (D + 8) s) (8 * n) := by
    rw [hm, h.x_sizes.1, hN, w32_id (by omega) (by omega)]
    split <;> omega
  rw [← hm] at H3
  have mb : 0 ≤ m ∧ m ≤ 8 * n ∧ m ≤ 40 := by omega
  clear hm H0 H1 H2
  rw [h.x_work.1]
  refine ⟨h.1, h.1, m_zeroB (w := 100) (n := 7) (p := p) h.x_work.2.1 h.x_work.2.2 (by omega) (by omega) (by omega) (by omega) (fun S1 m1 b1 => ⟨rfl, ?_⟩)⟩
  generalize hR : (fun x => zG S (D + 9) (40 * s + x)) = R at H3
  refine loopU (P := fun k S' => At (d + 3) 279 c279_83 [(0, (2, D)), (1, (0, s)), (2, (0, t)), (4, (0, m)), (5, (0, k))] [] S' Q) (I := fun k S' => 0 ≤ k ∧ Md (fun x => x = D + 41) S S' ∧ BR S' (D + 41) 100 7 p (ldW p k R)) m ?_ ?_ 0 S1 (by omega) ⟨by omega, m1, b1.congr (fun b x => ?_)⟩
  · rintro k S2 hk ⟨k0, m2, b2⟩ hnx
    have w2 : DW S2 D := h.md m2 (by omega)
    have rv : zG S2 (D + 9) (40 * s + k) = R k := by
      rw [m2.G (by omega), ← hR]
    apply w_Model_loads_83
    rw [w2.x_numbers.1, w2.x_numbers.2.1, w2.x_numbers.2.2, w32_id (x := 40 * s) (by omega) (by omega), w32_id (x := 40 * s + k) (by omega) (by omega), rv, w2.x_work.1]
    refine ⟨fun hc => by omega, fun _ => ⟨w2.1, by decide, by decide, w2.1, ⟨rfl, by omega, by omega⟩, w2.1, m_mod w2.1 ((m2.G (by omega) 0).trans hp) h2 ⟨_, rfl, ?_⟩⟩⟩
    rw [show k.tdiv 8 = k / 8 from Int.tdiv_eq_ediv_of_nonneg k0, tm_nn k0, w32_id (x := k / 8) (by omega) (by omega), w32_id (x := 100 * (k / 8)) (by omega) (by omega), w32_id (x := 100 * (k / 8) + k % 8) (by omega) (by omega)]
    refine ⟨⟨w2.x_work.2.1, by omega, by rw [w2.x_work.2.2]; omega⟩, ?_⟩
    rintro _ rfl _ rfl
    rw [w32_id (by omega) (by omega), zS_as_zR]
    have b3 := b2.set (k := k / 8) (G := ldW p (k + 1) R (k / 8)) (f := fun j => if j = 100 * (k / 8) + k % 8 then R k % p else zG S2 (D + 41) j) (by omega) (by omega) (fun i i0 i1 => by
      (try dsimp only)
      by_cases q : i = k % 8
      · rw [if_pos (by omega)]
        unfold ldW
        rw [if_pos (by omega), show 8 * (k / 8) + i = k by omega]
      · rw [if_neg (by omega), b2.2.2.1 (k / 8) i (by omega) (by omega) i0 i1]
        unfold ldW
        by_cases q2 : 0 ≤ k / 8 ∧ 0 ≤ i ∧ i < 8 ∧ 8 * (k / 8) + i < k
        · rw [if_pos q2, if_pos (by omega)]
        · rw [if_neg q2, if_neg (by omega)]) (fun b i b0 b1 hb i0 i1 => by
      (try dsimp only)
      rw [if_neg (by omega)]) (fun i hi => by
      unfold ldW
      rw [if_neg (by omega)]) (fun i => by
      unfold ldW
      split
      · exact ⟨em_ge (by omega), em_lt (by omega)⟩
      · omega)
    refine hnx _ ⟨by omega, m2.tr (Md.zR _ _ _), b3.congr (fun b x => ?_)⟩
    by_cases q : b = k / 8
    · rw [if_pos q, q]
    · rw [if_neg q]
      unfold ldW
      by_cases q2 : 0 ≤ b ∧ 0 ≤ x ∧ x < 8 ∧ 8 * b + x < k
      · rw [if_pos q2, if_pos (by omega)]
      · rw [if_neg q2, if_neg (by omega)]
  · rintro S2 ⟨-, m2, b2⟩
    have w2 : DW S2 D := h.md m2 (by omega)
    apply w_Model_loads_83
    refine ⟨fun _ => ⟨w2.1, ?_⟩, fun hc => absurd (Int.le_refl m) hc⟩
    rintro _ rfl
    refine ⟨w2.1, ?_⟩
    rintro _ rfl
    have f4 : nfR D S (zS (zS S2 D 58 0) D 59 0) := ⟨((m2.wide (fun x hx => Or.inr hx)).tr ((Md.zS _ _ _ _).wide (fun x hx => Or.inl hx))).tr ((Md.zS _ _ _ _).wide (fun x hx => Or.inl hx)), (w2.sc (by decide)).sc (by decide), fun i i1 i2 => by rw [zG_zS_ne _ (Or.inr i2), zG_zS_ne _ (Or.inr i1), m2.G (by omega)]⟩
    refine ⟨w2.1, m_settlesF (c := 0) (m := 0) h2 hn (by omega) ht (by omega) f4.2.1 ((f4.2.2 0 (by omega) (by omega)).trans hp) ((f4.2.2 1 (by omega) (by omega)).trans hN) (by rw [zG_zS_ne _ (Or.inr (by omega)), zG_zS_at]) (zG_zS_at _ _ _ _) ((b2.keep (Md.zS _ _ _ _) (by omega)).keep (Md.zS _ _ _ _) (by omega)) (fun b x hb => ?_) f4 ⟨fun ft S' r => ⟨_, rfl, ?_⟩, fun ft => absurd ⟨by show ((0 : Nat) : Int) ≤ 20; decide, fun j j0 j1 i hi => ?_⟩ ft⟩⟩
    · unfold ldW
      rw [if_neg (by omega)]
    · exact H3 S' r
    · show ldW p m R j i = 0
      unfold ldW
      rw [if_neg (by omega)]
  · unfold ldW
    rw [if_neg (by omega)]
