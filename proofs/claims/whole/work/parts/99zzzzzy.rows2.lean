/-! Calls that write a shelf's row: put, copy. -/
theorem rfR_ok {s h : Int} (e : rfR s h = 0) : (0 ≤ s ∧ s < 6) ∧ h ≠ 0 ∧ h ≠ 1 := by
  unfold rfR at e
  by_cases q : 0 ≤ s ∧ s < 6
  · rw [if_pos q] at e
    by_cases a : h = 0
    · rw [if_pos a] at e
      omega
    · rw [if_neg a] at e
      by_cases b : h = 1
      · rw [if_pos b] at e
        omega
      · exact ⟨q, a, b⟩
  · rw [if_neg q] at e
    omega
/-- only the row of shelf s was written -/
theorem rel_row {S S' : Hp} {D v u p n g s : Int} {F Δ : Int → Int} (hD : 485 ≤ D) (kn : KNO p n g F Δ) (cl : CLS S v u p n g F Δ) (md : MDL S D p n g F Δ) (re : RES S D p n F) (hs : 0 ≤ s ∧ s < 6) (m : Md (fun x => x = 354 + 12 * s ∨ x = D + 9 ∨ x = D + 42) S S') (h9 : ∀ i, 0 ≤ i → i < 40 → zG S' (343 + 12 * s + 11) i = zG S' (D + 9) (40 * s + i) ∧ -9223372036854775808 ≤ zG S' (D + 9) (40 * s + i) ∧ zG S' (D + 9) (40 * s + i) < 9223372036854775808) (e : ∀ t, 0 ≤ t → t < 6 → t ≠ s → ∀ i, 0 ≤ i → i < 40 → zG S' (D + 9) (40 * t + i) = zG S (D + 9) (40 * t + i)) : Rel S' D := by
  obtain ⟨a1, a2, a3, a4, a5, a6, a7, a8⟩ := re.2.1 s hs.1 hs.2
  have g : ∀ x i, x ≠ 354 + 12 * s → x ≠ D + 9 → x ≠ D + 42 → zG S' x i = zG S x i := fun x i h1 h2 h3 => m.G (by omega) i
  refine rel_sh1 hD kn cl md re hs (m.wide (fun x hx => by omega)) ((cl.sw hs.1 hs.2).keep m (fun x x0 x1 => by omega)) ⟨?_, ?_, ?_, ?_, ?_, ?_, fun _ => h9, fun z => ?_⟩ (fun t t0 t1 q => ⟨g _ _ (by omega) (by omega) (by omega), g _ _ (by omega) (by omega) (by omega), g _ _ (by omega) (by omega) (by omega), e t t0 t1 q⟩) (fun z => ?_)
  · rw [g _ _ (by omega) (by omega) (by omega), g _ _ (by omega) (by omega) (by omega)]
    exact a1
  · rw [g _ _ (by omega) (by omega) (by omega)]
    exact a2
  · rw [g _ _ (by omega) (by omega) (by omega), g _ _ (by omega) (by omega) (by omega)]
    exact a3
  · rw [g _ _ (by omega) (by omega) (by omega)]
    exact a4
  · rw [g _ _ (by omega) (by omega) (by omega), g _ _ (by omega) (by omega) (by omega)]
    exact a5
  · rw [g _ _ (by omega) (by omega) (by omega)]
    exact a6
  · rw [g _ _ (by omega) (by omega) (by omega)] at z
    obtain ⟨x, W, w⟩ := a8 z
    exact ⟨x, W, w.keep m (fun x x0 x1 => by omega) (g _ _ (by omega) (by omega) (by omega)) (g _ _ (by omega) (by omega) (by omega)) (fun i _ _ => g _ _ (by omega) (by omega) (by omega))⟩
  · rw [g _ _ (by omega) (by omega) (by omega)] at z
    exact z
theorem r_put {d : Nat} {S : Hp} {D s i w : Int} (hD : 485 ≤ D) (hw : -9223372036854775808 ≤ w ∧ w < 9223372036854775808) (R : Rel S D) : TW (d + 20) 134 276 [(0, s), (0, i), (1, w)] S D := by
  obtain ⟨v, u, p, n, g, F, Δ, kn, cl, md, re⟩ := R
  have id0 := rel_id kn cl md re
  have sh := re.2.1
  have hZ : 0 ≤ s → s < 6 → 0 ≤ zG S (D + 8) s ∧ zG S (D + 8) s ≤ 40 := fun s0 s1 => (sh s s0 s1).2.2.2.2.2.1
  unfold TW
  apply w_Crc_put_0
  refine ⟨cl.1.1, s_rowRefusal cl sh ⟨_, rfl, fun z => ?_, fun z => ?_⟩⟩
  · obtain ⟨hs, h0, h1⟩ := rfR_ok z
    have sw := cl.sw hs.1 hs.2
    obtain ⟨a1, a2, a3, a4, a5, a6, a7, -⟩ := sh s hs.1 hs.2
    rw [cl.1.a6, cl.1.p6 s hs.1 hs.2]
    refine ⟨cl.1.1, ⟨cl.1.k68.1, hs.1, by rw [cl.1.k68.2]; exact hs.2⟩, ?_⟩
    rintro _ rfl
    rw [a5, a3]
    have no12 : ¬ (0 ≤ i ∧ i < zG S (D + 8) s) → Ev (d + 20) 276 [(2, D), (0, s), (0, i), (1, w)] S (fun r' S2 => r' = (0, -12) ∧ MID S S2 D ∧ Rel S2 D) := fun q => m_put md.1 hZ (fun q' => absurd z q') (fun _ _ => ⟨rfl, id0⟩) (fun _ q' => absurd q' q) (fun _ q' => absurd q' q)
    have fin : 0 ≤ i ∧ i < zG S (D + 8) s → ¬ (zG S (D + 7) s = 0 ∧ ¬ (-2147483648 ≤ w ∧ w ≤ 2147483647)) → At (d + 19 + 1) 134 c134_58 [(2, (0, i)), (3, (1, w)), (6, (2, 343 + 12 * s))] [] S (fun r S1 => ∃ x, r = (0, x) ∧ MID S S1 D ∧ Ev (d + 20) 276 [(2, D), (0, s), (0, i), (1, w)] S1 (fun r' S2 => r' = (0, x) ∧ MID S1 S2 D ∧ Rel S2 D)) := fun hi ok => by
      apply w_Crc_put_58
      rw [sw.2.2.2.1]
      refine ⟨sw.1, ⟨sw.2.2.2.2.1, hi.1, by rw [sw.2.2.2.2.2]; omega⟩, ?_⟩
      rintro _ rfl
      have M1 := Md.zS S (343 + 12 * s + 11) i w
      have dw1 : DW (zS S (343 + 12 * s + 11) i w) D := md.1.md M1 (by omega)
      have mi : MID S (zS S (343 + 12 * s + 11) i w) D := mid_md M1 cl.1.1 md.1.1 (by omega)
      have f : ∀ x j, x ≠ 343 + 12 * s + 11 → zG (zS S (343 + 12 * s + 11) i w) x j = zG S x j := fun x j hx => M1.G hx j
      refine ⟨_, rfl, mi, m_put dw1 (by rw [f _ _ (by omega)]; exact hZ) (fun q => ?_) (fun _ q => ?_) (fun _ _ q => ?_) (fun _ _ _ => ⟨rfl, mid_md (Md.zS _ _ _ _) mi.1 mi.2.1 (by omega), ?_⟩)⟩
      · rw [f _ _ (by omega)] at q
        exact absurd z q
      · rw [f _ _ (by omega)] at q
        exact absurd hi q
      · rw [f _ _ (by omega)] at q
        exact absurd q ok
      · have M2 := Md.zS (zS S (343 + 12 * s + 11) i w) (D + 9) (40 * s + i) w
        refine rel_row hD kn cl md re hs ((M1.wide (fun x hx => by omega)).tr (M2.wide (fun x hx => by omega))) (fun k k0 k1 => ?_) (fun t t0 t1 q k k0 k1 => ?_)
        · rw [M2.G (by omega)]
          by_cases q : k = i
          · subst q
            rw [zG_zS_at, zG_zS_at]
            omega
          · rw [zG_zS_ne _ (Or.inr q), zG_zS_ne _ (Or.inr (by omega)), f _ _ (by omega)]
            exact a7 (by omega) k k0 k1
        · rw [zG_zS_ne _ (Or.inr (by omega))]
          exact f _ _ (by omega)
    refine ⟨fun _ => sw.1, fun q => ⟨_, rfl, id0.1, no12 (by omega)⟩, fun q => ⟨sw.1, fun q2 => ?_, fun q3 => ?_⟩⟩
    · refine fin (by omega) (fun q' => ?_)
      rcases q2 with q2 | q2
      · exact q2 q'.1
      · exact q'.2 (w32_eq.mp q2)
    · rw [w32_eq] at q3
      refine ⟨_, rfl, id0.1, m_put md.1 hZ (fun q' => absurd z q') (fun _ q' => by omega) (fun _ _ _ => ⟨rfl, id0⟩) (fun _ _ q' => absurd ⟨by omega, fun q4 => q3 (Or.inr q4)⟩ q')⟩
  · exact ⟨_, rfl, id0.1, m_put md.1 hZ (fun _ => ⟨rfl, id0⟩) (fun q => absurd q z) (fun q => absurd q z) (fun q => absurd q z)⟩
theorem r_copy {d : Nat} {S : Hp} {D s i t j l : Int} (hD : 485 ≤ D) (hi : -2147483648 ≤ i ∧ i < 2147483648) (hj : -2147483648 ≤ j ∧ j < 2147483648) (R : Rel S D) : TW (d + 20) 136 278 [(0, s), (0, i), (0, t), (0, j), (0, l)] S D := by
  obtain ⟨v, u, p, n, g, F, Δ, kn, cl, md, re⟩ := R
  have id0 := rel_id kn cl md re
  have sh := re.2.1
  have hZ : ∀ s, 0 ≤ s → s < 6 → 0 ≤ zG S (D + 8) s ∧ zG S (D + 8) s ≤ 40 := fun s s0 s1 => (sh s s0 s1).2.2.2.2.2.1
  unfold TW
  apply w_Crc_copy_0
  refine s_isShelf ⟨_, rfl, fun z => ?_, fun z => s_isShelf ⟨_, rfl, fun z2 => ?_, fun z2 => ?_⟩⟩
  · have z' := i0 z
    exact ⟨_, rfl, id0.1, m_copy md.1 hj hi hZ (fun _ => ⟨rfl, id0⟩) (fun q => absurd q.1 z') (fun q => absurd q.1 z') (fun q => absurd q.1 z') (fun q => absurd q.1 z')⟩
  · have hs : 0 ≤ s ∧ s < 6 := i1 z
    have ht : 0 ≤ t ∧ t < 6 := i1 z2
    have sw := cl.sw hs.1 hs.2
    have tw := cl.sw ht.1 ht.2
    obtain ⟨a1, a2, a3, a4, a5, a6, a7, -⟩ := sh s hs.1 hs.2
    obtain ⟨b1, b2, b3, b4, b5, b6, b7, -⟩ := sh t ht.1 ht.2
    rw [cl.1.a6, cl.1.p6 s hs.1 hs.2, cl.1.p6 t ht.1 ht.2]
    refine ⟨cl.1.1, ⟨cl.1.k68.1, hs.1, by rw [cl.1.k68.2]; exact hs.2⟩, ?_⟩
    rintro _ rfl
    refine ⟨cl.1.1, ⟨cl.1.k68.1, ht.1, by rw [cl.1.k68.2]; exact ht.2⟩, ?_⟩
    rintro _ rfl
    rw [a1, b1, a3, b3, a5, b5, sw.2.2.2.1, tw.2.2.2.1]
    refine ⟨sw.1, fun _ => tw.1, fun q => ?_, fun q => ⟨sw.1, fun _ => ⟨tw.1, fun _ => ⟨sw.1, tw.1⟩⟩, fun q2 => ?_, fun q2 => ⟨fun _ _ _ => ⟨sw.1, fun _ => tw.1⟩, fun q3 => ?_, fun q3 => ?_⟩⟩⟩
    · have q' : zG S (D + 3) s = 0 ∨ zG S (D + 3) t = 0 := by omega
      exact ⟨_, rfl, id0.1, m_copy md.1 hj hi hZ (fun q => absurd ⟨hs, ht⟩ q) (fun _ _ => ⟨rfl, id0⟩) (fun _ q => absurd q' q) (fun _ q => absurd q' q) (fun _ q => absurd q' q)⟩
    · have q' : zG S (D + 3) s = 1 ∨ zG S (D + 3) t = 1 ∨ zG S (D + 7) s ≠ zG S (D + 7) t := by omega
      exact ⟨_, rfl, id0.1, m_copy md.1 hj hi hZ (fun q => absurd ⟨hs, ht⟩ q) (fun _ w => by omega) (fun _ _ _ => ⟨rfl, id0⟩) (fun _ _ q => absurd q' q) (fun _ _ q => absurd q' q)⟩
    · have q' : ¬ (0 ≤ l ∧ 0 ≤ i ∧ 0 ≤ j ∧ l ≤ zG S (D + 8) s - i ∧ l ≤ zG S (D + 8) t - j) := by
        rintro ⟨x1, x2, x3, x4, x5⟩
        rw [w32_id (by omega) (by omega), w32_id (by omega) (by omega)] at q3
        omega
      exact ⟨_, rfl, id0.1, m_copy md.1 hj hi hZ (fun q => absurd ⟨hs, ht⟩ q) (fun _ w => by omega) (fun _ _ w => by omega) (fun _ _ _ _ => ⟨rfl, id0⟩) (fun _ _ _ q => absurd q q')⟩
    · have x1 : 0 ≤ l ∧ 0 ≤ i ∧ 0 ≤ j := by omega
      rw [w32_id (by omega) (by omega), w32_id (by omega) (by omega)] at q3
      refine ⟨sw.1, tw.1, ⟨⟨sw.2.2.2.2.1, tw.2.2.2.2.1⟩, by omega, by rw [sw.2.2.2.2.2]; omega, by rw [tw.2.2.2.2.2]; omega⟩, ?_⟩
      rintro _ rfl
      have M1 := Md_zC S (343 + 12 * s + 11) i (343 + 12 * t + 11) j l
      have f := zG_zC S (343 + 12 * s + 11) i (343 + 12 * t + 11) j l
      generalize zC S (343 + 12 * s + 11) i (343 + 12 * t + 11) j l = S1 at M1 f ⊢
      have dw1 : DW S1 D := md.1.md M1 (by omega)
      have mi : MID S S1 D := mid_md M1 cl.1.1 md.1.1 (by omega)
      have o : ∀ x y, x ≠ 343 + 12 * t + 11 → zG S1 x y = zG S x y := fun x y hx => M1.G hx y
      have g3 : zG S1 (D + 3) = zG S (D + 3) := funext fun y => o _ y (by omega)
      have g7 : zG S1 (D + 7) = zG S (D + 7) := funext fun y => o _ y (by omega)
      have g8 : zG S1 (D + 8) = zG S (D + 8) := funext fun y => o _ y (by omega)
      have g9 : zG S1 (D + 9) = zG S (D + 9) := funext fun y => o _ y (by omega)
      refine ⟨_, rfl, mi, m_copy dw1 hj hi (by rw [g8]; exact hZ) (fun q => absurd ⟨hs, ht⟩ q) (fun _ w => by rw [g3] at w; omega) (fun _ _ w => by rw [g3, g7] at w; omega) (fun _ _ _ w => by rw [g8] at w; omega) (fun _ _ _ _ S2 m2 dw2 e2 => ⟨rfl, mid_md m2 mi.1 mi.2.1 (by omega), ?_⟩)⟩
      rw [g9] at e2
      refine rel_row hD kn cl md re ht ((M1.wide (fun x hx => by omega)).tr (m2.wide (fun x hx => by omega))) (fun k k0 k1 => ?_) (fun r r0 r1 q k k0 k1 => ?_)
      · rw [m2.G (by omega), f, e2]
        by_cases q : j ≤ k ∧ k < j + l
        · have y := a7 (by omega) (i + (k - j)) (by omega) (by omega)
          rw [if_pos (show 40 * t + j ≤ 40 * t + k ∧ 40 * t + k < 40 * t + j + l by omega), show 40 * s + i + (40 * t + k - (40 * t + j)) = 40 * s + (i + (k - j)) by omega, if_pos ⟨rfl, q⟩]
          exact y
        · rw [if_neg (show ¬ (40 * t + j ≤ 40 * t + k ∧ 40 * t + k < 40 * t + j + l) by omega), if_neg (fun w => q w.2)]
          exact b7 (by omega) k k0 k1
      · rw [e2, if_neg (by omega)]
  · have z' := i2 z2
    exact ⟨_, rfl, id0.1, m_copy md.1 hj hi hZ (fun _ => ⟨rfl, id0⟩) (fun q => absurd q.2 z') (fun q => absurd q.2 z') (fun q => absurd q.2 z') (fun q => absurd q.2 z')⟩
