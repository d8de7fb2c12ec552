/-! The model: settles whole; takesUp, timesLine. -/
theorem stlR.from {D s n M c : Int} {G : Int → Int → Int} {S S1 S' : Hp} (h : stlR D s n M c G S1 S') (m1 : Md (fun x => x = D ∨ x = D + 41) S S1) (o1 : ∀ i, i ≠ 58 → zG S1 D i = zG S D i) : stlR D s n M c G S S' := by
  obtain ⟨h1, h2, h3, h4, h5, h6, h7, h8, h9⟩ := h
  refine ⟨(m1.wide (fun x hx => by omega)).tr h1, h2, fun i hi => (h3 i hi).trans (o1 i hi), fun i hi => ⟨?_, ?_, ?_⟩, h5, h6, h7, h8, fun x hx => ?_⟩
  · rw [(h4 i hi).1, m1.G (by omega)]
  · rw [(h4 i hi).2.1, m1.G (by omega)]
  · rw [(h4 i hi).2.2, m1.G (by omega)]
  · rw [h9 x hx, m1.G (by omega)]
theorem BR.re {S : Hp} {a w n p : Int} {F F' : Int → Int → Int} (h : BR S a w n p F) (e : ∀ b x, 0 ≤ b → b < n → F b x = F' b x) (z : ∀ b x, (x < 0 ∨ w ≤ x) → F' b x = 0) (bd : ∀ b x, 0 ≤ F' b x ∧ F' b x < p) : BR S a w n p F' := ⟨h.1, h.2.1, fun b i b0 b1 i0 i1 => (h.2.2.1 b i b0 b1 i0 i1).trans (e b i b0 b1), z, bd⟩
set_option maxHeartbeats 1000000 in
theorem m_settles0 {d : Nat} {D p n c s : Int} {Q : Vl → Hp → Prop} (h2 : 2 ≤ p ∧ p ≤ 7) (hn : 2 ≤ n ∧ n ≤ 4) (hc : 0 ≤ c ∧ c < p) (hs : 0 ≤ s ∧ s < 6) : ∀ (m : Nat) (S : Hp) (W : Int → Int → Int), m < 1000 → DW S D → zG S D 0 = p → zG S D 1 = n → zG S D 58 = m → zG S D 59 = c → BR S (D + 41) 100 7 p W → (∀ b x, n ≤ b → W b x = 0) → (((lwM p c 99 m W : Int) ≤ 20 ∧ ∀ j, 0 ≤ j → j < 4 → ∀ i, 30 < i → lwF p c 99 m W j i = 0) → ∀ S', stlR D s n (lwM p c 99 m W) c (lwF p c 99 m W) S S' → Q (0, lwM p c 99 m W) S') → (¬ ((lwM p c 99 m W : Int) ≤ 20 ∧ ∀ j, 0 ≤ j → j < 4 → ∀ i, 30 < i → lwF p c 99 m W j i = 0) → ∀ S', Md (fun x => x = D ∨ x = D + 41) S S' → DW S' D → (∀ i, i ≠ 58 → zG S' D i = zG S D i) → Q (0, -4) S') → At (d + 2) 249 c249_0 [(0, (2, D)), (1, (0, s))] [] S Q := by
  intro m
  induction m with
  | zero =>
    intro S W _ h hp hN h58 h59 hW zW H1 H0
    apply w_Model_settles_0
    rw [h58]
    refine ⟨h.1, fun _ => ?_, fun hz => absurd (show ((0 : Nat) : Int) ≤ 0 by decide) hz⟩
    exact m_settlesEnd (m := 0) h hN hn h58 (by omega) h59 hs hW zW H1 (fun z => H0 z S (Md.refl _ _) h (fun _ _ => rfl))
  | succ m ih =>
    intro S W hm h hp hN h58 h59 hW zW H1 H0
    apply w_Model_settles_0
    rw [h58]
    refine ⟨h.1, fun hz => by omega, fun _ => ⟨h.1, m_isDivisible h hp h2 hN hn h59 hc hW zW (fun hr => ⟨_, rfl, fun hz => by omega, fun _ => ?_⟩) (fun hr => ⟨_, rfl, fun _ => ?_, fun hz => absurd rfl hz⟩)⟩⟩
    · obtain ⟨eM, eF⟩ := lwM_yes (m := m) hr
      rw [eM, eF] at H1 H0
      refine loopU (P := fun j S' => At (d + 2) 249 c249_16 [(0, (2, D)), (1, (0, s)), (2, (0, j))] [] S' Q) (I := fun j S' => 0 ≤ j ∧ Md (fun x => x = D + 41) S S' ∧ BR S' (D + 41) 100 7 p (fun b => if 0 ≤ b ∧ b < j then dvR p c 99 W b else W b)) n ?_ ?_ 0 S (by omega) ⟨by omega, Md.refl _ _, hW.congr (fun b x => ?_)⟩
      · rintro j S1 hj ⟨j0, m1, b1⟩ hk
        have w1 : DW S1 D := h.md m1 (by omega)
        apply w_Model_settles_16
        rw [(m1.G (a := D) (by omega) 1).trans hN, (m1.G (a := D) (by omega) 59).trans h59, w1.x_work.1, w32_id (x := 100 * j) (by omega) (by omega)]
        refine ⟨w1.1, fun hc => by omega, fun _ => ⟨w1.1, w1.1, w1.1, m_dividesOut w1.1 ((m1.G (by omega) 0).trans hp) h2 (by omega) w1.x_work.2.1 (by rw [w1.x_work.2.2]; omega) (by omega) (by omega) hc (fun i i0 i1 => (b1.bd (by omega) i (by omega) (by omega)).2) ⟨rfl, ?_⟩⟩⟩
        rw [b1.row j0 (by omega), show (100 : Int) - 1 = 99 by omega, if_neg (fun z => Int.lt_irrefl j z.2)]
        rintro _ rfl
        rw [w32_id (by omega) (by omega)]
        have b2 := b1.set (k := j) (G := dvR p c 99 W j) (f := fun x => if 100 * j ≤ x ∧ x < 100 * j + 100 then qr p c (W j) 99 (x - 100 * j) else zG S1 (D + 41) x) j0 (by omega) (fun i i0 i1 => by
          (try dsimp only)
          rw [if_pos (by omega), show 100 * j + i - 100 * j = i by omega]
          unfold dvR
          rw [if_neg (by omega)]) (fun b i b0 b1 hb i0 i1 => by
          (try dsimp only)
          rw [if_neg (by omega)]) (fun i hi => by
          unfold dvR
          rcases hi with q | q
          · rw [if_pos q]
          · rw [if_neg (by omega), qr_top (by omega)]) (fun i => by
          unfold dvR
          split
          · omega
          · exact qr_bd (by omega) i)
        refine hk _ ⟨by omega, m1.tr (Md.zR _ _ _), b2.congr (fun b x => ?_)⟩
        by_cases q : b = j
        · rw [if_pos q, if_pos (by omega), q]
        · rw [if_neg q]
          by_cases q2 : 0 ≤ b ∧ b < j
          · rw [if_pos q2, if_pos (by omega)]
          · rw [if_neg q2, if_neg (by omega)]
      · rintro S1 ⟨-, m1, b1⟩
        have w1 : DW S1 D := h.md m1 (by omega)
        have o1 : ∀ i, zG S1 D i = zG S D i := fun i => m1.G (by omega) i
        apply w_Model_settles_16
        rw [o1 1, hN, o1 58, h58, w32_id (by omega) (by omega)]
        refine ⟨w1.1, fun _ => ⟨w1.1, w1.1, ?_⟩, fun hc => absurd (Int.le_refl n) hc⟩
        rintro _ rfl
        have M2 : Md (fun x => x = D ∨ x = D + 41) S (zS S1 D 58 (((m + 1 : Nat) : Int) - 1)) := (m1.wide (fun x hx => Or.inr hx)).tr ((Md.zS _ _ _ _).wide (fun x hx => Or.inl hx))
        have oo : ∀ i, i ≠ 58 → zG (zS S1 D 58 (((m + 1 : Nat) : Int) - 1)) D i = zG S D i := fun i hi => by
          rw [zG_zS_ne _ (Or.inr hi), o1]
        have zz : ∀ b x, n ≤ b → dvR p c 99 W b x = 0 := fun b x hb => by
          unfold dvR
          split
          · rfl
          · exact qr_0 (fun y => zW b y hb) _ (by omega) (by omega)
        have b2 : BR (zS S1 D 58 (((m + 1 : Nat) : Int) - 1)) (D + 41) 100 7 p (dvR p c 99 W) := (b1.re (fun b x b0 b1 => by
          by_cases q : b < n
          · rw [if_pos ⟨b0, q⟩]
          · rw [if_neg (fun y => q y.2), zz b x (by omega), zW b x (by omega)]) (fun b x hx => by
          unfold dvR
          rcases hx with q | q
          · rw [if_pos q]
          · rw [if_neg (by omega), qr_top (by omega)]) (fun b x => by
          unfold dvR
          split
          · omega
          · exact qr_bd (by omega) x)).keep (Md.zS _ _ _ _) (by omega)
        refine ih _ (dvR p c 99 W) (by omega) (w1.sc (by decide)) ((oo 0 (by omega)).trans hp) ((oo 1 (by omega)).trans hN) (by rw [zG_zS_at]; omega) ((oo 59 (by omega)).trans h59) b2 zz (fun ft S' r => H1 ft S' (r.from M2 oo)) (fun ft S' mm ww o => H0 ft S' (M2.tr mm) ww (fun i hi => (o i hi).trans (oo i hi)))
      · rw [if_neg (by omega)]
    · obtain ⟨eM, eF⟩ := lwM_no (m := m) hr
      rw [eM, eF] at H1 H0
      exact m_settlesEnd (m := ((m + 1 : Nat) : Int)) h hN hn h58 (by omega) h59 hs hW zW H1 (fun z => H0 z S (Md.refl _ _) h (fun _ _ => rfl))
theorem m_settles {d : Nat} {D p n c s m : Int} {S : Hp} {W : Int → Int → Int} {Q : Vl → Hp → Prop} (h2 : 2 ≤ p ∧ p ≤ 7) (hn : 2 ≤ n ∧ n ≤ 4) (hc : 0 ≤ c ∧ c < p) (hs : 0 ≤ s ∧ s < 6) (hm : 0 ≤ m ∧ m < 1000) (h : DW S D) (hp : zG S D 0 = p) (hN : zG S D 1 = n) (h58 : zG S D 58 = m) (h59 : zG S D 59 = c) (hW : BR S (D + 41) 100 7 p W) (zW : ∀ b x, n ≤ b → W b x = 0) (H1 : ((lwM p c 99 m.toNat W : Int) ≤ 20 ∧ ∀ j, 0 ≤ j → j < 4 → ∀ i, 30 < i → lwF p c 99 m.toNat W j i = 0) → ∀ S', stlR D s n (lwM p c 99 m.toNat W) c (lwF p c 99 m.toNat W) S S' → Q (0, lwM p c 99 m.toNat W) S') (H0 : ¬ ((lwM p c 99 m.toNat W : Int) ≤ 20 ∧ ∀ j, 0 ≤ j → j < 4 → ∀ i, 30 < i → lwF p c 99 m.toNat W j i = 0) → ∀ S', Md (fun x => x = D ∨ x = D + 41) S S' → DW S' D → (∀ i, i ≠ 58 → zG S' D i = zG S D i) → Q (0, -4) S') : Ev (d + 2) 249 [(2, D), (0, s)] S Q := by
  apply w_Model_settles_e
  exact m_settles0 h2 hn hc hs m.toNat S W (by omega) h hp hN (by omega) h59 hW zW H1 H0
/-- the elements on the shelves -/
def PT (S : Hp) (D p n : Int) (P : Int → Int → Int → Int) : Prop := ∀ s j i, 0 ≤ s → s < 6 → 0 ≤ j → j < 4 → 0 ≤ i → i < 31 → zG S (D + 4) (124 * s + 31 * j + i) = P s j i ∧ 0 ≤ P s j i ∧ P s j i < p
theorem m_wrongElement {d : Nat} {D s : Int} {S : Hp} {Q : Vl → Hp → Prop} (h : DW S D) (hs : 0 ≤ s ∧ s < 6) (H0 : zG S (D + 3) s = 0 → Q (0, -11) S) (H2 : zG S (D + 3) s = 2 → Q (0, -13) S) (H1 : zG S (D + 3) s ≠ 0 → zG S (D + 3) s ≠ 2 → Q (0, 0) S) : Ev d 251 [(2, D), (0, s)] S Q := by
  apply w_Model_wrongElement_0
  rw [h.x_holds.1, h.x_holds.2.1, h.x_holds.2.2]
  exact ⟨h.1, ⟨rfl, by omega, by omega⟩, fun z => ⟨h.1, ⟨rfl, by omega, by omega⟩, fun y => H1 z y, fun y => H2 (Decidable.not_not.mp y)⟩, fun z => H0 (Decidable.not_not.mp z)⟩
set_option maxHeartbeats 1000000 in
theorem m_takesUp {d : Nat} {D p n s : Int} {S : Hp} {P : Int → Int → Int} {Q : Vl → Hp → Prop} (h : DW S D) (hN : zG S D 1 = n) (hn : 2 ≤ n ∧ n ≤ 4) (h2 : 2 ≤ p ∧ p ≤ 7) (hs : 0 ≤ s ∧ s < 6) (hP : ∀ j i, 0 ≤ j → j < n → 0 ≤ i → i < 31 → zG S (D + 4) (124 * s + 31 * j + i) = P j i) (bP : ∀ j i, 0 ≤ P j i ∧ P j i < p) (H : ∀ S', Md (fun x => x = D ∨ x = D + 41) S S' → DW S' D → (∀ i, i ≠ 58 → i ≠ 59 → zG S' D i = zG S D i) → zG S' D 58 = zG S (D + 5) s → zG S' D 59 = zG S (D + 6) s → BR S' (D + 41) 100 7 p (fun b x => if 0 ≤ b ∧ b < n ∧ 0 ≤ x ∧ x < 31 then P b x else 0) → Q (3, 0) S') : Ev (d + 1) 250 [(2, D), (0, s)] S Q := by
  apply w_Model_takesUp_0
  rw [h.x_work.1]
  refine ⟨h.1, h.1, m_zeroB (w := 100) (n := 7) (p := p) h.x_work.2.1 h.x_work.2.2 (by omega) (by omega) (by omega) (by omega) (fun S1 m1 b1 => ⟨rfl, ?_⟩)⟩
  refine loopU (P := fun j S' => At (d + 1) 250 c250_10 [(0, (2, D)), (1, (0, s)), (2, (0, j))] [] S' Q) (I := fun j S' => 0 ≤ j ∧ Md (fun x => x = D + 41) S S' ∧ BR S' (D + 41) 100 7 p (fun b x => if 0 ≤ b ∧ b < j ∧ 0 ≤ x ∧ x < 31 then P b x else 0)) n ?_ ?_ 0 S1 (by omega) ⟨by omega, m1, b1.congr (fun b x => by rw [if_neg (by omega)])⟩
  · rintro j S2 hj ⟨j0, m2, b2⟩ hk
    apply w_Model_takesUp_10
    rw [(m2.G (a := D) (by omega) 1).trans hN]
    refine ⟨by rw [m2.K]; exact h.1, fun hc => by omega, fun _ => ?_⟩
    refine loopU (P := fun i S' => At (d + 1) 250 c250_20 [(0, (2, D)), (1, (0, s)), (2, (0, j)), (3, (0, i))] [] S' Q) (I := fun i S' => 0 ≤ i ∧ S' = zR S2 (D + 41) (fun x => if 100 * j ≤ x ∧ x < 100 * j + i then P j (x - 100 * j) else zG S2 (D + 41) x)) 31 ?_ ?_ 0 S2 (by omega) ⟨by omega, (zR_self S2 (D + 41)).symm.trans (zR_congr _ _ (fun x => by rw [if_neg (by omega)]))⟩
    · rintro i _ hi ⟨i0, rfl⟩ hk2
      have w3 : DW (zR S2 (D + 41) (fun x => if 100 * j ≤ x ∧ x < 100 * j + i then P j (x - 100 * j) else zG S2 (D + 41) x)) D := (h.md m2 (by omega)).zR (by omega)
      apply w_Model_takesUp_20
      rw [w3.x_parts.1, w3.x_work.1, w32_id (x := 124 * s) (by omega) (by omega), w32_id (x := 31 * j) (by omega) (by omega), w32_id (x := 124 * s + 31 * j) (by omega) (by omega), w32_id (x := 124 * s + 31 * j + i) (by omega) (by omega), w32_id (x := 100 * j) (by omega) (by omega), w32_id (x := 100 * j + i) (by omega) (by omega), w3.x_parts.2.1, w3.x_parts.2.2, w3.x_work.2.1, w3.x_work.2.2, zG_zR_ne _ (show D + 4 ≠ D + 41 by omega), m2.G (a := D + 4) (by omega), hP j i j0 hj i0 hi]
      refine ⟨fun hc => by omega, fun _ => ⟨w3.1, w3.1, ⟨rfl, by omega, by omega⟩, ⟨rfl, by omega, by omega⟩, ?_⟩⟩
      rintro _ rfl _ rfl
      rw [w32_id (by omega) (by omega), zS_zR]
      refine hk2 _ ⟨by omega, zR_congr _ _ (fun x => ?_)⟩
      by_cases q : x = 100 * j + i
      · rw [if_pos q, if_pos (by omega), show x - 100 * j = i by omega]
      · rw [if_neg q]
        by_cases q2 : 100 * j ≤ x ∧ x < 100 * j + i
        · rw [if_pos q2, if_pos (by omega)]
        · rw [if_neg q2, if_neg (by omega)]
    · rintro _ ⟨-, rfl⟩
      apply w_Model_takesUp_20
      refine ⟨fun _ => ?_, fun hc => absurd (Int.le_refl 31) hc⟩
      rintro _ rfl
      rw [w32_id (by omega) (by omega)]
      have b3 := b2.set (k := j) (G := fun x => if 0 ≤ x ∧ x < 31 then P j x else 0) (f := fun x => if 100 * j ≤ x ∧ x < 100 * j + 31 then P j (x - 100 * j) else zG S2 (D + 41) x) j0 (by omega) (fun i i0 i1 => by
        (try dsimp only)
        by_cases q : i < 31
        · rw [if_pos (by omega), if_pos ⟨i0, q⟩, show 100 * j + i - 100 * j = i by omega]
        · rw [if_neg (by omega), if_neg (by omega), b2.2.2.1 j i j0 (by omega) i0 i1]
          (try dsimp only)
          rw [if_neg (by omega)]) (fun b i b0 b1 hb i0 i1 => by
        (try dsimp only)
        rw [if_neg (by omega)]) (fun i hi => if_neg (by omega)) (fun i => by
        (try dsimp only)
        split
        · exact bP _ _
        · omega)
      refine hk _ ⟨by omega, m2.tr (Md.zR _ _ _), b3.congr (fun b x => ?_)⟩
      by_cases q : b = j
      · rw [if_pos q, q]
        by_cases q2 : 0 ≤ x ∧ x < 31
        · rw [if_pos q2, if_pos (by omega)]
        · rw [if_neg q2, if_neg (by omega)]
      · rw [if_neg q]
        by_cases q2 : 0 ≤ b ∧ b < j ∧ 0 ≤ x ∧ x < 31
        · rw [if_pos q2, if_pos (by omega)]
        · rw [if_neg q2, if_neg (by omega)]
  · rintro S2 ⟨-, m2, b2⟩
    have w2 : DW S2 D := h.md m2 (by omega)
    apply w_Model_takesUp_10
    rw [(m2.G (a := D) (by omega) 1).trans hN, w2.x_under.1, w2.x_under.2.1, w2.x_under.2.2]
    refine ⟨w2.1, fun _ => ⟨w2.1, ⟨rfl, by omega, by omega⟩, w2.1, ?_⟩, fun hc => absurd (Int.le_refl n) hc⟩
    rintro _ rfl
    have w3 : DW (zS S2 D 58 (zG S2 (D + 5) s)) D := w2.sc (by decide)
    rw [w3.x_places.1, w3.x_places.2.1, w3.x_places.2.2]
    refine ⟨w3.1, ⟨rfl, by omega, by omega⟩, w3.1, ?_⟩
    rintro _ rfl
    refine H _ (((m2.wide (fun x hx => Or.inr hx)).tr ((Md.zS _ _ _ _).wide (fun x hx => Or.inl hx))).tr ((Md.zS _ _ _ _).wide (fun x hx => Or.inl hx))) (w3.sc (by decide)) (fun i i1 i2 => ?_) ?_ ?_ ((b2.keep (Md.zS _ _ _ _) (by omega)).keep (Md.zS _ _ _ _) (by omega))
    · rw [zG_zS_ne _ (Or.inr i2), zG_zS_ne _ (Or.inr i1), m2.G (by omega)]
    · rw [zG_zS_ne _ (Or.inr (by omega)), zG_zS_at, m2.G (by omega)]
    · rw [zG_zS_at, zG_zS_ne _ (Or.inl (by omega)), m2.G (by omega)]
set_option maxHeartbeats 1000000 in
theorem m_timesLine {d : Nat} {D p c k o : Int} {S : Hp} {W : Int → Int → Int} {Q : Vl → Hp → Prop} (h : DW S D) (hp : zG S D 0 = p) (h2 : 2 ≤ p ∧ p ≤ 7) (hc : 0 ≤ c ∧ c < p) (hW : BR S (D + 41) 100 7 p W) (k0 : 0 ≤ k) (k1 : k < 7) (eo : o = 100 * k) (sW : W k 99 = 0) (H : ∀ S', Md (fun x => x = D + 41) S S' → BR S' (D + 41) 100 7 p (fun b => if b = k then fun x => (W k (x - 1) + (p - c) * W k x) % p else W b) → Q (3, 0) S') : Ev (d + 1) 254 [(2, D), (0, o), (0, c)] S Q := by
  have sW1 : ∀ x, x < 0 ∨ 100 ≤ x → W k x = 0 := fun x hx => hW.2.2.2.1 k x hx
  have bW := hW.2.2.2.2 k
  have vW := hW.2.2.1 k
  apply w_Model_timesLine_0
  refine loopD (P := fun e S' => At (d + 1) 254 c254_3 [(0, (2, D)), (1, (0, o)), (2, (0, c)), (3, (0, e))] [] S' Q) (I := fun e S' => e ≤ 99 ∧ S' = zR S (D + 41) (fun x => if o + e < x ∧ x < o + 100 then (W k (x - o - 1) + (p - c) * W k (x - o)) % p else zG S (D + 41) x)) 0 ?_ ?_ 99 S (by omega) ⟨by omega, (zR_self S (D + 41)).symm.trans (zR_congr _ _ (fun x => by rw [if_neg (by omega)]))⟩
  · rintro e _ he ⟨e1, rfl⟩ hk
    have w1 : DW (zR S (D + 41) (fun x => if o + e < x ∧ x < o + 100 then (W k (x - o - 1) + (p - c) * W k (x - o)) % p else zG S (D + 41) x)) D := h.zR (by omega)
    have v0 : zG S (D + 41) (o + e) = W k e := by rw [eo]; exact vW e k0 k1 he (by omega)
    have vp : (if e ≤ 0 then 0 else zG S (D + 41) (o + e - 1)) = W k (e - 1) := by
      by_cases q : e ≤ 0
      · rw [if_pos q, sW1 _ (Or.inl (by omega))]
      · rw [if_neg q, eo, show 100 * k + e - 1 = 100 * k + (e - 1) by omega]
        exact vW (e - 1) k0 k1 (by omega) (by omega)
    have b1 := bW e
    have b2 := bW (e - 1)
    have b3 := mul_b (x := c) (y := W k e) (by omega) (by omega)
    apply w_Model_timesLine_3
    rw [w1.x_work.1, w1.x_work.2.1, w1.x_work.2.2, w32_id (x := o + e) (by omega) (by omega), w32_id (x := o + e - 1) (by omega) (by omega), zG_zR_at, zG_zR_at, if_neg (show ¬ (o + e < o + e - 1 ∧ o + e - 1 < o + 100) by omega), if_neg (show ¬ (o + e < o + e ∧ o + e < o + 100) by omega), vp, v0]
    refine ⟨fun hc => by omega, fun _ => ⟨fun _ => ⟨w1.1, rfl, by omega, by omega⟩, ?_⟩⟩
    rintro _ rfl
    rw [w32_id (x := c * W k e) (by omega) (by omega), w32_id (by omega) (by omega)]
    refine ⟨w1.1, w1.1, ⟨rfl, by omega, by omega⟩, w1.1, m_mod w1.1 (by rw [zG_zR_ne _ (by omega)]; exact hp) h2 ⟨_, rfl, ⟨w1.x_work.2.1, by omega, by rw [w1.x_work.2.2]; omega⟩, ?_⟩⟩
    rintro _ rfl _ rfl
    rw [w32_id (by omega) (by omega), zS_zR]
    refine hk _ ⟨by omega, zR_congr _ _ (fun x => ?_)⟩
    by_cases q : x = o + e
    · rw [if_pos q, if_pos (by omega), show x - o - 1 = e - 1 by omega, show x - o = e by omega, Int.sub_mul, show W k (e - 1) + (p * W k e - c * W k e) = W k (e - 1) - c * W k e + p * W k e by omega, Int.add_mul_emod_self_left]
    · rw [if_neg q]
      by_cases q2 : o + e < x ∧ x < o + 100
      · rw [if_pos q2, if_pos (by omega)]
      · rw [if_neg q2, if_neg (by omega)]
  · rintro _ ⟨-, rfl⟩
    apply w_Model_timesLine_3
    refine ⟨fun _ => H _ (Md.zR _ _ _) (hW.set (G := fun x => (W k (x - 1) + (p - c) * W k x) % p) k0 k1 (fun i i0 i1 => ?_) (fun b i b0 b1 hb i0 i1 => ?_) (fun i hi => ?_) (fun i => ⟨em_ge (by omega), em_lt (by omega)⟩)), fun hc => absurd (show (0 : Int) - 1 < 0 by decide) hc⟩
    · rw [if_pos (by omega), show 100 * k + i - o = i by omega]
    · rw [if_neg (by omega)]
    · (try dsimp only)
      have z1 : W k (i - 1) = 0 := by
        rcases Int.lt_or_le i 100 with q | q
        · exact sW1 _ (Or.inl (by omega))
        · by_cases q2 : i = 100
          · rw [q2]
            exact sW
          · exact sW1 _ (Or.inr (by omega))
      rw [z1, sW1 i hi, Int.mul_zero]
      rfl
