/-! The model: dividesEquation, whole, equation. -/
theorem okK_succ {p c T : Int} {k : Nat} {P : Int → Int} : okK p c T (k + 1) P ↔ okK p c T k P ∧ qr p c (dvK p c T k P) T (-1) = 0 := by
  constructor
  · intro h
    exact ⟨fun l hl => h l (by omega), h k (by omega)⟩
  · rintro ⟨h1, h2⟩ l hl
    rcases Nat.lt_or_ge l k with q | q
    · exact h1 l q
    · rw [show l = k by omega]
      exact h2
theorem dvK_bd {p c T : Int} {P : Int → Int} (hp : 0 < p) (bP : ∀ i, 0 ≤ P i ∧ P i < p) : ∀ (k : Nat) (i : Int), 0 ≤ dvK p c T k P i ∧ dvK p c T k P i < p
  | 0, i => bP i
  | k + 1, i => dv1_bd hp i
theorem dvK_out {p c T : Int} {P : Int → Int} (zP : ∀ i, (i < 0 ∨ T < i) → P i = 0) : ∀ (k : Nat) (i : Int), (i < 0 ∨ T < i) → dvK p c T k P i = 0
  | 0, i, hi => zP i hi
  | k + 1, i, hi => by
    show dv1 p c T (dvK p c T k P) i = 0
    unfold dv1
    rcases hi with q | q
    · rw [if_pos q]
    · split
      · rfl
      · exact qr_top (by omega)
set_option maxHeartbeats 1000000 in
theorem m_dividesEquation {d : Nat} {D p n s m c : Int} {S : Hp} {G : Int → Int → Int} {Q : Vl → Hp → Prop} (h : DW S D) (hp : zG S D 0 = p) (h2 : 2 ≤ p ∧ p ≤ 7) (hN : zG S D 1 = n) (hn : 2 ≤ n ∧ n ≤ 4) (hs : 0 ≤ s ∧ s < 6) (hm : zG S (D + 5) s = m) (m0 : 0 ≤ m ∧ m ≤ 20) (hc : zG S (D + 6) s = c) (c0 : 0 ≤ c ∧ c < p) (hG : BR S (D + 25) 200 5 p G) (H0 : ¬ (∀ j, 1 ≤ j → j ≤ n → okK p c 199 (j * m).toNat (G j)) → ∀ S', Md (fun x => x = D + 25) S S' → Q (0, 0) S') (H1 : (∀ j, 1 ≤ j → j ≤ n → okK p c 199 (j * m).toNat (G j)) → ∀ S', Md (fun x => x = D + 25) S S' → BR S' (D + 25) 200 5 p (fun b => if 1 ≤ b ∧ b ≤ n then dvK p c 199 (b * m).toNat (G b) else G b) → Q (0, 1) S') : Ev (d + 1) 263 [(2, D), (0, s)] S Q := by
  have zG' : ∀ b i, (i < 0 ∨ 199 < i) → G b i = 0 := fun b i hi => hG.2.2.2.1 b i (by omega)
  have bG := hG.2.2.2.2
  -- one that can't be divided
  have bad : ∀ j S', 1 ≤ j → j ≤ n + 1 → Md (fun x => x = D + 25) S S' → ¬ (∀ j, 1 ≤ j → j ≤ n → okK p c 199 (j * m).toNat (G j)) → At (d + 1) 263 c263_4 [(0, (2, D)), (1, (0, s)), (2, (0, 0)), (3, (0, j))] [] S' Q := fun j S' j0 j1 mm hb => by
    apply w_Model_dividesEquation_4
    exact ⟨by rw [mm.K]; exact h.1, fun _ => ⟨Or.inl rfl, H0 hb S' mm⟩, fun hz => absurd (Or.inr rfl) hz⟩
  apply w_Model_dividesEquation_0
  refine loopU (P := fun j S' => At (d + 1) 263 c263_4 [(0, (2, D)), (1, (0, s)), (2, (0, 1)), (3, (0, j))] [] S' Q) (I := fun j S' => 1 ≤ j ∧ Md (fun x => x = D + 25) S S' ∧ (∀ b, 1 ≤ b → b < j → okK p c 199 (b * m).toNat (G b)) ∧ BR S' (D + 25) 200 5 p (fun b => if 1 ≤ b ∧ b < j then dvK p c 199 (b * m).toNat (G b) else G b)) (n + 1) ?_ ?_ 1 S (by omega) ⟨by omega, Md.refl _ _, fun b b0 b1 => by omega, hG.congr (fun b x => by rw [if_neg (by omega)])⟩
  · rintro j S1 hj ⟨j0, m1, k1, b1⟩ hk
    have w1 : DW S1 D := h.md m1 (by omega)
    have jm : 0 ≤ j * m ∧ j * m ≤ 80 := by
      have : j = 1 ∨ j = 2 ∨ j = 3 ∨ j = 4 := by omega
      rcases this with rfl | rfl | rfl | rfl <;> omega
    apply w_Model_dividesEquation_4
    rw [(m1.G (a := D) (by omega) 1).trans hN]
    refine ⟨w1.1, fun hz => by omega, fun _ => ?_⟩
    refine loopU (P := fun k S' => At (d + 1) 263 c263_19 [(0, (2, D)), (1, (0, s)), (2, (0, 1)), (3, (0, j)), (4, (0, k))] [] S' Q) (I := fun k S' => 0 ≤ k ∧ Md (fun x => x = D + 25) S S' ∧ okK p c 199 k.toNat (G j) ∧ BR S' (D + 25) 200 5 p (fun b => if b = j then dvK p c 199 k.toNat (G j) else if 1 ≤ b ∧ b < j then dvK p c 199 (b * m).toNat (G b) else G b)) (j * m) ?_ ?_ 0 S1 (by omega) ⟨by omega, m1, fun l hl => absurd hl (by omega), b1.congr (fun b x => by
      by_cases q : b = j
      · rw [if_pos q, if_neg (by omega), q]
        rfl
      · rw [if_neg q])⟩
    · rintro k S2 hk' ⟨k0, m2, o2, b2⟩ hk2
      have w2 : DW S2 D := h.md m2 (by omega)
      have p2 : zG S2 D 0 = p := (m2.G (by omega) 0).trans hp
      have e8 : zG S2 (zG S2 D 8) s = m := by rw [w2.x_under.1, m2.G (by omega)]; exact hm
      have e9 : zG S2 (zG S2 D 9) s = c := by rw [w2.x_places.1, m2.G (by omega)]; exact hc
      have r8 : zK S2 (zG S2 D 8) = 101 ∧ 0 ≤ s ∧ s < zL S2 (zG S2 D 8) := by
        rw [w2.x_under.1, w2.x_under.2.1, w2.x_under.2.2]
        exact ⟨rfl, by omega, by omega⟩
      have r9 : zK S2 (zG S2 D 9) = 101 ∧ 0 ≤ s ∧ s < zL S2 (zG S2 D 9) := by
        rw [w2.x_places.1, w2.x_places.2.1, w2.x_places.2.2]
        exact ⟨rfl, by omega, by omega⟩
      have hv : ∀ i, 200 * j ≤ i → i < 200 * j + 200 → 0 ≤ zG S2 (D + 25) i ∧ zG S2 (D + 25) i < p := fun i i0 i1 => (b2.bd (by omega) i (by omega) (by omega)).2
      have rw2 := b2.row (b := j) (by omega) (by omega)
      rw [if_pos rfl] at rw2
      apply w_Model_dividesEquation_19
      rw [e8, e9, w32_id (x := j * m) (by omega) (by omega), w2.x_equation.1, w32_id (x := 200 * j) (by omega) (by omega)]
      refine ⟨w2.1, r8, fun hz => by omega, fun _ => ⟨w2.1, w2.1, r9, w2.1, m_atNumber w2.1 p2 h2 w2.x_equation.2.1 (by rw [w2.x_equation.2.2]; omega) (by omega) (by omega) c0 hv ⟨_, rfl, ?_⟩⟩⟩
      rw [rw2, show (200 : Int) - 1 = 199 by omega]
      rintro _ rfl
      refine ⟨w2.1, w2.1, r9, w2.1, ?_⟩
      rw [e9, w2.x_equation.1]
      refine m_dividesOut w2.1 p2 h2 (by omega) w2.x_equation.2.1 (by rw [w2.x_equation.2.2]; omega) (by omega) (by omega) c0 hv ⟨rfl, ?_⟩
      rw [rw2, show (200 : Int) - 1 = 199 by omega]
      rintro _ rfl
      rw [w32_id (x := k + 1) (by omega) (by omega)]
      have mm : Md (fun x => x = D + 25) S (zR S2 (D + 25) (fun x => if 200 * j ≤ x ∧ x < 200 * j + 200 then qr p c (dvK p c 199 k.toNat (G j)) 199 (x - 200 * j) else zG S2 (D + 25) x)) := m2.tr (Md.zR _ _ _)
      by_cases qz : qr p c (dvK p c 199 k.toNat (G j)) 199 (-1) = 0
      · rw [if_neg (fun z => z qz)]
        have b3 := b2.set (k := j) (G := dvK p c 199 (k + 1).toNat (G j)) (f := fun x => if 200 * j ≤ x ∧ x < 200 * j + 200 then qr p c (dvK p c 199 k.toNat (G j)) 199 (x - 200 * j) else zG S2 (D + 25) x) (by omega) (by omega) (fun i i0 i1 => by
          (try dsimp only)
          rw [if_pos (by omega), show 200 * j + i - 200 * j = i by omega, show (k + 1).toNat = k.toNat + 1 by omega]
          show _ = dv1 p c 199 (dvK p c 199 k.toNat (G j)) i
          unfold dv1
          rw [if_neg (by omega)]) (fun b i b0 b1 hb i0 i1 => by
          (try dsimp only)
          rw [if_neg (by omega)]) (fun i hi => dvK_out (zG' j) _ i (by omega)) (fun i => dvK_bd (by omega) (bG j) _ i)
        refine hk2 _ ⟨by omega, mm, ?_, b3.congr (fun b x => ?_)⟩
        · rw [show (k + 1).toNat = k.toNat + 1 by omega]
          exact okK_succ.mpr ⟨o2, qz⟩
        · by_cases q : b = j
          · rw [if_pos q, if_pos q]
          · rw [if_neg q, if_neg q, if_neg q]
      · rw [if_pos qz]
        have e3 : zG (zR S2 (D + 25) (fun x => if 200 * j ≤ x ∧ x < 200 * j + 200 then qr p c (dvK p c 199 k.toNat (G j)) 199 (x - 200 * j) else zG S2 (D + 25) x)) (zG (zR S2 (D + 25) (fun x => if 200 * j ≤ x ∧ x < 200 * j + 200 then qr p c (dvK p c 199 k.toNat (G j)) 199 (x - 200 * j) else zG S2 (D + 25) x)) D 8) s = m := by
          rw [zG_zR_ne _ (show D ≠ D + 25 by omega), w2.x_under.1, zG_zR_ne _ (by omega), m2.G (by omega)]
          exact hm
        have r3 : zK (zR S2 (D + 25) (fun x => if 200 * j ≤ x ∧ x < 200 * j + 200 then qr p c (dvK p c 199 k.toNat (G j)) 199 (x - 200 * j) else zG S2 (D + 25) x)) (zG (zR S2 (D + 25) (fun x => if 200 * j ≤ x ∧ x < 200 * j + 200 then qr p c (dvK p c 199 k.toNat (G j)) 199 (x - 200 * j) else zG S2 (D + 25) x)) D 8) = 101 ∧ 0 ≤ s ∧ s < zL (zR S2 (D + 25) (fun x => if 200 * j ≤ x ∧ x < 200 * j + 200 then qr p c (dvK p c 199 k.toNat (G j)) 199 (x - 200 * j) else zG S2 (D + 25) x)) (zG (zR S2 (D + 25) (fun x => if 200 * j ≤ x ∧ x < 200 * j + 200 then qr p c (dvK p c 199 k.toNat (G j)) 199 (x - 200 * j) else zG S2 (D + 25) x)) D 8) := by
          rw [zG_zR_ne _ (show D ≠ D + 25 by omega)]
          exact r8
        apply w_Model_dividesEquation_19
        refine ⟨w2.1, r3, fun _ => ?_, fun hz => absurd (Or.inr rfl) hz⟩
        apply w_Model_dividesEquation_95
        rintro _ rfl
        rw [w32_id (by omega) (by omega)]
        refine bad _ _ (by omega) (by omega) mm (fun z => qz ?_)
        exact z j j0 (by omega) k.toNat (by omega)
    · rintro S2 ⟨-, m2, o2, b2⟩
      have w2 : DW S2 D := h.md m2 (by omega)
      have e8 : zG S2 (zG S2 D 8) s = m := by rw [w2.x_under.1, m2.G (by omega)]; exact hm
      have r8 : zK S2 (zG S2 D 8) = 101 ∧ 0 ≤ s ∧ s < zL S2 (zG S2 D 8) := by
        rw [w2.x_under.1, w2.x_under.2.1, w2.x_under.2.2]
        exact ⟨rfl, by omega, by omega⟩
      apply w_Model_dividesEquation_19
      rw [e8, w32_id (x := j * m) (by omega) (by omega)]
      refine ⟨w2.1, r8, fun _ => ?_, fun hz => absurd (Or.inl (Int.le_refl _)) hz⟩
      apply w_Model_dividesEquation_95
      rintro _ rfl
      rw [w32_id (by omega) (by omega)]
      refine hk _ ⟨by omega, m2, fun b b0 b1 => ?_, b2.congr (fun b x => ?_)⟩
      · rcases Int.lt_or_le b j with q | q
        · exact k1 b b0 q
        · rw [show b = j by omega]
          exact o2
      · by_cases q : b = j
        · rw [if_pos q, if_pos (by omega), q]
        · rw [if_neg q]
          by_cases q2 : 1 ≤ b ∧ b < j
          · rw [if_pos q2, if_pos (by omega)]
          · rw [if_neg q2, if_neg (by omega)]
  · rintro S1 ⟨-, m1, k1, b1⟩
    apply w_Model_dividesEquation_4
    rw [(m1.G (a := D) (by omega) 1).trans hN]
    refine ⟨by rw [m1.K]; exact h.1, fun _ => ⟨Or.inr rfl, H1 (fun j j0 j1 => k1 j j0 (by omega)) S1 m1 (b1.congr (fun b x => ?_))⟩, fun hz => absurd (Or.inl (show n < n + 1 by omega)) hz⟩
    by_cases q : 1 ≤ b ∧ b < n + 1
    · rw [if_pos q, if_pos (by omega)]
    · rw [if_neg q, if_neg (by omega)]
/-- what asking for the equation leaves -/
def eqR (D : Int) (S S' : Hp) : Prop := Md (fun x => x = D ∨ x = D + 41 ∨ (D + 23 ≤ x ∧ x ≤ D + 28)) S S' ∧ (∀ i, i ≠ 58 → i ≠ 59 → zG S' D i = zG S D i) ∧ DW S' D
theorem rfE_cases {n s h : Int} {f : Prop} [Decidable f] : (n = 0 ∧ rfE n s f h = -2) ∨ (n ≠ 0 ∧ ¬ (0 ≤ s ∧ s < 6 ∧ f) ∧ rfE n s f h = -1) ∨ (n ≠ 0 ∧ (0 ≤ s ∧ s < 6 ∧ f) ∧ rfE n s f h = if h = 0 then -11 else if h = 2 then -13 else 0) := by
  unfold rfE
  by_cases q : n = 0
  · left
    exact ⟨q, if_pos q⟩
  · right
    by_cases q2 : 0 ≤ s ∧ s < 6 ∧ f
    · right
      exact ⟨q, q2, by rw [if_neg q, if_pos q2]⟩
    · left
      exact ⟨q, q2, by rw [if_neg q, if_neg q2]⟩
/-- table, equation and division together -/
theorem m_tableDiv {d : Nat} {D p n s m c : Int} {S : Hp} {W C : Int → Int → Int} {Q : Vl → Hp → Prop} (h : DW S D) (hp : zG S D 0 = p) (h2 : 2 ≤ p ∧ p ≤ 7) (hN : zG S D 1 = n) (hn : 2 ≤ n ∧ n ≤ 4) (hs : 0 ≤ s ∧ s < 6) (hC : ∀ k, 0 ≤ k → k < 7 * n → zG S (D + 1) k = C (k / 7) (k % 7)) (bC : ∀ j e, 0 ≤ C j e ∧ C j e < p) (sC : ∀ j e, (e < 0 ∨ 6 < e) → C j e = 0) (zC : ∀ j e, (j < 0 ∨ n ≤ j) → C j e = 0) (eW : elW S D s n p W) (hm : zG S (D + 5) s = m) (m0 : 0 ≤ m ∧ m ≤ 20) (hc : zG S (D + 6) s = c) (c0 : 0 ≤ c ∧ c < p) (H0 : ¬ (∀ j, 1 ≤ j → j ≤ n → okK p c 199 (j * m).toNat (bkQ p (tbE p n C W) n.toNat j)) → ∀ S', eqR D S S' → Q (0, 0) S') (H1 : (∀ j, 1 ≤ j → j ≤ n → okK p c 199 (j * m).toNat (bkQ p (tbE p n C W) n.toNat j)) → ∀ S', eqR D S S' → BR S' (D + 25) 200 5 p (fun b => if 1 ≤ b ∧ b ≤ n then dvK p c 199 (b * m).toNat (bkQ p (tbE p n C W) n.toNat b) else bkQ p (tbE p n C W) n.toNat b) → Q (0, 1) S') : Ev (d + 4) 262 [(2, D), (0, s)] S (fun r S5 => r = (3, 0) ∧ zK S5 D = 12 ∧ Ev (d + 4) 263 [(2, D), (0, s)] S5 Q) := by
  refine m_findsTable h hp h2 hN hn hs hC bC sC zC eW (fun S1 m1 o1 w1 b1 => ⟨rfl, w1.1, ?_⟩)
  refine m_dividesEquation (d := d + 3) (m := m) (c := c) w1 ((o1 0 (by omega) (by omega)).trans hp) h2 ((o1 1 (by omega) (by omega)).trans hN) hn hs ((m1.G (by omega) s).trans hm) m0 ((m1.G (by omega) s).trans hc) c0 b1 (fun hb S2 m2 => H0 hb S2 ⟨m1.tr (m2.wide (fun x hx => by omega)), fun i i1 i2 => ?_, w1.md m2 (by omega)⟩) (fun hb S2 m2 b2 => H1 hb S2 ⟨m1.tr (m2.wide (fun x hx => by omega)), fun i i1 i2 => ?_, w1.md m2 (by omega)⟩ b2)
  · rw [m2.G (by omega), o1 i i1 i2]
  · rw [m2.G (by omega), o1 i i1 i2]
