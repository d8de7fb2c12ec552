/-! The model: times, at, as, place. -/
/-- the product before it goes down -/
def prT (p n : Int) (A B : Int → Int → Int) : Int → Int → Int := fun b x => sm n.toNat (fun j => if 0 ≤ b - j ∧ b - j < n then cnv (A j) (B (b - j)) x else 0) % p
def prP (p n : Int) (A B : Int → Int → Int) (J L : Int) : Int → Int → Int := fun b x => (sm J.toNat (fun j => if 0 ≤ b - j ∧ b - j < n then cnv (A j) (B (b - j)) x else 0) + (if 0 ≤ b - J ∧ b - J < L then cnv (A J) (B (b - J)) x else 0)) % p
theorem rfT_ok {n a b t ha hb ua ub pa pb : Int} (hz : rfT n a b t ha hb ua ub pa pb = 0) : n ≠ 0 ∧ ((0 ≤ a ∧ a < 6) ∧ (0 ≤ b ∧ b < 6) ∧ 0 ≤ t ∧ t < 6) ∧ ¬ (ha = 0 ∨ hb = 0) ∧ ¬ (ha = 2 ∨ hb = 2) := by
  unfold rfT at hz
  by_cases q1 : n = 0
  · rw [if_pos q1] at hz
    omega
  · rw [if_neg q1] at hz
    by_cases q2 : (0 ≤ a ∧ a < 6) ∧ (0 ≤ b ∧ b < 6) ∧ 0 ≤ t ∧ t < 6
    · rw [if_pos q2] at hz
      by_cases q3 : ha = 0 ∨ hb = 0
      · rw [if_pos q3] at hz
        omega
      · rw [if_neg q3] at hz
        by_cases q4 : ha = 2 ∨ hb = 2
        · rw [if_pos q4] at hz
          omega
        · exact ⟨q1, q2, q3, q4⟩
    · rw [if_neg q2] at hz
      omega
theorem lwN_zero {p n t : Int} {C W : Int → Int → Int} (zW : ∀ b x, t < b → W b x = 0) : ∀ (s : Nat) (b x : Int), t - s < b → lwN p n C t s W b x = 0
  | 0, b, x, hb => zW b x (by omega)
  | s + 1, b, x, hb => by
    show lwS p n C (lwN p n C t s W) (t - s) b x = 0
    unfold lwS
    by_cases q : b = t - s
    · rw [if_pos q]
    · rw [if_neg q, if_neg (by omega)]
      exact lwN_zero zW s b x (by omega)
set_option maxHeartbeats 2000000 in
theorem m_times {d : Nat} {D p n a b t : Int} {S : Hp} {W : Int → Int → Int → Int} {C : Int → Int → Int} {Q : Vl → Hp → Prop} (h : DW S D) (hp : zG S D 0 = p) (h2 : 2 ≤ p ∧ p ≤ 7) (hN : zG S D 1 = n) (hn : n = 0 ∨ (2 ≤ n ∧ n ≤ 4)) (hC : ∀ k, 0 ≤ k → k < 7 * n → zG S (D + 1) k = C (k / 7) (k % 7)) (bC : ∀ j e, 0 ≤ C j e ∧ C j e < p) (sC : ∀ j e, (e < 0 ∨ 6 < e) → C j e = 0) (zC : ∀ j e, n ≤ j → C j e = 0) (hE : ∀ s, 0 ≤ s → s < 6 → zG S (D + 3) s ≠ 0 → zG S (D + 3) s ≠ 2 → n ≠ 0 → elW S D s n p (W s) ∧ (0 ≤ zG S (D + 5) s ∧ zG S (D + 5) s ≤ 20) ∧ 0 ≤ zG S (D + 6) s ∧ zG S (D + 6) s < p) (H0 : rfT n a b t (zG S (D + 3) a) (zG S (D + 3) b) (zG S (D + 5) a) (zG S (D + 5) b) (zG S (D + 6) a) (zG S (D + 6) b) ≠ 0 → Q (0, rfT n a b t (zG S (D + 3) a) (zG S (D + 3) b) (zG S (D + 5) a) (zG S (D + 5) b) (zG S (D + 6) a) (zG S (D + 6) b)) S) (H1 : rfT n a b t (zG S (D + 3) a) (zG S (D + 3) b) (zG S (D + 5) a) (zG S (D + 5) b) (zG S (D + 6) a) (zG S (D + 6) b) = 0 → stP D p t (zG S (D + 5) a + zG S (D + 5) b) (if zG S (D + 5) a ≤ 0 then zG S (D + 6) b else zG S (D + 6) a) (lwN p n C 6 (7 - n).toNat (prT p n (W a) (W b))) S Q) : Ev (d + 3) 258 [(2, D), (0, a), (0, b), (0, t)] S Q := by
  apply w_Model_times_0
  refine ⟨h.1, m_wrongTwo h hN ⟨_, rfl, fun hz => ?_, fun hz => H0 hz⟩⟩
  have H1 := H1 hz
  obtain ⟨n0, ⟨ra, rb, rt⟩, z1, z2⟩ := rfT_ok hz
  have hn : 2 ≤ n ∧ n ≤ 4 := by omega
  clear hz H0
  obtain ⟨eA, uA, pA⟩ := hE a ra.1 ra.2 (by omega) (by omega) n0
  obtain ⟨eB, uB, pB⟩ := hE b rb.1 rb.2 (by omega) (by omega) n0
  clear hE z1 z2
  rw [h.x_work.1]
  refine ⟨h.1, h.1, m_zeroB (w := 100) (n := 7) (p := p) h.x_work.2.1 h.x_work.2.2 (by omega) (by omega) (by omega) (by omega) (fun S1 m1 b1 => ⟨rfl, ?_⟩)⟩
  have cdeg : ∀ j l x, 60 < x → cnv (W a j) (W b l) x = 0 := fun j l x hx => cnv_deg (da := 30) (db := 30) (fun e he => eA.2.2.1 j e (Or.inr he)) (fun e he => eB.2.2.1 l e (Or.inr he)) x (by omega)
  refine loopU (P := fun j S' => At (d + 3) 258 c258_28 [(0, (2, D)), (1, (0, a)), (2, (0, b)), (3, (0, t)), (5, (0, j))] [] S' Q) (I := fun j S' => 0 ≤ j ∧ Md (fun x => x = D + 41) S S' ∧ BR S' (D + 41) 100 7 p (prP p n (W a) (W b) j 0)) n ?_ ?_ 0 S1 (by omega) ⟨by omega, m1, b1.congr (fun c x => ?_)⟩
  · rintro j S2 hj ⟨j0, m2, b2⟩ hk
    apply w_Model_times_28
    rw [(m2.G (a := D) (by omega) 1).trans hN]
    refine ⟨by rw [m2.K]; exact h.1, fun hc => by omega, fun _ => ?_⟩
    refine loopU (P := fun l S' => At (d + 3) 258 c258_40 [(0, (2, D)), (1, (0, a)), (2, (0, b)), (3, (0, t)), (5, (0, j)), (6, (0, l))] [] S' Q) (I := fun l S' => 0 ≤ l ∧ Md (fun x => x = D + 41) S S' ∧ BR S' (D + 41) 100 7 p (prP p n (W a) (W b) j l)) n ?_ ?_ 0 S2 (by omega) ⟨by omega, m2, b2⟩
    · rintro l S3 hl ⟨l0, m3, b3⟩ hk2
      have w3 : DW S3 D := h.md m3 (by omega)
      have g4 : ∀ i, zG S3 (D + 4) i = zG S (D + 4) i := fun i => m3.G (by omega) i
      have rA : rwP (zG S3 (D + 4)) (124 * a + 31 * j) 31 = W a j := funext fun x => by
        unfold rwP
        by_cases q : 0 ≤ x ∧ x < 31
        · rw [if_pos q, g4]
          exact eA.1 j x j0 (by omega) q.1 q.2
        · rw [if_neg q]
          exact (eA.2.2.1 j x (by omega)).symm
      have rB : rwP (zG S3 (D + 4)) (124 * b + 31 * l) 31 = W b l := funext fun x => by
        unfold rwP
        by_cases q : 0 ≤ x ∧ x < 31
        · rw [if_pos q, g4]
          exact eB.1 l x l0 (by omega) q.1 q.2
        · rw [if_neg q]
          exact (eB.2.2.1 l x (by omega)).symm
      apply w_Model_times_40
      rw [(m3.G (a := D) (by omega) 1).trans hN, w3.x_parts.1, w3.x_work.1, w32_id (x := 124 * a) (by omega) (by omega), w32_id (x := 124 * b) (by omega) (by omega), w32_id (x := 31 * j) (by omega) (by omega), w32_id (x := 31 * l) (by omega) (by omega), w32_id (x := 124 * a + 31 * j) (by omega) (by omega), w32_id (x := 124 * b + 31 * l) (by omega) (by omega), w32_id (x := j + l) (by omega) (by omega), w32_id (x := 100 * (j + l)) (by omega) (by omega)]
      refine ⟨w3.1, fun hc => by omega, fun _ => ⟨w3.1, w3.1, w3.1, w3.1, ?_⟩⟩
      refine m_plusProduct (n := 700) w3.1 ((m3.G (by omega) 0).trans hp) h2 (by omega) (by omega) (by omega) w3.x_parts.2.1 w3.x_parts.2.1 w3.x_work.2.1 w3.x_work.2.2 (by rw [w3.x_parts.2.2]; omega) (by rw [w3.x_parts.2.2]; omega) (by omega) (by omega) (by omega) (fun i i0 i1 => ?_) (fun i i0 i1 => ?_) (by omega) (by omega) (fun x x0 x1 => (b3.bd (by omega) x (by omega) (by omega)).2) (fun u v hu hv => ?_) ⟨rfl, ?_⟩
      · have := eA.2.1 j (i - (124 * a + 31 * j))
        have e := eA.1 j (i - (124 * a + 31 * j)) j0 (by omega) (by omega) (by omega)
        rw [show 124 * a + 31 * j + (i - (124 * a + 31 * j)) = i by omega] at e
        rw [g4, e]
        omega
      · have := eB.2.1 l (i - (124 * b + 31 * l))
        have e := eB.1 l (i - (124 * b + 31 * l)) l0 (by omega) (by omega) (by omega)
        rw [show 124 * b + 31 * l + (i - (124 * b + 31 * l)) = i by omega] at e
        rw [g4, e]
        omega
      · rw [rA] at hu
        rw [rB] at hv
        have q1 : u ≤ 30 := by
          rcases Int.lt_or_le 30 u with z | z
          · exact absurd (eA.2.2.1 j u (Or.inr z)) hu
          · exact z
        have q2 : v ≤ 30 := by
          rcases Int.lt_or_le 30 v with z | z
          · exact absurd (eB.2.2.1 l v (Or.inr z)) hv
          · exact z
        omega
      · rw [rA, rB]
        rintro _ rfl
        rw [w32_id (by omega) (by omega)]
        have b4 := b3.set (k := j + l) (G := fun x => (prP p n (W a) (W b) j l (j + l) x + cnv (W a j) (W b l) x) % p) (f := fun x => if 100 * (j + l) ≤ x ∧ x < 700 then (zG S3 (D + 41) x + cnv (W a j) (W b l) (x - 100 * (j + l))) % p else zG S3 (D + 41) x) (by omega) (by omega) (fun i i0 i1 => by
          (try dsimp only)
          rw [if_pos (by omega), b3.2.2.1 (j + l) i (by omega) (by omega) i0 i1, show 100 * (j + l) + i - 100 * (j + l) = i by omega]) (fun c i c0 c1 hc i0 i1 => by
          (try dsimp only)
          by_cases q : 100 * (j + l) ≤ 100 * c + i ∧ 100 * c + i < 700
          · have bb := b3.2.2.2.2 c i
            rw [if_pos q, cdeg j l _ (by omega), Int.add_zero, b3.2.2.1 c i c0 c1 i0 i1, em_id bb.1 bb.2]
          · rw [if_neg q]) (fun i hi => by
          (try dsimp only)
          rw [b3.2.2.2.1 _ i hi]
          rcases hi with hi | hi
          · rw [cnv_neg hi]
            rfl
          · rw [cdeg j l i (by omega)]
            rfl) (fun i => ⟨em_ge (by omega), em_lt (by omega)⟩)
        refine hk2 _ ⟨by omega, m3.tr (Md.zR _ _ _), b4.congr (fun c x => ?_)⟩
        by_cases q : c = j + l
        · rw [if_pos q, q]
          unfold prP
          rw [if_neg (show ¬ (0 ≤ j + l - j ∧ j + l - j < l) by omega), if_pos (show 0 ≤ j + l - j ∧ j + l - j < l + 1 by omega), Int.add_zero, Int.emod_add_emod, show j + l - j = l by omega]
        · rw [if_neg q]
          unfold prP
          by_cases q2 : 0 ≤ c - j ∧ c - j < l
          · rw [if_pos q2, if_pos (by omega)]
          · rw [if_neg q2, if_neg (by omega)]
    · rintro S3 ⟨-, m3, b3⟩
      apply w_Model_times_40
      rw [(m3.G (a := D) (by omega) 1).trans hN]
      refine ⟨by rw [m3.K]; exact h.1, fun _ => ?_, fun hc => absurd (Int.le_refl n) hc⟩
      rintro _ rfl
      rw [w32_id (by omega) (by omega)]
      refine hk _ ⟨by omega, m3, b3.congr (fun c x => ?_)⟩
      unfold prP
      rw [show (j + 1).toNat = j.toNat + 1 by omega, sm_succ, show ((j.toNat : Nat) : Int) = j by omega, if_neg (show ¬ (0 ≤ c - (j + 1) ∧ c - (j + 1) < 0) by omega), Int.add_zero]
  · rintro S2 ⟨-, m2, b2⟩
    have w2 : DW S2 D := h.md m2 (by omega)
    have b2 : BR S2 (D + 41) 100 7 p (prT p n (W a) (W b)) := b2.congr (fun c x => by
      unfold prP prT
      rw [if_neg (by omega), Int.add_zero])
    have g : ∀ o i, o ≠ D + 41 → zG S2 o i = zG S o i := fun o i ho => m2.G ho i
    apply w_Model_times_28
    rw [g D 1 (by omega), hN, w2.x_under.1, w2.x_under.2.1, w2.x_under.2.2, g (D + 5) a (by omega), g (D + 5) b (by omega)]
    refine ⟨w2.1, fun _ => ⟨w2.1, ⟨rfl, by omega, by omega⟩, w2.1, ⟨rfl, by omega, by omega⟩, w2.1, ?_⟩, fun hc => absurd (Int.le_refl n) hc⟩
    rintro _ rfl
    rw [w32_id (by omega) (by omega)]
    have w3 : DW (zS S2 D 58 (zG S (D + 5) a + zG S (D + 5) b)) D := w2.sc (by decide)
    rw [w3.x_under.1, w3.x_under.2.1, w3.x_under.2.2, w3.x_places.1, w3.x_places.2.1, w3.x_places.2.2, zG_zS_ne _ (Or.inl (by omega)), g (D + 5) a (by omega), zG_zS_ne _ (Or.inl (by omega)), g (D + 6) b (by omega), zG_zS_ne _ (Or.inl (by omega)), g (D + 6) a (by omega)]
    refine ⟨w3.1, ⟨rfl, by omega, by omega⟩, fun _ => ⟨w3.1, rfl, by omega, by omega⟩, fun _ => ⟨w3.1, rfl, by omega, by omega⟩, ?_⟩
    intro c hc
    rw [← hc] at H1
    have hcp : 0 ≤ c ∧ c < p := by
      rw [hc]
      split
      · exact pB
      · exact pA
    clear hc
    refine ⟨w3.1, ?_⟩
    rintro _ rfl
    have M4 : Md (fun x => x = D ∨ x = D + 41) S (zS (zS S2 D 58 (zG S (D + 5) a + zG S (D + 5) b)) D 59 c) := ((m2.wide (fun x hx => Or.inr hx)).tr ((Md.zS _ _ _ _).wide (fun x hx => Or.inl hx))).tr ((Md.zS _ _ _ _).wide (fun x hx => Or.inl hx))
    have w4 : DW (zS (zS S2 D 58 (zG S (D + 5) a + zG S (D + 5) b)) D 59 c) D := w3.sc (by decide)
    have o4 : ∀ i, i ≠ 58 → i ≠ 59 → zG (zS (zS S2 D 58 (zG S (D + 5) a + zG S (D + 5) b)) D 59 c) D i = zG S D i := fun i i1 i2 => by
      rw [zG_zS_ne _ (Or.inr i2), zG_zS_ne _ (Or.inr i1), g D i (by omega)]
    have b4 : BR (zS (zS S2 D 58 (zG S (D + 5) a + zG S (D + 5) b)) D 59 c) (D + 41) 100 7 p (prT p n (W a) (W b)) := (b2.keep (Md.zS _ _ _ _) (by omega)).keep (Md.zS _ _ _ _) (by omega)
    have e58 : zG (zS (zS S2 D 58 (zG S (D + 5) a + zG S (D + 5) b)) D 59 c) D 58 = zG S (D + 5) a + zG S (D + 5) b := by
      rw [zG_zS_ne _ (Or.inr (by omega)), zG_zS_at]
    have e59 : zG (zS (zS S2 D 58 (zG S (D + 5) a + zG S (D + 5) b)) D 59 c) D 59 = c := zG_zS_at _ _ _ _
    generalize zS (zS S2 D 58 (zG S (D + 5) a + zG S (D + 5) b)) D 59 c = S4 at *
    have pd : ∀ c x, 60 < x → prT p n (W a) (W b) c x = 0 := fun c x hx => by
      unfold prT
      rw [sm_zeros (fun i i0 i1 => by
        split
        · exact cdeg _ _ x hx
        · rfl)]
      rfl
    refine ⟨w4.1, m_lowersWork (t := 6) (dg := 60) w4 ((o4 0 (by omega) (by omega)).trans hp) h2 ((o4 1 (by omega) (by omega)).trans hN) hn rfl (fun k k0 k1 => (M4.G (by omega) k).trans (hC k k0 k1)) bC sC zC b4 (by omega) pd (fun S5 m5 b5 => ⟨rfl, ?_⟩)⟩
    have w5 : DW S5 D := w4.md m5 (by omega)
    have o5 : ∀ i, zG S5 D i = zG S4 D i := fun i => m5.G (by omega) i
    have f5 : nfR D S S5 := ⟨M4.tr (m5.wide (fun x hx => Or.inr hx)), w5, fun i i1 i2 => (o5 i).trans (o4 i i1 i2)⟩
    rw [show (6 : Int) + 1 - n = 7 - n by omega] at b5
    refine ⟨w5.1, m_settlesF h2 hn hcp rt (m := zG S (D + 5) a + zG S (D + 5) b) (by omega) w5 ((f5.2.2 0 (by omega) (by omega)).trans hp) ((f5.2.2 1 (by omega) (by omega)).trans hN) ((o5 58).trans e58) ((o5 59).trans e59) b5 (fun c x hb => ?_) f5 ⟨fun ft S' r => ⟨_, rfl, H1.1 ft S' r⟩, fun ft S' r => ⟨_, rfl, H1.2 ft S' r⟩⟩⟩
    refine lwN_zero (fun c x hc => ?_) _ c x (by omega)
    unfold prT
    rw [sm_zeros (fun i i0 i1 => by
      (try dsimp only)
      rw [if_neg (by omega)])]
    rfl
  · unfold prP
    rw [if_neg (by omega)]
    rfl
theorem m_at {d : Nat} {D n s j i : Int} {S : Hp} {Q : Vl → Hp → Prop} (h : DW S D) (hN : zG S D 1 = n) (hn : n = 0 ∨ (2 ≤ n ∧ n ≤ 4)) (H0 : rfE n s ((0 ≤ j ∧ j < n) ∧ 0 ≤ i ∧ i ≤ 30) (zG S (D + 3) s) ≠ 0 → Q (0, rfE n s ((0 ≤ j ∧ j < n) ∧ 0 ≤ i ∧ i ≤ 30) (zG S (D + 3) s)) S) (H1 : rfE n s ((0 ≤ j ∧ j < n) ∧ 0 ≤ i ∧ i ≤ 30) (zG S (D + 3) s) = 0 → Q (0, zG S (D + 4) (124 * s + 31 * j + i)) S) : Ev (d + 2) 259 [(2, D), (0, s), (0, j), (0, i)] S Q := by
  apply w_Model_at_0
  have e1 : w32 (zG S D 1 - 1) = n - 1 := by rw [hN, w32_id (by omega) (by omega)]
  rw [hN]
  unfold rfE at H0 H1
  refine ⟨h.1, fun n0 => m_isShelf ⟨_, rfl, fun hz => ?_, fun hz1 => ⟨h.1, m_in ⟨_, rfl, fun hz => ?_, fun hz2 => m_in ⟨_, rfl, fun hz3 => ⟨h.1, ?_⟩, fun hz => ?_⟩⟩⟩⟩, fun n0 => ?_⟩
  · rw [if_neg n0, if_neg (by grind)] at H0
    exact H0 (by omega)
  · rw [e1] at hz
    rw [if_neg n0, if_neg (fun z => by rw [if_pos (by omega)] at hz; omega)] at H0
    exact H0 (by omega)
  · rw [e1] at hz2
    have hs : 0 ≤ s ∧ s < 6 := by grind
    have hj : 0 ≤ j ∧ j < n := by
      by_cases q : 0 ≤ j ∧ j ≤ n - 1
      · omega
      · rw [if_neg q] at hz2
        omega
    have hi : 0 ≤ i ∧ i ≤ 30 := by grind
    rw [if_neg n0, if_pos ⟨hs.1, hs.2, hj, hi⟩] at H0 H1
    have e7 : w32 (w32 (w32 (124 * s) + w32 (31 * j)) + i) = 124 * s + 31 * j + i := by
      rw [w32_id (x := 124 * s) (by omega) (by omega), w32_id (x := 31 * j) (by omega) (by omega), w32_id (x := 124 * s + 31 * j) (by omega) (by omega), w32_id (x := 124 * s + 31 * j + i) (by omega) (by omega)]
    have rg : zK S (zG S D 7) = 101 ∧ 0 ≤ w32 (w32 (w32 (124 * s) + w32 (31 * j)) + i) ∧ w32 (w32 (w32 (124 * s) + w32 (31 * j)) + i) < zL S (zG S D 7) := by
      rw [e7, h.x_parts.1, h.x_parts.2.1, h.x_parts.2.2]
      exact ⟨rfl, by omega, by omega⟩
    refine m_wrongElement h hs (fun hh => ⟨_, rfl, fun _ => ⟨h.1, rg⟩, ?_⟩) (fun hh => ⟨_, rfl, fun _ => ⟨h.1, rg⟩, ?_⟩) (fun hh hh2 => ⟨_, rfl, fun _ => ⟨h.1, rg⟩, ?_⟩)
    · rw [if_pos hh] at H0
      rintro _ rfl
      exact H0 (by omega)
    · rw [if_neg (by omega), if_pos hh] at H0
      rintro _ rfl
      exact H0 (by omega)
    · rw [if_neg hh, if_neg hh2] at H1
      rintro _ rfl
      rw [if_pos rfl, e7, h.x_parts.1]
      exact H1 rfl
  · rw [if_neg n0, if_neg (by grind)] at H0
    exact H0 (by omega)
  · rw [if_pos (by omega)] at H0
    exact H0 (by omega)
theorem m_as {d : Nat} {D n s k : Int} {S : Hp} {Q : Vl → Hp → Prop} (h : DW S D) (hN : zG S D 1 = n) (H0 : rfE n s (k = 0 ∨ k = 1) (zG S (D + 3) s) ≠ 0 → Q (0, rfE n s (k = 0 ∨ k = 1) (zG S (D + 3) s)) S) (H1 : rfE n s (k = 0 ∨ k = 1) (zG S (D + 3) s) = 0 → Q (0, if k = 1 ∧ zG S (D + 5) s = 0 then -13 else zG S (D + 5) s) S) : Ev (d + 2) 260 [(2, D), (0, s), (0, k)] S Q := by
  apply w_Model_as_0
  rw [hN]
  unfold rfE at H0 H1
  refine ⟨h.1, fun n0 => m_isShelf ⟨_, rfl, fun hz => ?_, fun hz1 => m_in ⟨_, rfl, fun hz2 => ⟨h.1, ?_⟩, fun hz => ?_⟩⟩, fun n0 => ?_⟩
  · rw [if_neg n0, if_neg (by grind)] at H0
    exact H0 (by omega)
  · have hs : 0 ≤ s ∧ s < 6 := by grind
    have hk : k = 0 ∨ k = 1 := by grind
    rw [if_neg n0, if_pos ⟨hs.1, hs.2, hk⟩] at H0 H1
    have rg : zK S (zG S D 8) = 101 ∧ 0 ≤ s ∧ s < zL S (zG S D 8) := by
      rw [h.x_under.1, h.x_under.2.1, h.x_under.2.2]
      exact ⟨rfl, by omega, by omega⟩
    have e8 : zG S (zG S D 8) s = zG S (D + 5) s := by rw [h.x_under.1]
    refine m_wrongElement h hs (fun hh => ⟨_, rfl, fun z => by omega, fun _ => ?_⟩) (fun hh => ⟨_, rfl, fun z => by omega, fun _ => ?_⟩) (fun hh hh2 => ⟨_, rfl, fun _ => ⟨fun _ => ⟨h.1, rg⟩, fun z => ⟨h.1, rg, ?_⟩, fun z => ?_⟩, fun z => absurd rfl z⟩)
    · rw [if_pos hh] at H0
      exact H0 (by omega)
    · rw [if_neg (by omega), if_pos hh] at H0
      exact H0 (by omega)
    · rw [if_neg hh, if_neg hh2] at H1
      have := H1 rfl
      rw [e8] at z ⊢
      rw [if_neg (by omega)] at this
      exact this
    · rw [if_neg hh, if_neg hh2] at H1
      have := H1 rfl
      rw [e8] at z
      rw [if_pos (by omega)] at this
      exact this
  · rw [if_neg n0, if_neg (by grind)] at H0
    exact H0 (by omega)
  · rw [if_pos (by omega)] at H0
    exact H0 (by omega)
theorem m_place {d : Nat} {D n s : Int} {S : Hp} {Q : Vl → Hp → Prop} (h : DW S D) (hN : zG S D 1 = n) (H0 : rfE n s True (zG S (D + 3) s) ≠ 0 → Q (0, rfE n s True (zG S (D + 3) s)) S) (H1 : rfE n s True (zG S (D + 3) s) = 0 → Q (0, if zG S (D + 5) s = 0 then -13 else zG S (D + 6) s) S) : Ev (d + 2) 261 [(2, D), (0, s)] S Q := by
  apply w_Model_place_0
  rw [hN]
  unfold rfE at H0 H1
  refine ⟨h.1, fun n0 => m_isShelf ⟨_, rfl, fun hz1 => ⟨h.1, ?_⟩, fun hz => ?_⟩, fun n0 => ?_⟩
  · have hs : 0 ≤ s ∧ s < 6 := by grind
    rw [if_neg n0, if_pos ⟨hs.1, hs.2, trivial⟩] at H0 H1
    have rg : zK S (zG S D 8) = 101 ∧ 0 ≤ s ∧ s < zL S (zG S D 8) := by
      rw [h.x_under.1, h.x_under.2.1, h.x_under.2.2]
      exact ⟨rfl, by omega, by omega⟩
    have rg9 : zK S (zG S D 9) = 101 ∧ 0 ≤ s ∧ s < zL S (zG S D 9) := by
      rw [h.x_places.1, h.x_places.2.1, h.x_places.2.2]
      exact ⟨rfl, by omega, by omega⟩
    have e8 : zG S (zG S D 8) s = zG S (D + 5) s := by rw [h.x_under.1]
    have e9 : zG S (zG S D 9) s = zG S (D + 6) s := by rw [h.x_places.1]
    refine m_wrongElement h hs (fun hh => ⟨_, rfl, fun z => by omega, fun _ => ?_⟩) (fun hh => ⟨_, rfl, fun z => by omega, fun _ => ?_⟩) (fun hh hh2 => ⟨_, rfl, fun _ => ⟨h.1, rg, fun z => ⟨h.1, rg9, ?_⟩, fun z => ?_⟩, fun z => absurd rfl z⟩)
    · rw [if_pos hh] at H0
      exact H0 (by omega)
    · rw [if_neg (by omega), if_pos hh] at H0
      exact H0 (by omega)
    · rw [if_neg hh, if_neg hh2] at H1
      have := H1 rfl
      rw [e8] at z
      rw [if_neg z] at this
      rw [e9]
      exact this
    · rw [if_neg hh, if_neg hh2] at H1
      have := H1 rfl
      rw [e8] at z
      rw [if_pos (Decidable.not_not.mp z)] at this
      exact this
  · rw [if_neg n0, if_neg (by grind)] at H0
    exact H0 (by omega)
  · rw [if_pos (by omega)] at H0
    exact H0 (by omega)
