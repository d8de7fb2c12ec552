/-! The model: table, classes. -/
theorem MC.keep {M : Int → Prop} {S S' : Hp} {D p n : Int} {F : Int → Int} (h : MC S D p n F) (m : Md M S S') (w : DW S' D) (h1 : ¬ M (D + 1)) (h32 : ¬ M (D + 32)) (h33 : ¬ M (D + 33)) (o : ∀ i, i = 0 ∨ i = 1 ∨ i = 47 ∨ i = 48 → zG S' D i = zG S D i) : MC S' D p n F := by
  obtain ⟨_, a2, a3, a4, a5, a6, a7, a8, a9, a10⟩ := h
  refine ⟨w, (o 0 (by omega)).trans a2, a3, (o 1 (by omega)).trans a4, a5, fun K j i e K0 K1 j0 ji i1 e0 e1 => ?_, fun e e0 e1 => (m.G h1 e).trans (a7 e e0 e1), a8, a9, fun n0 c c0 c1 e => ?_⟩
  · rw [m.G h32]
    exact a6 K j i e K0 K1 j0 ji i1 e0 e1
  · obtain ⟨L, fK, dK, r1, r2, r3, r4, r5, r6, r7⟩ := a10 n0 c c0 c1 ((o 48 (by omega)).symm.trans e)
    exact ⟨L, fK, dK, (o 48 (by omega)).trans r1, (o 47 (by omega)).trans r2, r3, r4, r5, r6, fun k k0 k1 => (r7 k k0 k1).keep m h32 h33⟩
theorem RG.keep {M : Int → Prop} {S S' : Hp} {D c p n L : Int} {C : Int → Int → Int} {fK : Int → Int → Int → Int → Int} {dK : Int → Int → Int} (r : RG S D c p n C L fK dK) (m : Md M S S') (h32 : ¬ M (D + 32)) (h33 : ¬ M (D + 33)) (o : ∀ i, i = 0 ∨ i = 1 ∨ i = 47 ∨ i = 48 → zG S' D i = zG S D i) : RG S' D c p n C L fK dK := by
  obtain ⟨r1, r2, r3, r4, r5, r6, r7⟩ := r
  exact ⟨(o 48 (by omega)).trans r1, (o 47 (by omega)).trans r2, r3, r4, r5, r6, fun k k0 k1 => (r7 k k0 k1).keep m h32 h33⟩
theorem RG.ln {S S' : Hp} {D c p n L k v : Int} {F : Int → Int} {fK : Int → Int → Int → Int → Int} {dK : Int → Int → Int} (mc : MC S D p n F) (n0 : n ≠ 0) (hc : 0 ≤ c ∧ c < p) (r : RG S' D c p n (cfF (mvC p c F) n) L fK dK) (hk : 0 ≤ k ∧ k ≤ L) (hv : 0 ≤ v ∧ v < p) : okE p n (dK k) (fK k) (lnE p v) := by
  obtain ⟨-, -, -, -, -, -, -, -, h9, -⟩ := mc
  exact (h9 n0 c hc.1 hc.2 fK dK k hk.1 (by have := r.2.2.2.1; omega) (r.2.2.2.2.1.pre hk.2)).2.2.2.1 v hv.1 hv.2
theorem mvC_cf {S : Hp} {D p n c : Int} {F : Int → Int} (hn : n ≤ 4) (v : ∀ e, 0 ≤ e → e < 49 → zG S (D + 31) e = mvC p c F e) : ∀ k, 0 ≤ k → k < 7 * n → zG S (D + 31) k = cfF (mvC p c F) n (k / 7) (k % 7) := fun k k0 k1 => by
  rw [v k k0 (by omega)]
  unfold cfF
  rw [if_pos (by omega), show 7 * (k / 7) + k % 7 = k by omega]
theorem m_table {d : Nat} {D p n c k a l m : Int} {S : Hp} {F : Int → Int} {Q : Vl → Hp → Prop} (h : MC S D p n F) (H0 : n = 0 → Q (0, -2) S) (H1 : n ≠ 0 → ¬ (0 ≤ c ∧ c < p) → Q (0, -1) S) (H2 : n ≠ 0 → 0 ≤ c ∧ c < p → ∀ S' L fK dK, opR D S S' → MC S' D p n F → RG S' D c p n (cfF (mvC p c F) n) L fK dK → Q (0, if (0 ≤ k ∧ k ≤ L) ∧ (0 ≤ a ∧ a < 4 * n ∧ a % 4 < n) ∧ (0 ≤ l ∧ l < n) ∧ 0 ≤ m ∧ m ≤ 60 then shN p n (dK k) (fK k) (mbL p n (cfF (mvC p c F) n) (fK k) (a / 4) (a % 4)) l m else -1) S') : Ev (d + 6) 242 [(2, D), (0, c), (0, k), (0, a), (0, l), (0, m)] S Q := by
  apply w_Model_table_0
  refine ⟨h.1.1, m_wrongRing h (fun n0 => ⟨_, rfl, fun z => by omega, fun _ => H0 n0⟩) (fun n0 hc => ⟨_, rfl, fun z => by omega, fun _ => H1 n0 hc⟩) (fun n0 hc S1 L fK dK o mc v r => ⟨fun z => ⟨_, rfl, fun z => by omega, fun _ => ?_⟩, fun hk => ⟨_, rfl, fun _ => ⟨mc.1.1, ?_⟩, fun y => absurd rfl y⟩⟩)⟩
  · have := H2 n0 hc S1 L fK dK o mc r
    rw [if_neg (fun y => z y.1)] at this
    exact this
  have hn : 2 ≤ n ∧ n ≤ 4 := by have := mc.2.2.2.2.1; omega
  have h2 := isPr_b mc.2.2.1
  have HH := H2 n0 hc
  obtain ⟨k9, hr, hok⟩ := RG.m mc n0 hc r hk
  rw [mc.2.2.2.1, w32_id (x := 4 * n) (by omega) (by omega), w32_id (x := 4 * n - 1) (by omega) (by omega)]
  refine m_in ⟨_, rfl, fun _ => ⟨by decide, mc.1.1⟩, fun y => ?_, fun y => ⟨mc.1.1, ?_⟩⟩
  · have := HH S1 L fK dK o mc r
    rw [if_neg] at this
    · exact this
    · rintro ⟨-, q, -, -⟩
      rw [mc.2.2.2.1, tm_nn q.1] at y
      rcases y with y | y
      · exact i0 y (by omega)
      · omega
  have ya : 0 ≤ a ∧ a ≤ 4 * n - 1 := Decidable.byContradiction (fun z => y (Or.inl (if_neg z)))
  rw [mc.2.2.2.1, tm_nn ya.1] at y
  have y4 : a % 4 < n := Decidable.byContradiction (fun z => y (Or.inr (by omega)))
  rw [mc.2.2.2.1, w32_id (x := n - 1) (by omega) (by omega), tm_nn ya.1]
  refine m_in ⟨_, rfl, fun y => ?_, fun y => ?_⟩
  · have := HH S1 L fK dK o mc r
    rw [if_neg (fun q => i0 y (by omega))] at this
    exact this
  have hl := i1 y
  refine m_in ⟨_, rfl, fun y => ⟨by decide, by decide, mc.1.1, ?_⟩, fun y => ?_⟩
  · have hm := i1 y
    have rb := r.b hk
    have fl : ∀ i, 0 ≤ i → i < n → ∀ a, 0 ≤ a → a < 84 → zG S1 (D + 32) (84 * (4 * k + i) + a) = flF (fK k) i a ∧ 0 ≤ flF (fK k) i a ∧ flF (fK k) i a < p := fun i i0 i1 a a0 a1 => by
      have := rb.1.1 i (a / 21) (a % 21) i0 i1 (by omega) (by omega) (by omega) (by omega)
      rw [show 84 * (4 * k + i) + 21 * (a / 21) + a % 21 = 84 * (4 * k + i) + a by omega] at this
      exact this
    obtain ⟨c1, c2, c3⟩ := cfF_mv (c := c) (n := n) (show 0 < p by omega) mc.2.2.2.2.2.2.2.1
    rw [show a.tdiv 4 = a / 4 from Int.tdiv_eq_ediv_of_nonneg ya.1, w32_id (x := a / 4) (by omega) (by omega)]
    refine m_multipliesBasis (F := flF (fK k) (a / 4)) (G := flF (fK k) (a % 4)) mc.1 mc.2.1 h2 mc.2.2.2.1 hn (by omega) (by omega) (by omega) (fl (a / 4) (by omega) (by omega)) (fl (a % 4) (by omega) (by omega)) (mvC_cf hn.2 v) c1 c2 c3 (fun S3 m3 b3 => ⟨rfl, ?_⟩)
    have w3 : DW S3 D := mc.1.md m3 (by omega)
    refine ⟨w3.1, m_isIn (Sp := mbL p n (cfF (mvC p c F) n) (fK k) (a / 4) (a % 4)) w3 ((m3.G (by omega) 0).trans mc.2.1) h2 ((m3.G (by omega) 1).trans mc.2.2.2.1) hn (by omega) (rb.1.keep m3 (by omega) (by omega)) hr b3 (fun i x a0 a1 hx => ?_) (fun hb => absurd (hok _ _ (by omega) (by omega) (by omega) (by omega)) hb) (fun _ S4 m4 c4 => ⟨_, rfl, ?_⟩)⟩
    · exact lwN_deg (D := 40) c2 (by omega) (fun b x hx => mbF_deg b x (Or.inr hx)) _ i x (by omega)
    have M4 : Md (fun x => x = D + 34 ∨ x = D + 35) S1 S4 := (m3.wide (fun x hx => Or.inl hx)).tr m4
    have w4 : DW S4 D := mc.1.md M4 (by omega)
    have o4 : ∀ i, zG S4 D i = zG S1 D i := fun i => M4.G (by omega) i
    have q4 := c4.2.2.1 l m hl.1 (by omega) hm.1 (by omega)
    have HH := HH S4 L fK dK (o.tr ⟨M4.wide (fun x hx => by unfold opM; omega), fun i _ _ _ => o4 i⟩) (mc.keep M4 w4 (by omega) (by omega) (by omega) (fun i _ => o4 i)) (r.keep M4 (by omega) (by omega) (fun i _ => o4 i))
    rw [if_pos ⟨hk, ⟨ya.1, by omega, y4⟩, ⟨hl.1, by omega⟩, hm⟩] at HH
    rw [w4.x_coord.1, w4.x_coord.2.1, w4.x_coord.2.2, w32_id (x := 96 * l) (by omega) (by omega), w32_id (x := 96 * l + m) (by omega) (by omega), q4]
    exact ⟨w4.1, ⟨rfl, by omega, by omega⟩, HH⟩
  · have := HH S1 L fK dK o mc r
    rw [if_neg (fun q => i2 y q.2.2.2)] at this
    exact this
