/-! The model: over, plus. -/
def rfE (n s : Int) (f : Prop) [Decidable f] (h : Int) : Int := if n = 0 then -2 else if 0 ≤ s ∧ s < 6 ∧ f then (if h = 0 then -11 else if h = 2 then -13 else 0) else -1
/-- an element on a shelf -/
def elW (S : Hp) (D s n p : Int) (W : Int → Int → Int) : Prop := (∀ j i, 0 ≤ j → j < 4 → 0 ≤ i → i < 31 → zG S (D + 4) (124 * s + 31 * j + i) = W j i) ∧ (∀ j i, 0 ≤ W j i ∧ W j i < p) ∧ (∀ j i, (i < 0 ∨ 30 < i) → W j i = 0) ∧ ∀ j i, (j < 0 ∨ n ≤ j) → W j i = 0
def shR (D s M c : Int) (G : Int → Int → Int) (S S' : Hp) : Prop := Md (fun x => x = D ∨ x = D + 3 ∨ x = D + 4 ∨ x = D + 5 ∨ x = D + 6 ∨ x = D + 41) S S' ∧ DW S' D ∧ (∀ i, i ≠ 58 → i ≠ 59 → zG S' D i = zG S D i) ∧ (∀ i, i ≠ s → zG S' (D + 3) i = zG S (D + 3) i ∧ zG S' (D + 5) i = zG S (D + 5) i ∧ zG S' (D + 6) i = zG S (D + 6) i) ∧ zG S' (D + 3) s = 1 ∧ zG S' (D + 5) s = M ∧ zG S' (D + 6) s = (if M = 0 then 0 else c) ∧ (∀ j i, 0 ≤ j → j < 4 → 0 ≤ i → i < 31 → zG S' (D + 4) (124 * s + 31 * j + i) = G j i) ∧ ∀ x, x < 124 * s ∨ 124 * s + 124 ≤ x → zG S' (D + 4) x = zG S (D + 4) x
def nfR (D : Int) (S S' : Hp) : Prop := Md (fun x => x = D ∨ x = D + 41) S S' ∧ DW S' D ∧ ∀ i, i ≠ 58 → i ≠ 59 → zG S' D i = zG S D i
theorem nfR.tr {D : Int} {S T U : Hp} (h : nfR D S T) (h' : nfR D T U) : nfR D S U := ⟨h.1.tr h'.1, h'.2.1, fun i i1 i2 => (h'.2.2 i i1 i2).trans (h.2.2 i i1 i2)⟩
theorem stlR.sh {D s n M c : Int} {G : Int → Int → Int} {S S1 S' : Hp} (h : stlR D s n M c G S1 S') (m : nfR D S S1) : shR D s M c G S S' := by
  obtain ⟨h1, h2, h3, h4, h5, h6, h7, h8, h9⟩ := h
  obtain ⟨m1, -, o1⟩ := m
  refine ⟨(m1.wide (fun x hx => by omega)).tr h1, h2, fun i hi hi' => (h3 i hi).trans (o1 i hi hi'), fun i hi => ⟨?_, ?_, ?_⟩, h5, h6, h7, h8, fun x hx => ?_⟩
  · rw [(h4 i hi).1, m1.G (by omega)]
  · rw [(h4 i hi).2.1, m1.G (by omega)]
  · rw [(h4 i hi).2.2, m1.G (by omega)]
  · rw [h9 x hx, m1.G (by omega)]
/-- what stands at work comes to shelf s in lowest terms, or there is no room -/
def stP (D p s m c : Int) (W : Int → Int → Int) (S : Hp) (Q : Vl → Hp → Prop) : Prop := (((lwM p c 99 m.toNat W : Int) ≤ 20 ∧ ∀ j, 0 ≤ j → j < 4 → ∀ i, 30 < i → lwF p c 99 m.toNat W j i = 0) → ∀ S', shR D s (lwM p c 99 m.toNat W) c (lwF p c 99 m.toNat W) S S' → Q (0, lwM p c 99 m.toNat W) S') ∧ (¬ ((lwM p c 99 m.toNat W : Int) ≤ 20 ∧ ∀ j, 0 ≤ j → j < 4 → ∀ i, 30 < i → lwF p c 99 m.toNat W j i = 0) → ∀ S', nfR D S S' → Q (0, -4) S')
theorem m_settlesF {d : Nat} {D p n c s m : Int} {S0 S : Hp} {W : Int → Int → Int} {Q : Vl → Hp → Prop} (h2 : 2 ≤ p ∧ p ≤ 7) (hn : 2 ≤ n ∧ n ≤ 4) (hc : 0 ≤ c ∧ c < p) (hs : 0 ≤ s ∧ s < 6) (hm : 0 ≤ m ∧ m < 1000) (h : DW S D) (hp : zG S D 0 = p) (hN : zG S D 1 = n) (h58 : zG S D 58 = m) (h59 : zG S D 59 = c) (hW : BR S (D + 41) 100 7 p W) (zW : ∀ b x, n ≤ b → W b x = 0) (hf : nfR D S0 S) (H : stP D p s m c W S0 Q) : Ev (d + 2) 249 [(2, D), (0, s)] S Q := m_settles h2 hn hc hs hm h hp hN h58 h59 hW zW (fun ft S' r => H.1 ft S' (r.sh hf)) (fun ft S' mm ww o => H.2 ft S' (hf.tr ⟨mm, ww, fun i i1 _ => o i i1⟩))
theorem elW.up {d : Nat} {D p n s : Int} {S : Hp} {W : Int → Int → Int} {Q : Vl → Hp → Prop} (e : elW S D s n p W) (h : DW S D) (hN : zG S D 1 = n) (hn : 2 ≤ n ∧ n ≤ 4) (h2 : 2 ≤ p ∧ p ≤ 7) (hs : 0 ≤ s ∧ s < 6) (H : ∀ S', nfR D S S' → zG S' D 58 = zG S (D + 5) s → zG S' D 59 = zG S (D + 6) s → BR S' (D + 41) 100 7 p W → Q (3, 0) S') : Ev (d + 1) 250 [(2, D), (0, s)] S Q := m_takesUp h hN hn h2 hs (fun j i j0 j1 i0 i1 => e.1 j i j0 (by omega) i0 i1) e.2.1 (fun S' m w o o1 o2 b => H S' ⟨m, w, o⟩ o1 o2 (b.congr (fun c x => by
  by_cases q : 0 ≤ c ∧ c < n ∧ 0 ≤ x ∧ x < 31
  · rw [if_pos q]
  · rw [if_neg q]
    by_cases q2 : c < 0 ∨ n ≤ c
    · exact (e.2.2.2 c x q2).symm
    · exact (e.2.2.1 c x (by omega)).symm)))
set_option maxHeartbeats 1000000 in
theorem m_over {d : Nat} {D p n s c m : Int} {S : Hp} {W : Int → Int → Int} {Q : Vl → Hp → Prop} (h : DW S D) (hp : zG S D 0 = p) (h2 : 2 ≤ p ∧ p ≤ 7) (hN : zG S D 1 = n) (hn : n = 0 ∨ (2 ≤ n ∧ n ≤ 4)) (hE : rfE n s True (zG S (D + 3) s) = 0 → elW S D s n p W ∧ 0 ≤ zG S (D + 5) s ∧ zG S (D + 5) s ≤ 20) (H0 : rfE n s ((0 ≤ c ∧ c < p) ∧ 0 ≤ m ∧ m ≤ 20) (zG S (D + 3) s) ≠ 0 → Q (0, rfE n s ((0 ≤ c ∧ c < p) ∧ 0 ≤ m ∧ m ≤ 20) (zG S (D + 3) s)) S) (H1 : rfE n s ((0 ≤ c ∧ c < p) ∧ 0 ≤ m ∧ m ≤ 20) (zG S (D + 3) s) = 0 → 0 < zG S (D + 5) s ∧ zG S (D + 6) s ≠ c → Q (0, -13) S) (H2 : rfE n s ((0 ≤ c ∧ c < p) ∧ 0 ≤ m ∧ m ≤ 20) (zG S (D + 3) s) = 0 → ¬ (0 < zG S (D + 5) s ∧ zG S (D + 6) s ≠ c) → stP D p s (zG S (D + 5) s + m) c W S Q) : Ev (d + 3) 255 [(2, D), (0, s), (0, c), (0, m)] S Q := by
  apply w_Model_over_0
  rw [hN]
  refine ⟨h.1, fun n0 => m_isShelf ⟨_, rfl, fun hz => ?_, fun hz => ⟨h.1, m_isNumber h.1 hp h2 ⟨_, rfl, fun hz => ?_, fun hz2 => m_in ⟨_, rfl, fun hz3 => ⟨h.1, ?_⟩, fun hz => ?_⟩⟩⟩⟩, fun n0 => ?_⟩
  · have e : rfE n s ((0 ≤ c ∧ c < p) ∧ 0 ≤ m ∧ m ≤ 20) (zG S (D + 3) s) = -1 := by
      unfold rfE
      rw [if_neg n0, if_neg (by grind)]
    rw [e] at H0
    exact H0 (by omega)
  · have e : rfE n s ((0 ≤ c ∧ c < p) ∧ 0 ≤ m ∧ m ≤ 20) (zG S (D + 3) s) = -1 := by
      unfold rfE
      rw [if_neg n0, if_neg (by grind)]
    rw [e] at H0
    exact H0 (by omega)
  · have hs : 0 ≤ s ∧ s < 6 := by grind
    have hc : 0 ≤ c ∧ c < p := by grind
    have hm : 0 ≤ m ∧ m ≤ 20 := by grind
    have er : rfE n s ((0 ≤ c ∧ c < p) ∧ 0 ≤ m ∧ m ≤ 20) (zG S (D + 3) s) = if zG S (D + 3) s = 0 then -11 else if zG S (D + 3) s = 2 then -13 else 0 := by
      unfold rfE
      rw [if_neg n0, if_pos ⟨hs.1, hs.2, hc, hm⟩]
    have er2 : rfE n s True (zG S (D + 3) s) = if zG S (D + 3) s = 0 then -11 else if zG S (D + 3) s = 2 then -13 else 0 := by
      unfold rfE
      rw [if_neg n0, if_pos ⟨hs.1, hs.2, trivial⟩]
    rw [er] at H0 H1 H2
    rw [er2] at hE
    refine m_wrongElement h hs (fun hh => ⟨_, rfl, fun hz => absurd (by decide) hz, fun _ => ?_, fun hz => absurd (Or.inl (by decide)) hz⟩) (fun hh => ⟨_, rfl, fun hz => absurd (by decide) hz, fun _ => ?_, fun hz => absurd (Or.inl (by decide)) hz⟩) (fun hh hh2 => ⟨_, rfl, fun hz => ?_, fun hz => ?_, fun hz => ?_⟩)
    · apply w_Model_over_72
      rw [if_pos hh] at H0
      exact ⟨fun z => by omega, fun z => H0 (by omega)⟩
    · apply w_Model_over_72
      rw [if_neg (by omega), if_pos hh] at H0
      exact ⟨fun z => by omega, fun z => H0 (by omega)⟩
    · rw [h.x_under.1, h.x_under.2.1, h.x_under.2.2, h.x_places.1, h.x_places.2.1, h.x_places.2.2]
      exact ⟨h.1, ⟨rfl, by omega, by omega⟩, fun _ => ⟨h.1, rfl, by omega, by omega⟩⟩
    · rw [if_neg hh, if_neg hh2] at H0 H1 H2 hE
      rw [h.x_under.1, h.x_places.1] at hz
      have H2 := H2 rfl (by omega)
      obtain ⟨ew, u0, u1⟩ := hE rfl
      apply w_Model_over_72
      refine ⟨fun _ => ⟨h.1, ?_⟩, fun z => absurd rfl z⟩
      refine ew.up h hN (by omega) h2 hs (fun S1 f1 a1 b1 w1 => ⟨rfl, f1.2.1.1, f1.2.1.1, ?_⟩)
      rintro _ rfl
      refine ⟨f1.2.1.1, ?_⟩
      rintro _ rfl
      rw [a1, w32_id (by omega) (by omega)]
      have f3 : nfR D S (zS (zS S1 D 58 (zG S (D + 5) s + m)) D 59 c) := f1.tr ⟨((Md.zS _ _ _ _).tr (Md.zS _ _ _ _)).wide (fun x hx => Or.inl hx), (f1.2.1.sc (by decide)).sc (by decide), fun i i1 i2 => by rw [zG_zS_ne _ (Or.inr i2), zG_zS_ne _ (Or.inr i1)]⟩
      refine ⟨f1.2.1.1, m_settlesF (W := W) h2 (by omega) hc hs (m := zG S (D + 5) s + m) (by omega) f3.2.1 ((f3.2.2 0 (by omega) (by omega)).trans hp) ((f3.2.2 1 (by omega) (by omega)).trans hN) (by rw [zG_zS_ne _ (Or.inr (by omega)), zG_zS_at]) (zG_zS_at _ _ _ _) ((w1.keep (Md.zS _ _ _ _) (by omega)).keep (Md.zS _ _ _ _) (by omega)) (fun b x hb => ew.2.2.2 b x (Or.inr hb)) f3 ⟨fun ft S' r => ⟨_, rfl, H2.1 ft S' r⟩, fun ft S' r => ⟨_, rfl, H2.2 ft S' r⟩⟩⟩
    · rw [if_neg hh, if_neg hh2] at H1
      rw [h.x_under.1, h.x_places.1] at hz
      apply w_Model_over_72
      exact ⟨fun z => by omega, fun _ => H1 rfl (by omega)⟩
  · have e : rfE n s ((0 ≤ c ∧ c < p) ∧ 0 ≤ m ∧ m ≤ 20) (zG S (D + 3) s) = -1 := by
      unfold rfE
      rw [if_neg n0, if_neg (by grind)]
    rw [e] at H0
    exact H0 (by omega)
  · have e : rfE n s ((0 ≤ c ∧ c < p) ∧ 0 ≤ m ∧ m ≤ 20) (zG S (D + 3) s) = -2 := by
      unfold rfE
      rw [if_pos (by omega)]
    rw [e] at H0
    exact H0 (by omega)
/-- why two shelves can't be taken together -/
def rfT (n a b t ha hb ua ub pa pb : Int) : Int := if n = 0 then -2 else if (0 ≤ a ∧ a < 6) ∧ (0 ≤ b ∧ b < 6) ∧ 0 ≤ t ∧ t < 6 then (if ha = 0 ∨ hb = 0 then -11 else if ha = 2 ∨ hb = 2 then -13 else if 0 < ua ∧ 0 < ub ∧ pa ≠ pb then -13 else 0) else -1
theorem m_wrongTwo {d : Nat} {D n a b t : Int} {S : Hp} {Q : Vl → Hp → Prop} (h : DW S D) (hN : zG S D 1 = n) (H : Q (0, rfT n a b t (zG S (D + 3) a) (zG S (D + 3) b) (zG S (D + 5) a) (zG S (D + 5) b) (zG S (D + 6) a) (zG S (D + 6) b)) S) : Ev (d + 2) 256 [(2, D), (0, a), (0, b), (0, t)] S Q := by
  apply w_Model_wrongTwo_0
  rw [hN]
  unfold rfT at H
  refine ⟨h.1, fun n0 => m_isShelf ⟨_, rfl, fun hz => ?_, fun hz1 => m_isShelf ⟨_, rfl, fun hz => ?_, fun hz2 => m_isShelf ⟨_, rfl, fun hz3 => ?_, fun hz => ?_⟩⟩⟩, fun n0 => ?_⟩
  · rw [if_neg n0, if_neg (by grind)] at H
    exact H
  · rw [if_neg n0, if_neg (by grind)] at H
    exact H
  · have h1 : 0 ≤ a ∧ a < 6 := by grind
    have h2 : 0 ≤ b ∧ b < 6 := by grind
    have h3 : 0 ≤ t ∧ t < 6 := by grind
    rw [if_neg n0, if_pos ⟨h1, h2, h3⟩] at H
    rw [h.x_holds.1, h.x_holds.2.1, h.x_holds.2.2, h.x_under.1, h.x_under.2.1, h.x_under.2.2, h.x_places.1, h.x_places.2.1, h.x_places.2.2]
    refine ⟨h.1, ⟨rfl, by omega, by omega⟩, fun _ => ⟨h.1, rfl, by omega, by omega⟩, fun hz => ?_, fun hz => ⟨h.1, ⟨rfl, by omega, by omega⟩, fun _ => ⟨h.1, rfl, by omega, by omega⟩, fun hy => ?_, fun hy => ⟨h.1, ⟨rfl, by omega, by omega⟩, fun _ => ⟨h.1, ⟨rfl, by omega, by omega⟩, fun _ => ⟨h.1, ⟨rfl, by omega, by omega⟩, h.1, rfl, by omega, by omega⟩⟩, fun hx => ?_, fun hx => ?_⟩⟩⟩
    · rw [if_pos (by omega)] at H
      exact H
    · rw [if_neg (by omega), if_pos hy] at H
      apply w_Model_wrongTwo_107
      apply w_Model_wrongTwo_112
      rintro _ rfl
      exact H
    · rw [if_neg (by omega), if_neg hy, if_neg (by omega)] at H
      apply w_Model_wrongTwo_111
      apply w_Model_wrongTwo_112
      rintro _ rfl
      exact H
    · rw [if_neg (by omega), if_neg hy, if_pos (by omega)] at H
      apply w_Model_wrongTwo_107
      apply w_Model_wrongTwo_112
      rintro _ rfl
      exact H
  · rw [if_neg n0, if_neg (by grind)] at H
    exact H
  · rw [if_pos (by omega)] at H
    exact H
