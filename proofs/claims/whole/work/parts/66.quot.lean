/-! Quotient: the sum of a_j y^j by (x - c)^m. -/
def QW (S : Hp) (a r : Int) : Prop := zK S a = 8 ∧ zG S a 0 = a + 1 ∧ LAW S (a + 1) 4 (fun _ => r)
def QN (S : Hp) (a r p m c : Int) (F : Int → Int → Int) : Prop := zK S a = 8 ∧ zG S a 0 = a + 1 ∧ zG S a 1 = m ∧ zG S a 2 = c ∧ LAN S (a + 1) 4 (fun _ => r) p F
/-- the cells of a quotient -/
def MQ' (a : Int) : Int → Prop := fun x => a ≤ x ∧ x ≤ a + 9
theorem QN.w {S : Hp} {a r p m c : Int} {F : Int → Int → Int} (h : QN S a r p m c F) : QW S a r := ⟨h.1, h.2.1, h.2.2.2.2.w⟩
theorem QW.keep {M : Int → Prop} {S S' : Hp} {a r : Int} (h : QW S a r) (hm : Md M S S') (hM : ∀ x, a ≤ x → x ≤ a + 9 → ¬ M x) : QW S' a r := ⟨by rw [hm.K]; exact h.1, by rw [hm.G (hM a (by omega) (by omega))]; exact h.2.1, h.2.2.keep hm (fun x h1 h2 => hM x (by omega) (by omega)) (by omega)⟩
theorem QN.keep {M : Int → Prop} {S S' : Hp} {a r p m c : Int} {F : Int → Int → Int} (h : QN S a r p m c F) (hm : Md M S S') (hM : ∀ x, a ≤ x → x ≤ a + 9 → ¬ M x) : QN S' a r p m c F := by
  have h0 := hM a (by omega) (by omega)
  exact ⟨by rw [hm.K]; exact h.1, by rw [hm.G h0]; exact h.2.1, by rw [hm.G h0]; exact h.2.2.1, by rw [hm.G h0]; exact h.2.2.2.1, h.2.2.2.2.keep hm (fun x h1 h2 => hM x (by omega) (by omega)) (by omega)⟩
theorem QN.congr {S : Hp} {a r p m c : Int} {F G : Int → Int → Int} (h : QN S a r p m c F) (hF : ∀ i, 0 ≤ i → i < 4 → ∀ j, F i j = G i j) : QN S a r p m c G := ⟨h.1, h.2.1, h.2.2.1, h.2.2.2.1, h.2.2.2.2.congr hF⟩
/-- a quotient's own numbers written -/
theorem QN.put {S : Hp} {a r p m c v : Int} {F : Int → Int → Int} (h : QN S a r p m c F) : QN (zS S a 1 v) a r p v c F ∧ QN (zS S a 2 v) a r p m v F := by
  obtain ⟨h1, h2, h3, h4, h5⟩ := h
  constructor
  · exact ⟨h1, by rw [zG_zS_ne _ (Or.inr (by omega))]; exact h2, zG_zS_at _ _ _ _, by rw [zG_zS_ne _ (Or.inr (by omega))]; exact h4, h5.keep (Md.zS S a 1 v) (fun x h1 h2 => by omega) (by omega)⟩
  · exact ⟨h1, by rw [zG_zS_ne _ (Or.inr (by omega))]; exact h2, by rw [zG_zS_ne _ (Or.inr (by omega))]; exact h3, zG_zS_at _ _ _ _, h5.keep (Md.zS S a 2 v) (fun x h1 h2 => by omega) (by omega)⟩
theorem s_qzero {d : Nat} {a r p : Int} {S : Hp} {Q : Vl → Hp → Prop} (h : QW S a r) (hp : 0 < p) (H : ∀ S', Md (MQ' a) S S' → QN S' a r p 0 0 (fun _ _ => 0) → Q (3, 0) S') : Ev (d + 2) 73 [(2, a)] S Q := by
  obtain ⟨h1, h2, h3⟩ := h
  apply w_Quotient_zero_0
  refine ⟨h1, ?_⟩
  rw [h2]
  refine s_zeroLines h3 (by omega) hp (fun S1 g1 g2 => ⟨rfl, by rw [g1.K]; exact h1, ?_⟩)
  rintro _ rfl
  refine ⟨by rw [zK_zS, g1.K]; exact h1, ?_⟩
  rintro _ rfl
  have q0 : QN S1 a r p (zG S1 a 1) (zG S1 a 2) (fun _ _ => 0) := ⟨by rw [g1.K]; exact h1, by rw [g1.G (by unfold MA; omega)]; exact h2, rfl, rfl, g2⟩
  refine H _ ?_ ((q0.put (v := 0)).1.put (v := 0)).2
  exact ((g1.wide (fun x hx => by unfold MA at hx; unfold MQ'; omega)).tr ((Md.zS _ a 1 0).wide (fun x hx => by unfold MQ'; omega))).tr ((Md.zS _ a 2 0).wide (fun x hx => by unfold MQ'; omega))
theorem s_qtake {d : Nat} {a b r r' p m c : Int} {S : Hp} {F : Int → Int → Int} {Q : Vl → Hp → Prop} (h : QW S a r) (h' : QN S b r' p m c F) (hne : a + 9 < b ∨ b + 9 < a) (hu : ∀ j, 0 ≤ j → j < 4 → ∀ i, r ≤ i → F j i = 0) (H : ∀ S', Md (MQ' a) S S' → QN S' a r p m c F → Q (3, 0) S') : Ev (d + 1) 74 [(2, a), (2, b)] S Q := by
  obtain ⟨h1, h2, h3⟩ := h
  apply w_Quotient_take_0
  refine loopU (P := fun i S' => At (d + 1) 74 c74_2 [(0, (2, a)), (1, (2, b)), (2, (0, i))] [] S' Q) (I := fun i S' => 0 ≤ i ∧ Md (MA (a + 1) 4) S S' ∧ LAW S' (a + 1) 4 (fun _ => r) ∧ ∀ j, 0 ≤ j → j < i → LN S' (a + 1 + 1 + 2 * j) r p (F j)) 4 ?_ ?_ 0 S (by omega) ⟨by omega, Md.refl _ _, h3, fun j j0 j1 => by omega⟩
  · rintro i S1 hi ⟨h0, hm, hw, hz⟩ hk
    have hb := h'.keep hm (fun x x1 x2 => by unfold MA; omega)
    apply w_Quotient_take_2
    have e1 : zG S1 a 0 = a + 1 := by rw [hm.G (by unfold MA; omega)]; exact h2
    rw [e1, hb.2.1, hw.ptr h0 hi, hb.2.2.2.2.ptr h0 hi]
    refine ⟨fun hc => by omega, fun _ => ⟨by rw [hm.K]; exact h1, ⟨hw.1, h0, by rw [hw.2.1]; exact hi⟩, hb.1, ⟨hb.2.2.2.2.1, h0, by rw [hb.2.2.2.2.2.1]; exact hi⟩, (hw.2.2 i h0 hi).2.ln.1, ?_⟩⟩
    refine n_take (hw.2.2 i h0 hi).2 (hb.2.2.2.2.at h0 hi) (by omega) (hu i h0 hi) (fun S2 g1 g2 => ⟨rfl, ?_⟩)
    rintro _ rfl
    rw [w32_id (by omega) (by omega)]
    refine hk _ ⟨by omega, hm.tr (g1.wide (fun x hx => by unfold ML at hx; unfold MA; omega)), hw.set g1 h0 hi g2.w, fun j j0 j1 => ?_⟩
    by_cases e : j = i
    · subst e
      exact g2
    · exact (hz j j0 (by omega)).keep g1 (by unfold ML; omega) (by unfold ML; omega)
  · rintro S1 ⟨h0, hm, hw, hz⟩
    have hb := h'.keep hm (fun x x1 x2 => by unfold MA; omega)
    apply w_Quotient_take_2
    refine ⟨fun _ => ⟨hb.1, by rw [hm.K]; exact h1, ?_⟩, fun hc => by omega⟩
    rintro _ rfl
    refine ⟨hb.1, by rw [zK_zS, hm.K]; exact h1, ?_⟩
    rintro _ rfl
    rw [zG_zS_ne S1 (Or.inl (show b ≠ a by omega)), hb.2.2.1, hb.2.2.2.1]
    have q0 : QN S1 a r p (zG S1 a 1) (zG S1 a 2) F := ⟨by rw [hm.K]; exact h1, by rw [hm.G (by unfold MA; omega)]; exact h2, rfl, rfl, hw.1, hw.2.1, fun i i0 i1 => ⟨hw.ptr i0 i1, hz i i0 i1⟩⟩
    refine H _ ?_ ((q0.put (v := m)).1.put (v := c)).2
    exact ((hm.wide (fun x hx => by unfold MA at hx; unfold MQ'; omega)).tr ((Md.zS _ a 1 m).wide (fun x hx => by unfold MQ'; omega))).tr ((Md.zS _ a 2 c).wide (fun x hx => by unfold MQ'; omega))
/-- all four are 0 at c -/
def rootAll (p c T : Int) (F : Int → Int → Int) : Prop := qr p c (F 0) T (-1) = 0 ∧ qr p c (F 1) T (-1) = 0 ∧ qr p c (F 2) T (-1) = 0 ∧ qr p c (F 3) T (-1) = 0
theorem rootAll_iff {p c T : Int} {F : Int → Int → Int} : rootAll p c T F ↔ ∀ j, 0 ≤ j → j < 4 → qr p c (F j) T (-1) = 0 := by
  constructor
  · rintro ⟨h0, h1, h2, h3⟩ j j0 j1
    rcases (show j = 0 ∨ j = 1 ∨ j = 2 ∨ j = 3 by omega) with rfl | rfl | rfl | rfl
    · exact h0
    · exact h1
    · exact h2
    · exact h3
  · intro h
    exact ⟨h 0 (by omega) (by omega), h 1 (by omega) (by omega), h 2 (by omega) (by omega), h 3 (by omega) (by omega)⟩
/-- divided by x - c, as often as m and the numbers let it -/
def dvR (p c T : Int) (F : Int → Int → Int) : Int → Int → Int := fun j i => if i < 0 then 0 else qr p c (F j) T i
noncomputable def lwM (p c T : Int) : Nat → (Int → Int → Int) → Nat
  | 0, _ => 0
  | m + 1, F => @ite _ (rootAll p c T F) (Classical.propDecidable _) (lwM p c T m (dvR p c T F)) (m + 1)
noncomputable def lwF (p c T : Int) : Nat → (Int → Int → Int) → Int → Int → Int
  | 0, F => F
  | m + 1, F => @ite _ (rootAll p c T F) (Classical.propDecidable _) (lwF p c T m (dvR p c T F)) F
theorem lwM_yes {p c T : Int} {m : Nat} {F : Int → Int → Int} (h : rootAll p c T F) : lwM p c T (m + 1) F = lwM p c T m (dvR p c T F) ∧ lwF p c T (m + 1) F = lwF p c T m (dvR p c T F) := ⟨if_pos h, if_pos h⟩
theorem lwM_no {p c T : Int} {m : Nat} {F : Int → Int → Int} (h : ¬ rootAll p c T F) : lwM p c T (m + 1) F = m + 1 ∧ lwF p c T (m + 1) F = F := ⟨if_neg h, if_neg h⟩
theorem s_isRootOfAll {d : Nat} {a r p m c T : Int} {S : Hp} {F : Int → Int → Int} {Q : Vl → Hp → Prop} (h : QN S a r p m c F) (hc : 0 ≤ c ∧ c < p) (hp : 0 < p ∧ p < 1000) (hT : ∀ j, 0 ≤ j → j < 4 → ∀ i, T < i → F j i = 0) (hT1 : -1 ≤ T) (H1 : rootAll p c T F → Q (0, 1) S) (H0 : ¬ rootAll p c T F → Q (0, 0) S) : Ev (d + 1) 77 [(2, a), (0, p)] S Q := by
  obtain ⟨h1, h2, h3, h4, h5⟩ := h
  apply w_Quotient_isRootOfAll_0
  refine loopU (α := Unit) (P := fun i _ => At (d + 1) 77 c77_2 [(0, (2, a)), (1, (0, p)), (2, (0, i))] [] S Q) (I := fun i _ => 0 ≤ i ∧ ∀ j, 0 ≤ j → j < i → qr p c (F j) T (-1) = 0) 4 ?_ ?_ 0 () (by omega) ⟨by omega, fun j j0 j1 => by omega⟩
  · rintro i _ hi ⟨h0, hz⟩ hk
    apply w_Quotient_isRootOfAll_2
    rw [h2, h5.ptr h0 hi, h4]
    refine ⟨fun hc => by omega, fun _ => ⟨h1, ⟨h5.1, h0, by rw [h5.2.1]; exact hi⟩, h1, (h5.at h0 hi).ln.1, ?_⟩⟩
    refine n_valueAt T (h5.at h0 hi) hc hp (hT i h0 hi) hT1 ⟨_, rfl, fun hq => ?_, fun hq => ⟨Or.inl rfl, H0 (fun z => hq (rootAll_iff.mp z i h0 hi))⟩⟩
    rintro _ rfl
    rw [w32_id (by omega) (by omega)]
    refine hk () ⟨by omega, fun j j0 j1 => ?_⟩
    by_cases e : j = i
    · subst e
      exact hq
    · exact hz j j0 (by omega)
  · rintro _ ⟨h0, hz⟩
    apply w_Quotient_isRootOfAll_2
    exact ⟨fun _ => ⟨Or.inr rfl, H1 (rootAll_iff.mpr hz)⟩, fun hc => absurd (show (4 : Int) ≤ 4 by omega) hc⟩
theorem s_lower {d : Nat} {a r p c T : Int} {Q : Vl → Hp → Prop} (hc : 0 ≤ c ∧ c < p) (hp : 0 < p ∧ p < 1000) (hT1 : -1 ≤ T) : ∀ (m : Nat) (S : Hp) (F : Int → Int → Int), m < 1000 → QN S a r p m c F → (∀ j, 0 ≤ j → j < 4 → ∀ i, T < i → F j i = 0) → (∀ S', Md (MQ' a) S S' → QN S' a r p (lwM p c T m F) (if lwM p c T m F = 0 then 0 else c) (lwF p c T m F) → Q (3, 0) S') → At (d + 2) 76 c76_0 [(0, (2, a)), (1, (0, p))] [] S Q := by
  have hexit : ∀ (S : Hp) (m : Nat) (F : Int → Int → Int), QN S a r p m c F → (∀ S', Md (MQ' a) S S' → QN S' a r p m (if m = 0 then 0 else c) F → Q (3, 0) S') → At (d + 2) 76 c76_55 [(0, (2, a))] [] S Q := by
    intro S m F h H
    apply w_Quotient_lower_55
    rw [h.2.2.1]
    refine ⟨h.1, fun hq => H S (Md.refl _ _) ?_, fun hq => ⟨h.1, ?_⟩⟩
    · rw [if_neg (by omega)]
      exact h
    · rintro _ rfl
      refine H _ ((Md.zS S a 2 0).wide (fun x hx => by unfold MQ'; omega)) ?_
      rw [if_pos (by omega)]
      exact (h.put (v := 0)).2
  intro m
  induction m with
  | zero =>
    intro S F hm h hT H
    apply w_Quotient_lower_0
    rw [h.2.2.1]
    exact ⟨h.1, fun _ => hexit S 0 F h H, fun hq => absurd (show ((0 : Nat) : Int) ≤ 0 by omega) hq⟩
  | succ m ih =>
    intro S F hm h hT H
    apply w_Quotient_lower_0
    rw [h.2.2.1]
    refine ⟨h.1, fun hq => by omega, fun _ => ⟨h.1, ?_⟩⟩
    refine s_isRootOfAll h hc hp hT hT1 (fun hr => ⟨1, rfl, fun q => by omega, fun _ => ?_⟩) (fun hr => ⟨0, rfl, fun _ => ?_, fun q => absurd rfl q⟩)
    · rw [(lwM_yes hr).1, (lwM_yes hr).2] at H
      refine loopU (P := fun i S' => At (d + 2) 76 c76_17 [(0, (2, a)), (1, (0, p)), (2, (0, i))] [] S' Q) (I := fun i S' => 0 ≤ i ∧ Md (MQ' a) S S' ∧ QN S' a r p (m + 1 : Nat) c (fun j => if j < i then dvR p c T F j else F j)) 4 ?_ ?_ 0 S (by omega) ⟨by omega, Md.refl _ _, h.congr fun i i0 i1 j => by rw [if_neg (by omega)]⟩
      · rintro i S1 hi ⟨h0, hmd, hq⟩ hk
        apply w_Quotient_lower_17
        have hl := hq.2.2.2.2.at h0 hi
        rw [if_neg (show ¬ i < i by omega)] at hl
        rw [hq.2.1, hq.2.2.2.2.ptr h0 hi, hq.2.2.2.1]
        refine ⟨fun hc => by omega, fun _ => ⟨hq.1, ⟨hq.2.2.2.2.1, h0, by rw [hq.2.2.2.2.2.1]; exact hi⟩, hq.1, hl.ln.1, ?_⟩⟩
        refine n_divideByRoot T hl hc hp (hT i h0 hi) hT1 (fun S2 g1 g2 => ⟨rfl, ?_⟩)
        rintro _ rfl
        rw [w32_id (by omega) (by omega)]
        have hne : ¬ ML (a + 1 + 1 + 2 * i) a := by unfold ML; omega
        refine hk _ ⟨by omega, hmd.tr (g1.wide (fun x hx => by unfold ML at hx; unfold MQ'; omega)), ?_⟩
        refine ⟨by rw [g1.K]; exact hq.1, by rw [g1.G hne]; exact hq.2.1, by rw [g1.G hne]; exact hq.2.2.1, by rw [g1.G hne]; exact hq.2.2.2.1, (hq.2.2.2.2.set g1 h0 hi g2).congr fun j j0 j1 k => ?_⟩
        by_cases e : j = i
        · rw [if_pos e, if_pos (show j < i + 1 by omega), e]
          rfl
        · rw [if_neg e]
          by_cases e2 : j < i
          · rw [if_pos e2, if_pos (by omega)]
          · rw [if_neg e2, if_neg (by omega)]
      · rintro S1 ⟨h0, hmd, hq⟩
        apply w_Quotient_lower_17
        refine ⟨fun _ => ⟨hq.1, hq.1, ?_⟩, fun hc => absurd (show (4 : Int) ≤ 4 by omega) hc⟩
        rintro _ rfl
        rw [hq.2.2.1, w32_id (by omega) (by omega), show ((m + 1 : Nat) : Int) - 1 = m by omega]
        refine ih _ (dvR p c T F) (by omega) ((hq.put (v := m)).1.congr fun j j0 j1 k => by rw [if_pos j1]) (fun j j0 j1 i hi => ?_) (fun S' g1 g2 => H S' ((hmd.tr ((Md.zS _ a 1 m).wide (fun x hx => by unfold MQ'; omega))).tr g1) g2)
        unfold dvR
        by_cases hi0 : i < 0
        · rw [if_pos hi0]
        · rw [if_neg hi0, qr_top (by omega)]
    · rw [(lwM_no hr).1, (lwM_no hr).2] at H
      exact hexit S (m + 1) F h H
theorem s_hasRoom {d : Nat} {a r p m c : Int} {S : Hp} {F : Int → Int → Int} {Q : Vl → Hp → Prop} (h : QN S a r p m c F) (H1 : (m ≤ 20 ∧ ∀ j, 0 ≤ j → j < 4 → ∀ i, 30 < i → F j i = 0) → Q (0, 1) S) (H0 : ¬ (m ≤ 20 ∧ ∀ j, 0 ≤ j → j < 4 → ∀ i, 30 < i → F j i = 0) → Q (0, 0) S) : Ev d 80 [(2, a)] S Q := by
  obtain ⟨h1, h2, h3, h4, h5⟩ := h
  apply w_Quotient_hasRoom_0
  refine loopU (α := Unit) (P := fun i _ => At d 80 c80_2 [(0, (2, a)), (1, (0, i))] [] S Q) (I := fun i _ => 0 ≤ i ∧ ∀ j, 0 ≤ j → j < i → ∀ k, 30 < k → F j k = 0) 4 ?_ ?_ 0 () (by omega) ⟨by omega, fun j j0 j1 => by omega⟩
  · rintro i _ hi ⟨h0, hz⟩ hk
    apply w_Quotient_hasRoom_2
    obtain ⟨t, ht1, ht2, -⟩ := h5.at h0 hi
    rw [h2, h5.ptr h0 hi, ht1.2.1]
    refine ⟨fun hc => by omega, fun _ => ⟨h1, ⟨h5.1, h0, by rw [h5.2.1]; exact hi⟩, ht1.1.1, fun hq => ?_, fun hq => ⟨Or.inl rfl, H0 (fun z => ?_)⟩⟩⟩
    · rintro _ rfl
      rw [w32_id (by omega) (by omega)]
      refine hk () ⟨by omega, fun j j0 j1 k hk30 => ?_⟩
      by_cases e : j = i
      · subst e
        exact ht1.2.2.2.2.2.1 k (by omega)
      · exact hz j j0 (by omega) k hk30
    · exact ht2 (by omega) (z.2 i h0 hi t (by omega))
  · rintro _ ⟨h0, hz⟩
    apply w_Quotient_hasRoom_2
    rw [h3]
    refine ⟨fun _ => ⟨h1, ?_⟩, fun hc => absurd (show (4 : Int) ≤ 4 by omega) hc⟩
    rintro _ rfl
    by_cases hm : 20 < m
    · rw [if_pos hm]
      exact ⟨Or.inl rfl, H0 (fun z => by omega)⟩
    · rw [if_neg hm]
      exact ⟨Or.inr rfl, H1 ⟨by omega, hz⟩⟩
theorem s_isSame {d : Nat} {a b r r' p m c m' c' : Int} {S : Hp} {F G : Int → Int → Int} {Q : Vl → Hp → Prop} (h : QN S a r p m c F) (h' : QN S b r' p m' c' G) (H1 : (m = m' ∧ c = c' ∧ ∀ j, 0 ≤ j → j < 4 → ∀ i, F j i = G j i) → Q (0, 1) S) (H0 : ¬ (m = m' ∧ c = c' ∧ ∀ j, 0 ≤ j → j < 4 → ∀ i, F j i = G j i) → Q (0, 0) S) : Ev d 75 [(2, a), (2, b)] S Q := by
  obtain ⟨h1, h2, h3, h4, h5⟩ := h
  obtain ⟨k1, k2, k3, k4, k5⟩ := h'
  apply w_Quotient_isSame_0
  rw [h3, h4, k3, k4]
  refine ⟨h1, k1, fun _ => ⟨h1, k1⟩, fun hq => ⟨Or.inl rfl, H0 (fun z => by omega)⟩, fun hq => ?_⟩
  have e1 : m = m' := by omega
  have e2 : c = c' := by omega
  refine loopU (α := Unit) (P := fun i _ => At d 75 c75_26 [(0, (2, a)), (1, (2, b)), (2, (0, i))] [] S Q) (I := fun i _ => 0 ≤ i ∧ ∀ j, 0 ≤ j → j < i → ∀ k, F j k = G j k) 4 ?_ ?_ 0 () (by omega) ⟨by omega, fun j j0 j1 => by omega⟩
  · rintro i _ hi ⟨h0, hz⟩ hk
    obtain ⟨t, ht1, ht2, -⟩ := h5.at h0 hi
    obtain ⟨u, hu1, hu2, -⟩ := k5.at h0 hi
    apply w_Quotient_isSame_26
    rw [h2, k2, h5.ptr h0 hi, k5.ptr h0 hi, ht1.2.1, hu1.2.1]
    refine ⟨fun hc => by omega, fun _ => ⟨h1, ⟨h5.1, h0, by rw [h5.2.1]; exact hi⟩, ht1.1.1, k1, ⟨k5.1, h0, by rw [k5.2.1]; exact hi⟩, hu1.1.1, fun htu => ?_, fun htu => ⟨Or.inl rfl, H0 (fun z => ?_)⟩⟩⟩
    · subst htu
      refine loopU (α := Unit) (P := fun l _ => At d 75 c75_56 [(0, (2, a)), (1, (2, b)), (2, (0, i)), (3, (0, l))] [] S Q) (I := fun l _ => 0 ≤ l ∧ ∀ k, 0 ≤ k → k < l → F i k = G i k) (t + 1) ?_ ?_ 0 () (by have := ht1.2.2.1; omega) ⟨by omega, fun j j0 j1 => by omega⟩
      · rintro l _ hl ⟨l0, lz⟩ hk2
        have b1 := ht1.2.2.2.1
        have b2 := hu1.2.2.2.1
        have b3 := ht1.1.2.2.2.2.2
        apply w_Quotient_isSame_56
        rw [h2, k2, h5.ptr h0 hi, k5.ptr h0 hi, ht1.2.1, ht1.1.2.1, hu1.1.2.1, ht1.2.2.2.2.1 l l0 (by omega), hu1.2.2.2.2.1 l l0 (by omega)]
        refine ⟨h1, ⟨h5.1, h0, by rw [h5.2.1]; exact hi⟩, ht1.1.1, fun hc => by omega, fun _ => ⟨h1, ⟨h5.1, h0, by rw [h5.2.1]; exact hi⟩, ht1.1.1, ⟨ht1.1.2.2.1, l0, by rw [ht1.1.2.2.2.1]; omega⟩, k1, ⟨k5.1, h0, by rw [k5.2.1]; exact hi⟩, hu1.1.1, ⟨hu1.1.2.2.1, l0, by rw [hu1.1.2.2.2.1]; omega⟩, fun he => ?_, fun he => ⟨Or.inl rfl, H0 (fun z => he (z.2.2 i h0 hi l))⟩⟩⟩
        rintro _ rfl
        rw [w32_id (by omega) (by omega)]
        refine hk2 () ⟨by omega, fun k k0 k1 => ?_⟩
        by_cases e : k = l
        · rw [e]
          exact he
        · exact lz k k0 (by omega)
      · rintro _ ⟨l0, lz⟩
        apply w_Quotient_isSame_56
        rw [h2, h5.ptr h0 hi, ht1.2.1]
        refine ⟨h1, ⟨h5.1, h0, by rw [h5.2.1]; exact hi⟩, ht1.1.1, fun _ => ?_, fun hc => absurd (show t < t + 1 by omega) hc⟩
        rintro _ rfl
        rw [w32_id (by omega) (by omega)]
        refine hk () ⟨by omega, fun j j0 j1 k => ?_⟩
        by_cases e : j = i
        · subst e
          by_cases hk0 : k < 0
          · rw [ht1.2.2.2.2.2.2 k hk0, hu1.2.2.2.2.2.2 k hk0]
          · by_cases hkt : k < t + 1
            · exact lz k (by omega) hkt
            · rw [ht1.2.2.2.2.2.1 k (by omega), hu1.2.2.2.2.2.1 k (by omega)]
        · exact hz j j0 (by omega) k
    · have hh := z.2.2 i h0 hi
      have f1 := ht1.2.2.1
      have f2 := hu1.2.2.1
      by_cases hlt : t < u
      · exact hu2 (by omega) (by rw [← hh u]; exact ht1.2.2.2.2.2.1 u hlt)
      · exact ht2 (by omega) (by rw [hh t]; exact hu1.2.2.2.2.2.1 t (by omega))
  · rintro _ ⟨h0, hz⟩
    apply w_Quotient_isSame_26
    exact ⟨fun _ => ⟨Or.inr rfl, H1 ⟨e1, e2, hz⟩⟩, fun hc => absurd (show (4 : Int) ≤ 4 by omega) hc⟩
/-- times (x - c), k times -/
def tmR (p c : Int) : Nat → (Int → Int → Int) → Int → Int → Int
  | 0, F => F
  | k + 1, F => fun j i => (tmR p c k F j (i - 1) + (p - c) * tmR p c k F j i) % p
theorem tmR_top {p c D : Int} {F : Int → Int → Int} {j : Int} (hF : ∀ i, D < i → F j i = 0) : ∀ (k : Nat) (i : Int), D + k < i → tmR p c k F j i = 0
  | 0, i, h => hF i (by omega)
  | k + 1, i, h => by
    show (tmR p c k F j (i - 1) + (p - c) * tmR p c k F j i) % p = 0
    rw [tmR_top hF k (i - 1) (by omega), tmR_top hF k i (by omega), Int.mul_zero, Int.add_zero]
    exact Int.zero_emod p
theorem s_widen {d : Nat} {a r p m c to pl D : Int} {S : Hp} {F : Int → Int → Int} {Q : Vl → Hp → Prop} (h : QN S a r p m c F) (hc : 0 ≤ pl ∧ pl < p) (hp : 0 < p ∧ p < 1000) (hm : 0 ≤ m ∧ m ≤ to ∧ to < 1000) (hD : ∀ j, 0 ≤ j → j < 4 → ∀ i, D < i → F j i = 0) (hfit : D + (to - m) < r) (H : ∀ S', Md (MQ' a) S S' → QN S' a r p to pl (tmR p pl (to - m).toNat F) → Q (3, 0) S') : Ev (d + 1) 78 [(2, a), (0, to), (0, pl), (0, p)] S Q := by
  apply w_Quotient_widen_0
  rw [h.2.2.1]
  refine ⟨h.1, ?_⟩
  intro x hx
  rw [hx]
  refine loopU (P := fun i S' => At (d + 1) 78 c78_6 [(0, (2, a)), (1, (0, to)), (2, (0, pl)), (3, (0, p)), (4, (0, i))] [] S' Q) (I := fun i S' => m ≤ i ∧ Md (MQ' a) S S' ∧ QN S' a r p m c (tmR p pl (i - m).toNat F)) to ?_ ?_ m S hm.2.1 ⟨by omega, Md.refl _ _, by rw [show (m - m).toNat = 0 by omega]; exact h⟩
  · rintro i S1 hi ⟨h0, hmd, hq⟩ hk
    apply w_Quotient_widen_6
    refine ⟨fun hc => by omega, fun _ => ?_⟩
    refine loopU (P := fun l S' => At (d + 1) 78 c78_15 [(0, (2, a)), (1, (0, to)), (2, (0, pl)), (3, (0, p)), (4, (0, i)), (5, (0, l))] [] S' Q) (I := fun l S' => 0 ≤ l ∧ Md (MQ' a) S S' ∧ QN S' a r p m c (fun j => if j < l then tmR p pl ((i - m).toNat + 1) F j else tmR p pl (i - m).toNat F j)) 4 ?_ ?_ 0 S1 (by omega) ⟨by omega, hmd, hq.congr fun j j0 j1 k => by rw [if_neg (by omega)]⟩
    · rintro l S2 hl ⟨l0, lm, lq⟩ hk2
      apply w_Quotient_widen_15
      have hll := lq.2.2.2.2.at l0 hl
      rw [if_neg (show ¬ l < l by omega)] at hll
      rw [lq.2.1, lq.2.2.2.2.ptr l0 hl]
      refine ⟨fun hc => by omega, fun _ => ⟨lq.1, ⟨lq.2.2.2.2.1, l0, by rw [lq.2.2.2.2.2.1]; exact hl⟩, hll.ln.1, ?_⟩⟩
      refine n_timesRoot hll hc hp (tmR_top (hD l l0 hl) _ _ (by omega)) (fun S3 g1 g2 => ⟨rfl, ?_⟩)
      rintro _ rfl
      rw [w32_id (by omega) (by omega)]
      have hne : ¬ ML (a + 1 + 1 + 2 * l) a := by unfold ML; omega
      refine hk2 _ ⟨by omega, lm.tr (g1.wide (fun x hx => by unfold ML at hx; unfold MQ'; omega)), ?_⟩
      refine ⟨by rw [g1.K]; exact lq.1, by rw [g1.G hne]; exact lq.2.1, by rw [g1.G hne]; exact lq.2.2.1, by rw [g1.G hne]; exact lq.2.2.2.1, (lq.2.2.2.2.set g1 l0 hl g2).congr fun j j0 j1 k => ?_⟩
      by_cases e : j = l
      · rw [if_pos e, if_pos (show j < l + 1 by omega), e]
        rfl
      · rw [if_neg e]
        by_cases e2 : j < l
        · rw [if_pos e2, if_pos (by omega)]
        · rw [if_neg e2, if_neg (by omega)]
    · rintro S2 ⟨l0, lm, lq⟩
      apply w_Quotient_widen_15
      refine ⟨fun _ => ?_, fun hc => absurd (show (4 : Int) ≤ 4 by omega) hc⟩
      rintro _ rfl
      rw [w32_id (by omega) (by omega)]
      refine hk _ ⟨by omega, lm, lq.congr fun j j0 j1 k => ?_⟩
      rw [if_pos j1, show (i + 1 - m).toNat = (i - m).toNat + 1 by omega]
  · rintro S1 ⟨h0, hmd, hq⟩
    apply w_Quotient_widen_6
    refine ⟨fun _ => ⟨hq.1, ?_⟩, fun hc => absurd (show to ≤ to by omega) hc⟩
    rintro _ rfl
    refine ⟨by rw [zK_zS]; exact hq.1, ?_⟩
    rintro _ rfl
    refine H _ ?_ ((hq.put (v := to)).1.put (v := pl)).2
    exact (hmd.tr ((Md.zS _ a 1 to).wide (fun x hx => by unfold MQ'; omega))).tr ((Md.zS _ a 2 pl).wide (fun x hx => by unfold MQ'; omega))
/-- moving doesn't hang on where one begins -/
theorem mvN_le {p c T : Int} {P : Int → Int} (hp : 0 < p) (hP : ∀ i, 0 ≤ P i ∧ P i < p) (hT : ∀ i, T < i → P i = 0) {T' : Int} (hTT : T ≤ T') : ∀ (k : Nat), mvN p c T' k P = mvN p c T (min k T.toNat) P
  | 0 => rfl
  | k + 1 => by
    have hb := mvN_bd (c := c) (T := T) hp hP (min k T.toNat)
    have ht : ∀ i, T < i → mvN p c T (min k T.toNat) P i = 0 := by
      intro i hi
      by_cases h0 : 0 ≤ T
      · exact mvN_top hT _ i hi (by omega)
      · rw [show min k T.toNat = 0 by omega]
        exact hT i hi
    show mvp p c T' k (mvN p c T' k P) = _
    rw [mvN_le hp hP hT hTT k]
    by_cases hk : (k : Int) < T
    · rw [show min (k + 1) T.toNat = k + 1 by omega, show min k T.toNat = k by omega] at *
      show mvp p c T' k (mvN p c T k P) = mvp p c T k (mvN p c T k P)
      funext i
      unfold mvp
      split
      · rfl
      · exact qr_T ht hTT (i - 1)
    · rw [show min (k + 1) T.toNat = T.toNat by omega, show min k T.toNat = T.toNat by omega] at *
      funext i
      unfold mvp
      split
      · rfl
      · rename_i hki
        rw [qr_T ht hTT (i - 1)]
        by_cases hi : i ≤ T
        · have e : i = T := by omega
          rw [e, qr_step (by omega), qr_top (by omega), Int.mul_zero, Int.add_zero, em_id (hb T).1 (hb T).2]
        · rw [qr_top (by omega), ht i (by omega)]
/-- x becomes x + c -/
def shf (p c T : Int) (P : Int → Int) : Int → Int := mvN p c T T.toNat P
theorem shf_T {p c T T' : Int} {P : Int → Int} (hp : 0 < p) (hP : ∀ i, 0 ≤ P i ∧ P i < p) (hT : ∀ i, T < i → P i = 0) (hTT : T ≤ T') : shf p c T' P = shf p c T P := by
  unfold shf
  rw [mvN_le hp hP hT hTT, show min T'.toNat T.toNat = T.toNat by omega]
theorem n_shift {d : Nat} {a n c p : Int} {S : Hp} {P : Int → Int} {Q : Vl → Hp → Prop} (T : Int) (h : LN S a n p P) (hc : 0 ≤ c ∧ c < 1000) (hp : 0 < p ∧ p < 1000) (hT : ∀ i, T < i → P i = 0) (hT1 : -1 ≤ T) (H : ∀ S', Md (ML a) S S' → LN S' a n p (shf p c T P) → Q (3, 0) S') : Ev d 49 [(2, a), (0, c), (0, p)] S Q := by
  obtain ⟨t, h1, h2, h3⟩ := h.deg hT hT1
  have hb := h.bd
  refine s_moveBy h1 hb hc hp (fun S' g1 g2 => H S' g1 ⟨t, g2.congr (fun i => by rw [shf_T hp.1 hb h1.2.2.2.2.2.1 h3]; rfl), fun q => ?_, mvN_bd hp.1 hb _⟩)
  rw [shf_T hp.1 hb h1.2.2.2.2.2.1 h3]
  unfold shf
  rw [mvN_T hp.1 hb q _ (by omega)]
  exact h2 q
theorem s_moveToPlace {d : Nat} {a r p m c : Int} {S : Hp} {F : Int → Int → Int} {Q : Vl → Hp → Prop} (T : Int) (h : QN S a r p m c F) (hc : 0 ≤ c ∧ c < 1000) (hp : 0 < p ∧ p < 1000) (hT : ∀ j, 0 ≤ j → j < 4 → ∀ i, T < i → F j i = 0) (hT1 : -1 ≤ T) (H : ∀ S', Md (MQ' a) S S' → QN S' a r p m c (fun j => shf p c T (F j)) → Q (3, 0) S') : Ev (d + 1) 79 [(2, a), (0, p)] S Q := by
  apply w_Quotient_moveToPlace_0
  refine loopU (P := fun l S' => At (d + 1) 79 c79_2 [(0, (2, a)), (1, (0, p)), (2, (0, l))] [] S' Q) (I := fun l S' => 0 ≤ l ∧ Md (MQ' a) S S' ∧ QN S' a r p m c (fun j => if j < l then shf p c T (F j) else F j)) 4 ?_ ?_ 0 S (by omega) ⟨by omega, Md.refl _ _, h.congr fun j j0 j1 k => by rw [if_neg (by omega)]⟩
  · rintro l S2 hl ⟨l0, lm, lq⟩ hk2
    apply w_Quotient_moveToPlace_2
    have hll := lq.2.2.2.2.at l0 hl
    rw [if_neg (show ¬ l < l by omega)] at hll
    rw [lq.2.1, lq.2.2.2.2.ptr l0 hl, lq.2.2.2.1]
    refine ⟨fun hc => by omega, fun _ => ⟨lq.1, ⟨lq.2.2.2.2.1, l0, by rw [lq.2.2.2.2.2.1]; exact hl⟩, lq.1, hll.ln.1, ?_⟩⟩
    refine n_shift T hll hc hp (hT l l0 hl) hT1 (fun S3 g1 g2 => ⟨rfl, ?_⟩)
    rintro _ rfl
    rw [w32_id (by omega) (by omega)]
    have hne : ¬ ML (a + 1 + 1 + 2 * l) a := by unfold ML; omega
    refine hk2 _ ⟨by omega, lm.tr (g1.wide (fun x hx => by unfold ML at hx; unfold MQ'; omega)), ?_⟩
    refine ⟨by rw [g1.K]; exact lq.1, by rw [g1.G hne]; exact lq.2.1, by rw [g1.G hne]; exact lq.2.2.1, by rw [g1.G hne]; exact lq.2.2.2.1, (lq.2.2.2.2.set g1 l0 hl g2).congr fun j j0 j1 k => ?_⟩
    by_cases e : j = l
    · rw [if_pos e, if_pos (show j < l + 1 by omega), e]
    · rw [if_neg e]
      by_cases e2 : j < l
      · rw [if_pos e2, if_pos (by omega)]
      · rw [if_neg e2, if_neg (by omega)]
  · rintro S1 ⟨h0, hmd, hq⟩
    apply w_Quotient_moveToPlace_2
    exact ⟨fun _ => H S1 hmd (hq.congr fun j j0 j1 k => by rw [if_pos j1]), fun hc => absurd (show (4 : Int) ≤ 4 by omega) hc⟩
