/-! The model: small methods. -/
theorem m_in {d : Nat} {a b c : Int} {S : Hp} {Q : Vl → Hp → Prop} (H : Q (0, if b ≤ a ∧ a ≤ c then 1 else 0) S) : Ev d 164 [(0, a), (0, b), (0, c)] S Q := by
  apply w_Model_in_0
  rintro _ rfl
  have e : (if (a < b ∨ c < a) then (0 : Int) else 1) = if b ≤ a ∧ a ≤ c then 1 else 0 := by grind
  rw [e]
  refine ⟨?_, H⟩
  unfold in01
  grind
theorem in01_if (c : Prop) [Decidable c] : in01 (if c then 1 else 0) := by
  unfold in01
  grind
theorem lCmp0 {x : Int} : 0 ≤ lCmp x 0 ↔ 0 ≤ x := by
  unfold lCmp
  grind
theorem m_mod {d : Nat} {D v p : Int} {S : Hp} {Q : Vl → Hp → Prop} (hK : zK S D = 12) (hp : zG S D 0 = p) (h2 : 2 ≤ p ∧ p ≤ 7) (H : Q (0, v % p) S) : Ev d 165 [(2, D), (1, v)] S Q := by
  apply w_Model_mod_0
  rw [hp]
  refine ⟨hK, by omega, ?_⟩
  rintro _ rfl
  refine ⟨fun _ => hK, ?_⟩
  rintro _ rfl
  have b1 := tm_lt (x := v) (p := p) (by omega)
  have b2 := tm_gt (x := v) (p := p) (by omega)
  have e : (if 0 ≤ lCmp (v.tmod p) 0 then v.tmod p else w64 (v.tmod p + p)) = v % p := by
    rw [w64_id (by omega) (by omega), ← tm_fix (x := v) (p := p) (by omega)]
    simp only [lCmp0]
  have q1 := em_ge (x := v) (p := p) (by omega)
  have q2 := em_lt (x := v) (p := p) (by omega)
  rw [e, w32_id (by omega) (by omega)]
  exact H
theorem m_isNumber {d : Nat} {D v p : Int} {S : Hp} {Q : Vl → Hp → Prop} (hK : zK S D = 12) (hp : zG S D 0 = p) (h2 : 2 ≤ p ∧ p ≤ 7) (H : Q (0, if 0 ≤ v ∧ v < p then 1 else 0) S) : Ev (d + 1) 166 [(2, D), (0, v)] S Q := by
  apply w_Model_isNumber_0
  rw [hp, w32_id (by omega) (by omega)]
  refine ⟨hK, m_in ⟨_, rfl, in01_if _, ?_⟩⟩
  have e : (if 0 ≤ v ∧ v ≤ p - 1 then (1 : Int) else 0) = if 0 ≤ v ∧ v < p then 1 else 0 := by grind
  rw [e]
  exact H
theorem m_isShelf {d : Nat} {v : Int} {S : Hp} {Q : Vl → Hp → Prop} (H : Q (0, if 0 ≤ v ∧ v < 6 then 1 else 0) S) : Ev (d + 1) 167 [(0, v)] S Q := by
  apply w_Model_isShelf_0
  refine m_in ⟨_, rfl, in01_if _, ?_⟩
  have e : (if 0 ≤ v ∧ v ≤ 5 then (1 : Int) else 0) = if 0 ≤ v ∧ v < 6 then 1 else 0 := by grind
  rw [e]
  exact H
/-- shelves without elements -/
def fgH (h : Int → Int) : Int → Int := fun i => if 0 ≤ i ∧ i < 6 ∧ h i = 1 then 0 else h i
theorem m_forgets {d : Nat} {D : Int} {S : Hp} {Q : Vl → Hp → Prop} (h : DW S D) (H : Q (3, 0) (zS (zS (zR S (D + 3) (fgH (zG S (D + 3)))) D 16 0) D 48 (-1))) : Ev d 168 [(2, D)] S Q := by
  obtain ⟨x1, x2, x3⟩ := h.x_holds
  apply w_Model_forgetsElements_0
  refine loopU (P := fun i S' => At d 168 c168_2 [(0, (2, D)), (1, (0, i))] [] S' Q) (I := fun i S' => 0 ≤ i ∧ S' = zR S (D + 3) (fun x => if x < i then fgH (zG S (D + 3)) x else zG S (D + 3) x)) 6 ?_ ?_ 0 S (by omega) ⟨by omega, ?_⟩
  · rintro i _ hi ⟨i0, rfl⟩ hk
    apply w_Model_forgetsElements_2
    rw [zG_zR_ne _ (by omega), x1, zK_zR, zK_zR, zL_zR, x2, x3, zG_zR_at]
    refine ⟨fun hc => by omega, fun _ => ⟨h.1, h.1, ⟨rfl, by omega, by omega⟩, fun _ => ⟨h.1, rfl, by omega, by omega⟩, ?_⟩⟩
    rintro _ rfl
    refine ⟨⟨rfl, by omega, by omega⟩, ?_⟩
    rintro _ rfl _ rfl
    rw [w32_id (by omega) (by omega)]
    refine hk _ ⟨by omega, ?_⟩
    rw [zS_zR]
    refine zR_congr _ _ (fun j => ?_)
    dsimp only [fgH]
    grind
  · rintro _ ⟨-, rfl⟩
    have e : zR S (D + 3) (fun x => if x < 6 then fgH (zG S (D + 3)) x else zG S (D + 3) x) = zR S (D + 3) (fgH (zG S (D + 3))) := zR_congr _ _ (fun j => by dsimp only [fgH]; grind)
    rw [e]
    apply w_Model_forgetsElements_2
    refine ⟨fun _ => ⟨h.1, ?_⟩, fun hc => absurd (Int.le_refl 6) hc⟩
    rintro _ rfl
    refine ⟨h.1, ?_⟩
    rintro _ rfl
    exact H
  · refine (zR_self S (D + 3)).symm.trans (zR_congr _ _ (fun j => ?_))
    dsimp only [fgH]
    grind
theorem m_field {d : Nat} {D q p : Int} {S : Hp} {Q : Vl → Hp → Prop} (h : DW S D) (hp : zG S D 0 = p) (H0 : ¬ isPr q → Q (0, -1) S) (H1 : isPr q → Q (0, p) (zS (zS (zR (zS (zS (zS S D 0 q) D 1 0) D 2 0) (D + 3) (fgH (zG S (D + 3)))) D 16 0) D 48 (-1))) : Ev (d + 1) 169 [(2, D), (0, q)] S Q := by
  apply w_Model_field_0
  refine ⟨fun hq => ?_, fun hq => H0 hq⟩
  apply w_Model_field_23
  refine ⟨h.1, ?_⟩
  rintro _ rfl
  refine ⟨h.1, ?_⟩
  rintro _ rfl
  refine ⟨h.1, ?_⟩
  rintro _ rfl
  refine ⟨h.1, ?_⟩
  rintro _ rfl
  refine ⟨h.1, m_forgets (((h.sc (by decide)).sc (by decide)).sc (by decide)) ⟨rfl, ?_⟩⟩
  rw [hp]
  have e : ∀ i, zG (zS (zS (zS S D 0 q) D 1 0) D 2 0) (D + 3) i = zG S (D + 3) i := fun i => by
    rw [zG_zS_ne _ (Or.inl (by omega)), zG_zS_ne _ (Or.inl (by omega)), zG_zS_ne _ (Or.inl (by omega))]
  rw [show zG (zS (zS (zS S D 0 q) D 1 0) D 2 0) (D + 3) = zG S (D + 3) from funext e]
  exact H1 hq
theorem m_inverse {d : Nat} {D v p : Int} {S : Hp} {Q : Vl → Hp → Prop} (hK : zK S D = 12) (hp : zG S D 0 = p) (h2 : isPr p) (H0 : v % p = 0 → Q (0, -15) S) (H1 : ∀ w, v % p ≠ 0 → 1 ≤ w → w < p → v % p * w % p = 1 → Q (0, w) S) : Ev (d + 1) 170 [(2, D), (0, v)] S Q := by
  have h2' : 2 ≤ p ∧ p ≤ 7 := by omega
  have q1 := em_ge (x := v) (p := p) (by omega)
  have q2 := em_lt (x := v) (p := p) (by omega)
  apply w_Model_inverse_0
  refine ⟨hK, m_mod hK hp h2' ⟨_, rfl, ?_⟩⟩
  generalize v % p = r at *
  refine loopU (P := fun i S' => At (d + 1) 170 c170_9 [(0, (2, D)), (2, (0, r)), (3, (0, i))] [] S' Q) (I := fun i S' => S' = S ∧ 1 ≤ i ∧ ∀ w, 1 ≤ w → w < i → r * w % p ≠ 1) p ?_ ?_ 1 S (by omega) ⟨rfl, by omega, fun w w0 w1 => by omega⟩
  · rintro i _ hi ⟨rfl, i0, hw⟩ hk
    apply w_Model_inverse_9
    have b := mul_b (x := i) (y := r) (by omega) (by omega)
    rw [hp, w32_id (by omega) (by omega), tm_nn (by omega), Int.mul_comm i r]
    refine ⟨hK, fun hc => by omega, fun _ => ⟨hK, by omega, fun hne => ?_, fun he => ?_⟩⟩
    · rintro _ rfl
      rw [w32_id (by omega) (by omega)]
      refine hk _ ⟨rfl, by omega, fun w w0 w1 => ?_⟩
      by_cases q : w = i
      · rw [q]
        exact hne
      · exact hw w w0 (by omega)
    · have he := Decidable.not_not.mp he
      refine H1 i (fun z => ?_) i0 hi he
      rw [z, Int.zero_mul, Int.zero_emod] at he
      omega
  · rintro _ ⟨rfl, i0, hw⟩
    apply w_Model_inverse_9
    rw [hp]
    refine ⟨hK, fun _ => H0 ?_, fun hc => absurd (Int.le_refl p) hc⟩
    rcases Int.lt_or_le r 1 with q | q
    · omega
    · obtain ⟨w, w0, w1, w2⟩ := inv_ex h2 q q2
      exact absurd w2 (hw w w0 w1)
theorem m_wipe {d : Nat} {D : Int} {S : Hp} {Q : Vl → Hp → Prop} (h : DW S D) (H : Q (0, zG S D 18) (zS S D 18 0)) : Ev d 172 [(2, D)] S Q := by
  apply w_Model_wipe_0
  refine ⟨h.1, ?_⟩
  rintro _ rfl
  refine ⟨h.1, ?_⟩
  rintro _ rfl
  exact H
/-- byte i of a word -/
def byF (w i : Int) : Int := bAnd (bShr w (8 * i)) 255
theorem m_feed {d : Nat} {D m w t : Int} {S : Hp} {Q : Vl → Hp → Prop} (h : DW S D) (ht : zG S D 18 = t) (t0 : 0 ≤ t ∧ t ≤ 100) (H0 : ¬ (1 ≤ m ∧ m ≤ 4) → Q (0, -1) S) (H1 : 1 ≤ m → m ≤ 4 → 100 < t + m → Q (0, -4) S) (H2 : 1 ≤ m → m ≤ 4 → t + m ≤ 100 → ∀ S', Md (fun x => x = D ∨ x = D + 13) S S' → (∀ i, i ≠ 18 → zG S' D i = zG S D i) → zG S' D 18 = t + m → (∀ i, zG S' (D + 13) i = if t ≤ i ∧ i < t + m then byF w (i - t) else zG S (D + 13) i) → Q (0, t + m) S') : Ev (d + 1) 171 [(2, D), (0, m), (0, w)] S Q := by
  obtain ⟨x1, x2, x3⟩ := h.x_tape
  apply w_Model_feed_0
  refine m_in ⟨_, rfl, fun hm => ?_, fun hm => H0 (by grind)⟩
  have hm : 1 ≤ m ∧ m ≤ 4 := by grind
  rw [ht, w32_id (by omega) (by omega)]
  refine ⟨h.1, fun hc => ?_, fun hc => H1 hm.1 hm.2 (by omega)⟩
  refine loopU (P := fun i S' => At (d + 1) 171 c171_27 [(0, (2, D)), (1, (0, m)), (2, (0, w)), (3, (0, i))] [] S' Q) (I := fun k S' => 0 ≤ k ∧ Md (fun x => x = D ∨ x = D + 13) S S' ∧ (∀ i, i ≠ 18 → zG S' D i = zG S D i) ∧ zG S' D 18 = t + k ∧ (∀ i, zG S' (D + 13) i = if t ≤ i ∧ i < t + k then byF w (i - t) else zG S (D + 13) i)) m ?_ ?_ 0 S (by omega) ⟨by omega, Md.refl _ _, fun _ _ => rfl, by omega, fun i => by rw [if_neg (by omega)]⟩
  · rintro k S' hk' ⟨k0, m1, o1, t1, v1⟩ hk
    have kd : zK S' D = 12 := (m1.K D).trans h.1
    apply w_Model_feed_27
    rw [o1 17 (by omega), x1, t1, m1.K (D + 13), m1.L (D + 13), x2, x3, w32_id (x := 8 * k) (by omega) (by omega)]
    refine ⟨fun hc => by omega, fun _ => ⟨kd, kd, ⟨rfl, by omega, by omega⟩, ?_⟩⟩
    rintro _ rfl
    refine ⟨kd, kd, ?_⟩
    rintro _ rfl _ rfl
    rw [zG_zS_ne _ (Or.inl (by omega)), t1, w32_id (by omega) (by omega), w32_id (by omega) (by omega)]
    refine hk _ ⟨by omega, (m1.tr ((Md.zS _ _ _ _).wide (fun x hx => Or.inr hx))).tr ((Md.zS _ _ _ _).wide (fun x hx => Or.inl hx)), fun i hi => ?_, ?_, fun i => ?_⟩
    · rw [zG_zS_ne _ (Or.inr hi), zG_zS_ne _ (Or.inl (by omega))]
      exact o1 i hi
    · rw [zG_zS_at]
      omega
    · rw [zG_zS_ne _ (Or.inl (by omega)), zG_zS]
      by_cases q : i = t + k
      · rw [if_pos ⟨rfl, q⟩, if_pos (by omega), q, show t + k - t = k by omega]
        rfl
      · rw [if_neg (by omega), v1 i]
        grind
  · rintro S' ⟨k0, m1, o1, t1, v1⟩
    apply w_Model_feed_27
    refine ⟨fun _ => ⟨(m1.K D).trans h.1, ?_⟩, fun hc => absurd (Int.le_refl m) hc⟩
    rw [t1]
    exact H2 hm.1 hm.2 hc S' m1 o1 t1 v1
theorem m_zeroes {d : Nat} {D a n : Int} {S : Hp} {Q : Vl → Hp → Prop} (hK : zK S a = 101) (hL : zL S a = n) (hn : 0 ≤ n ∧ n ≤ 100000) (H : Q (3, 0) (zR S a (fun i => if 0 ≤ i ∧ i < n then 0 else zG S a i))) : Ev d 190 [(2, D), (2, a)] S Q := by
  apply w_Model_zeroes_0
  refine loopU (P := fun i S' => At d 190 c190_2 [(1, (2, a)), (2, (0, i))] [] S' Q) (I := fun i S' => 0 ≤ i ∧ S' = zR S a (fun x => if 0 ≤ x ∧ x < i then 0 else zG S a x)) n ?_ ?_ 0 S (by omega) ⟨by omega, ?_⟩
  · rintro i _ hi ⟨i0, rfl⟩ hk
    apply w_Model_zeroes_2
    rw [zK_zR, zL_zR, hL]
    refine ⟨hK, fun hc => by omega, fun _ => ⟨⟨hK, i0, hi⟩, ?_⟩⟩
    rintro _ rfl _ rfl
    rw [w32_id (by omega) (by omega)]
    refine hk _ ⟨by omega, ?_⟩
    rw [zS_zR]
    exact zR_congr _ _ (fun j => by grind)
  · rintro _ ⟨-, rfl⟩
    apply w_Model_zeroes_2
    rw [zK_zR, zL_zR, hL]
    exact ⟨hK, fun _ => H, fun hc => absurd (Int.le_refl n) hc⟩
  · exact (zR_self S a).symm.trans (zR_congr _ _ (fun j => by grind))
theorem m_negated {d : Nat} {D a n o p : Int} {S : Hp} {Q : Vl → Hp → Prop} (hD : zK S D = 12) (hp : zG S D 0 = p) (h2 : 2 ≤ p ∧ p ≤ 7) (haD : a ≠ D) (hK : zK S a = 101) (hL : zL S a = n) (ho : 0 ≤ o) (hn : o + 200 ≤ n) (hn' : n ≤ 100000) (hv : ∀ i, o ≤ i → i < o + 200 → 0 ≤ zG S a i ∧ zG S a i < p) (H : Q (3, 0) (zR S a (fun i => if o ≤ i ∧ i < o + 200 then (-1 * zG S a i) % p else zG S a i))) : Ev d 191 [(2, D), (2, a), (0, o)] S Q := by
  apply w_Model_negated_0
  refine loopU (P := fun i S' => At d 191 c191_2 [(0, (2, D)), (1, (2, a)), (2, (0, o)), (3, (0, i))] [] S' Q) (I := fun i S' => o ≤ i ∧ S' = zR S a (fun x => if o ≤ x ∧ x < i then (-1 * zG S a x) % p else zG S a x)) (o + 200) ?_ ?_ o S (by omega) ⟨by omega, ?_⟩
  · rintro i _ hi ⟨i0, rfl⟩ hk
    have v := hv i i0 hi
    have e : ∀ x : Int, x = 0 ∨ (0 < x ∧ x < p) → (if ¬ x = 0 then w32 (p - x) else 0) = (-1 * x) % p := fun x hx => by
      rcases hx with hx | hx
      · rw [hx]
        simp
      · rw [if_pos (by omega), w32_id (by omega) (by omega), show -1 * x = (p - x) + p * (-1) by omega, Int.add_mul_emod_self_left, em_id (by omega) (by omega)]
    apply w_Model_negated_2
    rw [w32_id (x := o + 200) (by omega) (by omega), zK_zR, zL_zR, zK_zR, hL, zG_zR_at, zG_zR_ne _ (fun q => haD q.symm), hp, if_neg (by omega)]
    refine ⟨fun hc => by omega, fun _ => ⟨⟨hK, by omega, by omega⟩, fun _ => ⟨hD, hK, by omega, by omega⟩, ?_⟩⟩
    rintro _ rfl
    refine ⟨⟨hK, by omega, by omega⟩, ?_⟩
    rintro _ rfl _ rfl
    rw [w32_id (x := i + 1) (by omega) (by omega), e _ (by omega)]
    refine hk _ ⟨by omega, ?_⟩
    rw [zS_zR]
    refine zR_congr _ _ (fun j => ?_)
    by_cases q : j = i
    · rw [if_pos q, if_pos (by omega), q]
    · rw [if_neg q]
      grind
  · rintro _ ⟨-, rfl⟩
    apply w_Model_negated_2
    rw [w32_id (x := o + 200) (by omega) (by omega)]
    exact ⟨fun _ => H, fun hc => absurd (Int.le_refl _) hc⟩
  · exact (zR_self S a).symm.trans (zR_congr _ _ (fun j => by rw [if_neg (by omega)]))
theorem m_entryAt {d : Nat} {D r c : Int} {S : Hp} {Q : Vl → Hp → Prop} (hr : 0 ≤ r ∧ r < 4) (hc : 0 ≤ c ∧ c < 4) (H : Q (0, 60 * (4 * r + c)) S) : Ev d 192 [(2, D), (0, r), (0, c)] S Q := by
  apply w_Model_entryAt_0
  simp (disch := omega) only [w32_id]
  exact H
