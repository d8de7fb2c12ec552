/-! Place: the rings over one number. -/
def PW (S : Hp) (L : Int) : Prop := zK S L = 7 ∧ zG S L 3 = L + 1 ∧ zG S L 4 = L + 2 ∧ zG S L 5 = L + 3 ∧ zG S L 6 = L + 4 ∧ zG S L 7 = L + 5 ∧ (zK S (L + 1) = 102 ∧ zL S (L + 1) = 304) ∧ rowI S (L + 2) 76 ∧ rowI S (L + 3) 19 ∧ rowI S (L + 4) 19 ∧ rowI S (L + 5) 64
/-- packed numbers are none below 0 -/
def PR (S : Hp) (L : Int) : Prop := ∀ e, 0 ≤ e → e < 304 → 0 ≤ zG S (L + 1) e ∧ zG S (L + 1) e < 9223372036854775808
theorem PW.keep {M : Int → Prop} {S S' : Hp} {L : Int} (h : PW S L) (hm : Md M S S') (hM : ¬ M L) : PW S' L := by
  obtain ⟨h1, h2, h3, h4, h5, h6, h7, h8, h9, h10, h11⟩ := h
  exact ⟨by rw [hm.K]; exact h1, by rw [hm.G hM]; exact h2, by rw [hm.G hM]; exact h3, by rw [hm.G hM]; exact h4, by rw [hm.G hM]; exact h5, by rw [hm.G hM]; exact h6, ⟨by rw [hm.K]; exact h7.1, by rw [hm.L]; exact h7.2⟩, h8.keep hm, h9.keep hm, h10.keep hm, h11.keep hm⟩
theorem PR.keep {M : Int → Prop} {S S' : Hp} {L : Int} (h : PR S L) (hm : Md M S S') (hM : ¬ M (L + 1)) : PR S' L := fun e e0 e1 => by
  rw [hm.G hM]
  exact h e e0 e1
def figS (S : Hp) (L k j i m : Int) : Int := if m < 0 ∨ 20 < m then 0 else fg (zG S (L + 1) ((k * 4 + j) * 4 + i)) m
theorem figS_keep {M : Int → Prop} {S S' : Hp} {L : Int} (hm : Md M S S') (hM : ¬ M (L + 1)) (k j i m : Int) : figS S' L k j i m = figS S L k j i m := by
  unfold figS
  rw [hm.G hM]
theorem figS_bd (S : Hp) (L k j i m : Int) : 0 ≤ figS S L k j i m ∧ figS S L k j i m < 8 := by
  unfold figS
  split
  · omega
  · exact fg_bd _ _
theorem s_figure {d : Nat} {L k j i m : Int} {S : Hp} {Q : Vl → Hp → Prop} (h : PW S L) (hr : PR S L) (hk : 0 ≤ k ∧ k < 19) (hj : 0 ≤ j ∧ j < 4) (hi : 0 ≤ i ∧ i < 4) (H : Q (0, figS S L k j i m) S) : Ev d 62 [(2, L), (0, k), (0, j), (0, i), (0, m)] S Q := by
  apply w_Place_figure_0
  rw [h.2.1, w32_id (x := k * 4) (by omega) (by omega), w32_id (x := k * 4 + j) (by omega) (by omega), w32_id (x := (k * 4 + j) * 4) (by omega) (by omega), w32_id (x := (k * 4 + j) * 4 + i) (by omega) (by omega)]
  refine ⟨fun _ => ⟨h.1, h.2.2.2.2.2.2.1.1, by omega, by rw [h.2.2.2.2.2.2.1.2]; omega⟩, ?_⟩
  rintro x hx
  have : x = figS S L k j i m := by
    rw [hx]
    unfold figS
    by_cases q : m < 0 ∨ 20 < m
    · rw [if_pos (by omega), if_pos q]
    · have := hr ((k * 4 + j) * 4 + i) (by omega) (by omega)
      rw [if_neg (by omega), if_neg q, w32_id (x := 3 * m) (by omega) (by omega), fg_ok this.1 this.2 (by omega) (by omega)]
  rw [this]
  exact H
theorem s_hasFigures {d : Nat} {L k j i : Int} {S : Hp} {Q : Vl → Hp → Prop} (h : PW S L) (hk : 0 ≤ k ∧ k < 19) (hj : 0 ≤ j ∧ j < 4) (hi : 0 ≤ i ∧ i < 4) (H : Q (0, if zG S (L + 1) ((k * 4 + j) * 4 + i) = 0 then 0 else 1) S) : Ev d 63 [(2, L), (0, k), (0, j), (0, i)] S Q := by
  apply w_Place_hasFigures_0
  rw [h.2.1, w32_id (x := k * 4) (by omega) (by omega), w32_id (x := k * 4 + j) (by omega) (by omega), w32_id (x := (k * 4 + j) * 4) (by omega) (by omega), w32_id (x := (k * 4 + j) * 4 + i) (by omega) (by omega)]
  refine ⟨h.1, ⟨h.2.2.2.2.2.2.1.1, by omega, by rw [h.2.2.2.2.2.2.1.2]; omega⟩, ?_⟩
  rintro x hx
  have : x = if zG S (L + 1) ((k * 4 + j) * 4 + i) = 0 then 0 else 1 := by
    rw [hx]
    unfold lCmp
    by_cases q : zG S (L + 1) ((k * 4 + j) * 4 + i) = 0
    · rw [if_pos q, q]
      rfl
    · rw [if_neg q]
      by_cases q2 : zG S (L + 1) ((k * 4 + j) * 4 + i) < 0
      · rw [if_pos q2]
        rfl
      · rw [if_neg q2]
        rfl
  rw [this]
  exact ⟨by unfold in01; split <;> simp, H⟩
theorem s_setFigures {d : Nat} {L k j i v : Int} {S : Hp} {Q : Vl → Hp → Prop} (h : PW S L) (hk : 0 ≤ k ∧ k < 19) (hj : 0 ≤ j ∧ j < 4) (hi : 0 ≤ i ∧ i < 4) (H : Q (3, 0) (zS S (L + 1) ((k * 4 + j) * 4 + i) v)) : Ev d 64 [(2, L), (0, k), (0, j), (0, i), (1, v)] S Q := by
  apply w_Place_setFigures_0
  rw [h.2.1, w32_id (x := k * 4) (by omega) (by omega), w32_id (x := k * 4 + j) (by omega) (by omega), w32_id (x := (k * 4 + j) * 4) (by omega) (by omega), w32_id (x := (k * 4 + j) * 4 + i) (by omega) (by omega)]
  refine ⟨h.1, ⟨h.2.2.2.2.2.2.1.1, by omega, by rw [h.2.2.2.2.2.2.1.2]; omega⟩, ?_⟩
  rintro _ rfl
  exact H
theorem s_deep {d : Nat} {L k j : Int} {S : Hp} {Q : Vl → Hp → Prop} (h : PW S L) (hk : 0 ≤ k ∧ k < 19) (hj : 0 ≤ j ∧ j < 4) (H : Q (0, zG S (L + 2) (k * 4 + j)) S) : Ev d 65 [(2, L), (0, k), (0, j)] S Q := by
  apply w_Place_deep_0
  rw [h.2.2.1, w32_id (x := k * 4) (by omega) (by omega), w32_id (x := k * 4 + j) (by omega) (by omega)]
  exact ⟨h.1, ⟨h.2.2.2.2.2.2.2.1.1, by omega, by rw [h.2.2.2.2.2.2.2.1.2]; omega⟩, H⟩
theorem s_setDeep {d : Nat} {L k j v : Int} {S : Hp} {Q : Vl → Hp → Prop} (h : PW S L) (hk : 0 ≤ k ∧ k < 19) (hj : 0 ≤ j ∧ j < 4) (H : Q (3, 0) (zS S (L + 2) (k * 4 + j) v)) : Ev d 66 [(2, L), (0, k), (0, j), (0, v)] S Q := by
  apply w_Place_setDeep_0
  rw [h.2.2.1, w32_id (x := k * 4) (by omega) (by omega), w32_id (x := k * 4 + j) (by omega) (by omega)]
  refine ⟨h.1, ⟨h.2.2.2.2.2.2.2.1.1, by omega, by rw [h.2.2.2.2.2.2.2.1.2]; omega⟩, ?_⟩
  rintro _ rfl
  exact H
theorem s_allDepths {d : Nat} {L k : Int} {S : Hp} {Q : Vl → Hp → Prop} (h : PW S L) (hk : 0 ≤ k ∧ k < 19) (hb : ∀ j, 0 ≤ j → j < 4 → 0 ≤ zG S (L + 2) (k * 4 + j) ∧ zG S (L + 2) (k * 4 + j) < 1000) (H : Q (0, zG S (L + 2) (k * 4) + zG S (L + 2) (k * 4 + 1) + zG S (L + 2) (k * 4 + 2) + zG S (L + 2) (k * 4 + 3)) S) : Ev d 67 [(2, L), (0, k)] S Q := by
  apply w_Place_allDepths_0
  refine loopU (α := Int) (P := fun j v => At d 67 c67_4 [(0, (2, L)), (1, (0, k)), (2, (0, v)), (3, (0, j))] [] S Q) (I := fun j v => 0 ≤ j ∧ v = sm j.toNat (fun i => zG S (L + 2) (k * 4 + i)) ∧ 0 ≤ v ∧ v ≤ 1000 * j) 4 ?_ ?_ 0 0 (by omega) ⟨by omega, rfl, by omega, by omega⟩
  · rintro j v hj ⟨j0, jv, v0, v1⟩ hk2
    have b := hb j j0 hj
    apply w_Place_allDepths_4
    rw [h.2.2.1, w32_id (x := k * 4) (by omega) (by omega), w32_id (x := k * 4 + j) (by omega) (by omega), w32_id (x := v + zG S (L + 2) (k * 4 + j)) (by omega) (by omega), w32_id (x := j + 1) (by omega) (by omega)]
    refine ⟨fun hc => by omega, fun _ => ⟨h.1, ⟨h.2.2.2.2.2.2.2.1.1, by omega, by rw [h.2.2.2.2.2.2.2.1.2]; omega⟩, ?_⟩⟩
    rintro _ rfl _ rfl
    refine hk2 _ ⟨by omega, ?_, by omega, by omega⟩
    rw [show (j + 1).toNat = j.toNat + 1 by omega, sm_succ, show ((j.toNat : Nat) : Int) = j by omega, jv]
  · rintro v ⟨j0, jv, -, -⟩
    apply w_Place_allDepths_4
    refine ⟨fun _ => ?_, fun hc => absurd (show (4 : Int) ≤ 4 by omega) hc⟩
    have : v = zG S (L + 2) (k * 4) + zG S (L + 2) (k * 4 + 1) + zG S (L + 2) (k * 4 + 2) + zG S (L + 2) (k * 4 + 3) := by
      rw [jv]
      show 0 + zG S (L + 2) (k * 4 + 0) + zG S (L + 2) (k * 4 + 1) + zG S (L + 2) (k * 4 + 2) + zG S (L + 2) (k * 4 + 3) = _
      rw [show k * 4 + 0 = k * 4 by omega]
      omega
    rw [this]
    exact H
/-- ring 0 laid down -/
theorem s_pstart {d : Nat} {L : Int} {S : Hp} {Q : Vl → Hp → Prop} (h : PW S L) (hr : PR S L) (H : ∀ S', Md (fun x => x = L + 1 ∨ x = L + 2) S S' → PW S' L → PR S' L → (∀ j, 0 ≤ j → j < 4 → zG S' (L + 2) (0 * 4 + j) = 0) → (∀ j i, 0 ≤ j → j < 4 → 0 ≤ i → i < 4 → zG S' (L + 1) ((0 * 4 + j) * 4 + i) = if i = j then 1 else 0) → Q (3, 0) S') : Ev (d + 1) 68 [(2, L)] S Q := by
  apply w_Place_start_0
  refine loopU (P := fun j S' => At (d + 1) 68 c68_2 [(0, (2, L)), (1, (0, j))] [] S' Q) (I := fun j S' => 0 ≤ j ∧ Md (fun x => x = L + 1 ∨ x = L + 2) S S' ∧ PW S' L ∧ PR S' L ∧ (∀ l, 0 ≤ l → l < j → zG S' (L + 2) (0 * 4 + l) = 0) ∧ ∀ l i, 0 ≤ l → l < j → 0 ≤ i → i < 4 → zG S' (L + 1) ((0 * 4 + l) * 4 + i) = if i = l then 1 else 0) 4 ?_ ?_ 0 S (by omega) ⟨by omega, Md.refl _ _, h, hr, fun l l0 l1 => by omega, fun l i l0 l1 => by omega⟩
  · rintro j S1 hj ⟨j0, jm, jw, jr, jd, jf⟩ hk
    apply w_Place_start_2
    refine ⟨fun hc => by omega, fun _ => ⟨jw.1, s_setDeep jw (by omega) ⟨j0, hj⟩ ⟨rfl, ?_⟩⟩⟩
    have m2 : Md (fun x => x = L + 2) S1 (zS S1 (L + 2) (0 * 4 + j) 0) := Md.zS _ _ _ _
    have w2 : PW (zS S1 (L + 2) (0 * 4 + j) 0) L := jw.keep m2 (by omega)
    have r2 : PR (zS S1 (L + 2) (0 * 4 + j) 0) L := jr.keep m2 (by omega)
    have d2 : ∀ l, 0 ≤ l → l < j + 1 → zG (zS S1 (L + 2) (0 * 4 + j) 0) (L + 2) (0 * 4 + l) = 0 := fun l l0 l1 => by
      by_cases q : l = j
      · rw [q, zG_zS_at]
      · rw [zG_zS_ne _ (Or.inr (by omega))]
        exact jd l l0 (by omega)
    have f2 : ∀ l i, 0 ≤ l → l < j → 0 ≤ i → i < 4 → zG (zS S1 (L + 2) (0 * 4 + j) 0) (L + 1) ((0 * 4 + l) * 4 + i) = if i = l then 1 else 0 := fun l i l0 l1 i0 i1 => by
      rw [m2.G (by omega)]
      exact jf l i l0 l1 i0 i1
    generalize zS S1 (L + 2) (0 * 4 + j) 0 = S2 at *
    refine loopU (P := fun i S' => At (d + 1) 68 c68_16 [(0, (2, L)), (1, (0, j)), (2, (0, i))] [] S' Q) (I := fun i S' => 0 ≤ i ∧ Md (fun x => x = L + 1) S2 S' ∧ PR S' L ∧ ∀ l e, 0 ≤ l → l ≤ j → 0 ≤ e → e < 4 → (l < j ∨ e < i) → zG S' (L + 1) ((0 * 4 + l) * 4 + e) = if e = l then 1 else 0) 4 ?_ ?_ 0 S2 (by omega) ⟨by omega, Md.refl _ _, r2, fun l e l0 l1 e0 e1 hq => f2 l e l0 (by omega) e0 e1⟩
    · rintro i S3 hi ⟨i0, im, ir, il⟩ hk2
      have w3 : PW S3 L := w2.keep im (by omega)
      apply w_Place_start_16
      refine ⟨fun hc => by omega, fun _ => ?_⟩
      rintro x hx
      have hx : x = if i = j then 1 else 0 := by
        rw [hx]
        by_cases q : i = j
        · rw [if_neg (fun z => z q), if_pos q]
        · rw [if_pos q, if_neg q]
      refine ⟨w3.1, s_setFigures w3 (by omega) ⟨j0, hj⟩ ⟨i0, hi⟩ ⟨rfl, ?_⟩⟩
      rintro _ rfl
      rw [w32_id (by omega) (by omega)]
      refine hk2 _ ⟨by omega, im.tr (Md.zS _ _ _ _), fun e e0 e1 => ?_, fun l e l0 l1 e0 e1 hq => ?_⟩
      · rw [zG_zS]
        split
        · rw [hx]
          split <;> omega
        · exact ir e e0 e1
      · by_cases q : l = j ∧ e = i
        · rw [q.1, q.2, zG_zS_at, hx]
        · rw [zG_zS_ne _ (Or.inr (by omega))]
          exact il l e l0 l1 e0 e1 (by omega)
    · rintro S3 ⟨i0, im, ir, il⟩
      apply w_Place_start_16
      refine ⟨fun _ => ?_, fun hc => absurd (show (4 : Int) ≤ 4 by omega) hc⟩
      rintro _ rfl
      rw [w32_id (by omega) (by omega)]
      exact hk _ ⟨by omega, (jm.tr (m2.wide (fun x hx => Or.inr hx))).tr (im.wide (fun x hx => Or.inl hx)), w2.keep im (by omega), ir, fun l l0 l1 => by rw [im.G (by omega)]; exact d2 l l0 l1, fun l i l0 l1 i0 i1 => il l i l0 (by omega) i0 i1 (Or.inr i1)⟩
  · rintro S1 ⟨j0, jm, jw, jr, jd, jf⟩
    apply w_Place_start_2
    exact ⟨fun _ => H S1 jm jw jr jd jf, fun hc => absurd (show (4 : Int) ≤ 4 by omega) hc⟩
/-- the greatest m with a figure of b_j by t^m -/
def isDp (f : Int → Int → Int) (j v : Int) : Prop := 0 ≤ v ∧ v ≤ 20 ∧ (∀ m, v < m → m ≤ 20 → ∀ i, 0 ≤ i → i ≤ j → f i m = 0) ∧ (1 ≤ v → ∃ i, 0 ≤ i ∧ i ≤ j ∧ f i v ≠ 0)
theorem s_deepestIn {d : Nat} {L k j : Int} {S : Hp} {Q : Vl → Hp → Prop} (h : PW S L) (hr : PR S L) (hk : 0 ≤ k ∧ k < 19) (hj : 0 ≤ j ∧ j < 4) (H : ∀ v, isDp (fun i m => figS S L k j i m) j v → Q (0, v) S) : Ev (d + 1) 70 [(2, L), (0, k), (0, j)] S Q := by
  apply w_Place_deepestIn_0
  refine loopD (α := Unit) (P := fun m _ => At (d + 1) 70 c70_3 [(0, (2, L)), (1, (0, k)), (2, (0, j)), (3, (0, m))] [] S Q) (I := fun m _ => m ≤ 20 ∧ ∀ l, m < l → l ≤ 20 → ∀ i, 0 ≤ i → i ≤ j → figS S L k j i l = 0) 1 ?_ ?_ 20 () (by omega) ⟨by omega, fun l l0 l1 => by omega⟩
  · rintro m _ hm ⟨m1, mz⟩ hk2
    apply w_Place_deepestIn_3
    refine ⟨fun hc => by omega, fun _ => ?_⟩
    refine loopU (α := Unit) (P := fun i _ => At (d + 1) 70 c70_10 [(0, (2, L)), (1, (0, k)), (2, (0, j)), (3, (0, m)), (4, (0, i))] [] S Q) (I := fun i _ => 0 ≤ i ∧ ∀ l, 0 ≤ l → l < i → figS S L k j l m = 0) (j + 1) ?_ ?_ 0 () (by omega) ⟨by omega, fun l l0 l1 => by omega⟩
    · rintro i _ hi ⟨i0, iz⟩ hk3
      apply w_Place_deepestIn_10
      refine ⟨fun hc => by omega, fun _ => ⟨h.1, s_figure h hr hk hj ⟨i0, by omega⟩ ⟨_, rfl, fun hz => ?_, fun hz => H m ⟨by omega, m1, mz, fun _ => ⟨i, i0, by omega, hz⟩⟩⟩⟩⟩
      rintro _ rfl
      rw [w32_id (by omega) (by omega)]
      refine hk3 () ⟨by omega, fun l l0 l1 => ?_⟩
      by_cases q : l = i
      · rw [q]
        exact hz
      · exact iz l l0 (by omega)
    · rintro _ ⟨i0, iz⟩
      apply w_Place_deepestIn_10
      refine ⟨fun _ => ?_, fun hc => absurd (show j < j + 1 by omega) hc⟩
      rintro _ rfl
      rw [w32_id (by omega) (by omega)]
      refine hk2 () ⟨by omega, fun l l0 l1 i h0 h1 => ?_⟩
      by_cases q : l = m
      · rw [q]
        exact iz i h0 (by omega)
      · exact mz l (by omega) l1 i h0 h1
  · rintro _ ⟨m1, mz⟩
    apply w_Place_deepestIn_3
    exact ⟨fun _ => H 0 ⟨by omega, by omega, fun m h0 h1 => mz m (by omega) h1, fun q => by omega⟩, fun hc => absurd (show (1 : Int) - 1 ≤ 0 by omega) hc⟩
theorem isDp_uniq {f : Int → Int → Int} {j v w : Int} (h : isDp f j v) (h' : isDp f j w) : v = w := by
  obtain ⟨a1, a2, a3, a4⟩ := h
  obtain ⟨b1, b2, b3, b4⟩ := h'
  by_cases q : v < w
  · obtain ⟨i, i0, i1, i2⟩ := b4 (by omega)
    exact absurd (a3 w q b2 i i0 i1) i2
  · by_cases q2 : w < v
    · obtain ⟨i, i0, i1, i2⟩ := a4 (by omega)
      exact absurd (b3 v q2 a2 i i0 i1) i2
    · omega
theorem s_unfold {d : Nat} {L k j o p ro : Int} {S : Hp} {Q : Vl → Hp → Prop} (h : PW S L) (hr : PR S L) (hk : 0 ≤ k ∧ k < 19) (hj : 0 ≤ j ∧ j < 4) (hp : 2 ≤ p ∧ p ≤ 7) (hf : ∀ i m, 0 ≤ i → i < 4 → figS S L k j i m < p) (ho : LAW S o 4 (fun _ => ro)) (hro : 21 ≤ ro) (d1 : o + 8 < L ∨ L + 5 < o) (H : ∀ S' v, isDp (fun i m => figS S L k j i m) j v → Md (MA o 4) S S' → LAN S' o 4 (fun _ => ro) p (fun i e => if 0 ≤ i ∧ i ≤ j ∧ 0 ≤ e ∧ e ≤ v then figS S L k j i (v - e) else 0) → Q (0, v) S') : Ev (d + 2) 71 [(2, L), (0, k), (0, j), (2, o)] S Q := by
  apply w_Place_unfold_0
  refine ⟨h.1, s_deepestIn h hr hk hj (fun v hv => ⟨_, rfl, ?_⟩)⟩
  obtain ⟨v0, v1, -, -⟩ := id hv
  refine s_zeroLines (p := p) ho (by omega) (by omega) (fun S1 m1 z1 => ⟨rfl, ?_⟩)
  refine loopU (P := fun i S' => At (d + 2) 71 c71_15 [(0, (2, L)), (1, (0, k)), (2, (0, j)), (3, (2, o)), (4, (0, v)), (5, (0, i))] [] S' Q) (I := fun i S' => 0 ≤ i ∧ Md (MA o 4) S S' ∧ LAN S' o 4 (fun _ => ro) p (fun l e => if 0 ≤ l ∧ l < i ∧ 0 ≤ e ∧ e ≤ v then figS S L k j l (v - e) else 0)) (j + 1) ?_ ?_ 0 S1 (by omega) ⟨by omega, m1, z1.congr fun l l0 l1 e => by rw [if_neg (by omega)]⟩
  · rintro i S2 hi ⟨i0, im, iz⟩ hk2
    apply w_Place_unfold_15
    refine ⟨fun hc => by omega, fun _ => ?_⟩
    refine loopU (P := fun e S' => At (d + 2) 71 c71_24 [(0, (2, L)), (1, (0, k)), (2, (0, j)), (3, (2, o)), (4, (0, v)), (5, (0, i)), (6, (0, e))] [] S' Q) (I := fun e S' => 0 ≤ e ∧ Md (MA o 4) S S' ∧ LAN S' o 4 (fun _ => ro) p (fun l x => if (0 ≤ l ∧ l < i ∧ 0 ≤ x ∧ x ≤ v) ∨ (l = i ∧ 0 ≤ x ∧ x < e) then figS S L k j l (v - x) else 0)) (v + 1) ?_ ?_ 0 S2 (by omega) ⟨by omega, im, iz.congr fun l l0 l1 x => ?_⟩
    · rintro e S3 he ⟨e0, em, ez⟩ hk3
      have w3 : PW S3 L := h.keep em (by unfold MA; omega)
      have r3 : PR S3 L := hr.keep em (by unfold MA; omega)
      have f3 := figS_keep em (L := L) (by unfold MA; omega)
      apply w_Place_unfold_24
      rw [ez.ptr i0 (by omega), w32_id (x := v - e) (by omega) (by omega)]
      refine ⟨fun hc => by omega, fun _ => ⟨⟨ez.1, i0, by rw [ez.2.1]; omega⟩, w3.1, s_figure w3 r3 hk hj ⟨i0, by omega⟩ ⟨_, rfl, (ez.at i0 (by omega)).ln.1, ?_⟩⟩⟩
      rw [f3]
      refine n_write (n := ro) (ez.at i0 (show i < 4 by omega)) (fun x hx => ?_) (by omega) e0 ⟨(figS_bd _ _ _ _ _ _).1, hf i _ i0 (by omega)⟩ (fun S4 m4 l4 => ⟨rfl, ?_⟩)
      · (try dsimp only)
        rw [if_neg (by omega)]
      · rintro _ rfl
        rw [w32_id (by omega) (by omega)]
        refine hk3 _ ⟨by omega, em.tr (m4.wide (fun x hx => by unfold ML at hx; unfold MA; omega)), (ez.set m4 i0 (by omega) l4).congr fun l l0 l1 x => ?_⟩
        by_cases q : l = i
        · rw [if_pos q, q]
          by_cases q2 : x = e
          · rw [if_pos q2, if_pos (by omega), q2]
          · rw [if_neg q2]
            by_cases q3 : 0 ≤ x ∧ x < e
            · rw [if_pos (by omega), if_pos (by omega)]
            · rw [if_neg (by omega), if_neg (by omega)]
        · rw [if_neg q]
          by_cases q3 : 0 ≤ l ∧ l < i ∧ 0 ≤ x ∧ x ≤ v
          · rw [if_pos (by omega), if_pos (by omega)]
          · rw [if_neg (by omega), if_neg (by omega)]
    · rintro S3 ⟨e0, em, ez⟩
      apply w_Place_unfold_24
      refine ⟨fun _ => ?_, fun hc => absurd (show v < v + 1 by omega) hc⟩
      rintro _ rfl
      rw [w32_id (by omega) (by omega)]
      refine hk2 _ ⟨by omega, em, ez.congr fun l l0 l1 x => ?_⟩
      by_cases q3 : 0 ≤ l ∧ l < i + 1 ∧ 0 ≤ x ∧ x ≤ v
      · rw [if_pos (by omega), if_pos (by omega)]
      · rw [if_neg (by omega), if_neg (by omega)]
    · by_cases q3 : 0 ≤ l ∧ l < i ∧ 0 ≤ x ∧ x ≤ v
      · rw [if_pos (by omega), if_pos (by omega)]
      · rw [if_neg (by omega), if_neg (by omega)]
  · rintro S2 ⟨i0, im, iz⟩
    apply w_Place_unfold_15
    refine ⟨fun _ => H S2 v hv im (iz.congr fun l l0 l1 x => ?_), fun hc => absurd (show j < j + 1 by omega) hc⟩
    by_cases q3 : 0 ≤ l ∧ l < j + 1 ∧ 0 ≤ x ∧ x ≤ v
    · rw [if_pos (by omega), if_pos (by omega)]
    · rw [if_neg (by omega), if_neg (by omega)]
theorem s_deepest {d : Nat} {L k : Int} {S : Hp} {Q : Vl → Hp → Prop} (h : PW S L) (hr : PR S L) (hk : 0 ≤ k ∧ k < 19) (H : ∀ v0 v1 v2 v3, isDp (fun i m => figS S L k 0 i m) 0 v0 → isDp (fun i m => figS S L k 1 i m) 1 v1 → isDp (fun i m => figS S L k 2 i m) 2 v2 → isDp (fun i m => figS S L k 3 i m) 3 v3 → Q (0, max (max (max (max 0 v0) v1) v2) v3) S) : Ev (d + 2) 69 [(2, L), (0, k)] S Q := by
  apply w_Place_deepest_0
  apply w_Place_deepest_4
  refine ⟨fun hc => by omega, fun _ => ⟨h.1, s_deepestIn h hr hk (by omega) (fun v0 h0 => ⟨_, rfl, s_max ⟨_, rfl, ?_⟩⟩)⟩⟩
  rintro _ rfl
  rw [w32_id (by omega) (by omega)]
  apply w_Place_deepest_4
  refine ⟨fun hc => by omega, fun _ => ⟨h.1, s_deepestIn h hr hk (by omega) (fun v1 h1 => ⟨_, rfl, s_max ⟨_, rfl, ?_⟩⟩)⟩⟩
  rintro _ rfl
  rw [w32_id (by omega) (by omega)]
  apply w_Place_deepest_4
  refine ⟨fun hc => by omega, fun _ => ⟨h.1, s_deepestIn h hr hk (by omega) (fun v2 h2 => ⟨_, rfl, s_max ⟨_, rfl, ?_⟩⟩)⟩⟩
  rintro _ rfl
  rw [w32_id (by omega) (by omega)]
  apply w_Place_deepest_4
  refine ⟨fun hc => by omega, fun _ => ⟨h.1, s_deepestIn h hr hk (by omega) (fun v3 h3 => ⟨_, rfl, s_max ⟨_, rfl, ?_⟩⟩)⟩⟩
  rintro _ rfl
  rw [w32_id (by omega) (by omega)]
  apply w_Place_deepest_4
  exact ⟨fun _ => H v0 v1 v2 v3 h0 h1 h2 h3, fun hc => absurd (by omega) hc⟩
