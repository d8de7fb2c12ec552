/-! Elements worked out: over. -/
theorem qr_zero {p c : Int} {R : Int → Int} {U : Int} (hR : ∀ i, R i = 0) (j : Int) : qr p c R U j = 0 := by
  have qd0 : ∀ k : Nat, qd p c R U k = 0 := fun k => by
    induction k with
    | zero => rfl
    | succ k ih =>
      show (R (U - k) + c * qd p c R U k) % p = 0
      rw [ih, hR, Int.mul_zero]
      exact Int.zero_emod p
  unfold qr
  exact qd0 _
theorem qr_bnd {p c : Int} (hp : 0 < p) {R : Int → Int} {U : Int} (j : Int) : 0 ≤ qr p c R U j ∧ qr p c R U j < p := by
  have qd0 : ∀ k : Nat, 0 ≤ qd p c R U k ∧ qd p c R U k < p := fun k => by
    induction k with
    | zero => exact ⟨Int.le_refl 0, hp⟩
    | succ k ih =>
      show 0 ≤ (R (U - k) + c * qd p c R U k) % p ∧ (R (U - k) + c * qd p c R U k) % p < p
      exact ⟨em_ge (by omega), em_lt (by omega)⟩
  unfold qr
  exact qd0 _
theorem lwF_zero {p c T : Int} {j : Int} : ∀ (m : Nat) {W : Int → Int → Int}, (∀ i, W j i = 0) → ∀ i, lwF p c T m W j i = 0
  | 0, _, h => h
  | m + 1, W, h => fun i => by
    by_cases q : rootAll p c T W
    · rw [(lwM_yes q).2]
      refine lwF_zero m (fun i => ?_) i
      unfold dvR
      split
      · rfl
      · exact qr_zero h i
    · rw [(lwM_no q).2]
      exact h i
theorem lwF_bd {p c T : Int} (hp : 0 < p) : ∀ (m : Nat) {W : Int → Int → Int}, (∀ j i, 0 ≤ W j i ∧ W j i < p) → ∀ j i, 0 ≤ lwF p c T m W j i ∧ lwF p c T m W j i < p
  | 0, _, h => h
  | m + 1, W, h => fun j i => by
    by_cases q : rootAll p c T W
    · rw [(lwM_yes q).2]
      refine lwF_bd hp m (fun j i => ?_) j i
      unfold dvR
      split
      · omega
      · exact qr_bnd hp i
    · rw [(lwM_no q).2]
      exact h j i
theorem lwF_neg {p c T : Int} : ∀ (m : Nat) {W : Int → Int → Int}, (∀ j i, i < 0 → W j i = 0) → ∀ j i, i < 0 → lwF p c T m W j i = 0
  | 0, _, h => h
  | m + 1, W, h => fun j i hi => by
    by_cases q : rootAll p c T W
    · rw [(lwM_yes q).2]
      refine lwF_neg m (fun j i hi => ?_) j i hi
      unfold dvR
      rw [if_pos hi]
    · rw [(lwM_no q).2]
      exact h j i hi
/-- work rows alone were written -/
theorem st_q {S S' : Hp} {D v u p n g : Int} {F Δ : Int → Int} (hD : 485 ≤ D) (kn : KNO p n g F Δ) (cl : CLS S v u p n g F Δ) (md : MDL S D p n g F Δ) (re : RES S D p n F) (m : Md (fun x => 70 ≤ x ∧ x ≤ 140) S S') (q7 : QW S' 70 128) (q8 : QW S' 80 128) (mw : MW S' 90) : CLS S' v u p n g F Δ ∧ MDL S' D p n g F Δ ∧ RES S' D p n F ∧ MID S S' D := by
  obtain ⟨cp, co, cu, pl, al⟩ := cl
  have vu := cp.2.2.2.2.1
  refine ⟨⟨cp.keep m (by omega) (by omega) (by omega) (by omega), co.keep m q7 q8 mw (co.2.2.2.2.2.2.2.1.keep m (fun x x0 x1 => by omega)) (co.2.2.2.2.2.2.2.2.1.keep m (fun x hx => by omega)) (co.2.2.2.2.2.2.2.2.2.1.keep m (by omega)) (fun x hx => by omega), cu.keep m (fun x x0 x1 => by omega), pl.keep kn.n4 m (fun x x0 x1 => by omega), al.keep m (fun x hx => by omega)⟩, md.far m (fun x x0 => by omega), re.keep kn.n4 m (fun x hx => by unfold REx at hx; omega) (fun i hi => m.G (by omega) i), mid_md m cp.1 md.1.1 (by omega)⟩
theorem s_storeT {d : Nat} {S : Hp} {D v u p n g s m c : Int} {F Δ : Int → Int} {W : Int → Int → Int} {Q : Vl → Hp → Prop} (hD : 485 ≤ D) (kn : KNO p n g F Δ) (cl : CLS S v u p n g F Δ) (md : MDL S D p n g F Δ) (re : RES S D p n F) (hs : 0 ≤ s ∧ s < 6) (n0 : n ≠ 0) (hq : QN S 70 128 p m c W) (hc : 0 ≤ c ∧ c < p) (hm : 0 ≤ m ∧ m < 1000) (hT : ∀ j, 0 ≤ j → j < 4 → ∀ i, 99 < i → W j i = 0) (bW : ∀ j i, 0 ≤ W j i ∧ W j i < p) (nW : ∀ j i, i < 0 → W j i = 0) (zW : ∀ j i, j < 0 ∨ n ≤ j → W j i = 0) (H : ∀ x S1, Md (fun x => x = 1 ∨ (70 ≤ x ∧ x ≤ 89) ∨ (343 + 12 * s ≤ x ∧ x ≤ 353 + 12 * s)) S S1 → MID S S1 D → stP D p s m c W S1 (fun r' S2 => r' = (0, x) ∧ MID S1 S2 D ∧ Rel S2 D) → Q (0, x) S1) : Ev (d + 3) 154 [(2, 1), (0, s)] S Q := s_storeR hD kn cl md re hs n0 (Md.refl _ _) hq cl.2.1.2.2.2.2.2.1 hc hm hT (lwF_bd (by have := kn.1.two; omega) _ bW) (fun j i hi => lwF_neg _ nW j i hi) (fun j i hj => lwF_zero _ (fun i => zW j i hj) i) H
/-- the reference's rows that an element needs, after the class stored -/
theorem st_far {S S' : Hp} {D s : Int} (hD : 485 ≤ D) (hs : 0 ≤ s ∧ s < 6) (m : Md (fun x => x = 1 ∨ (70 ≤ x ∧ x ≤ 89) ∨ (343 + 12 * s ≤ x ∧ x ≤ 353 + 12 * s)) S S') : ∀ x, 485 ≤ x → ¬ (x = 1 ∨ (70 ≤ x ∧ x ≤ 89) ∨ (343 + 12 * s ≤ x ∧ x ≤ 353 + 12 * s)) := fun x hx => by omega
theorem r_over {d : Nat} {S : Hp} {D s c m : Int} (hD : 485 ≤ D) (R : Rel S D) : TW (d + 20) 120 255 [(0, s), (0, c), (0, m)] S D := by
  obtain ⟨v, u, p, n, g, F, Δ, kn, cl, md, re⟩ := R
  have id0 := rel_id kn cl md re
  have sh := re.2.1
  have h2 := kn.1.two
  have n4 := kn.n4
  unfold TW
  apply w_Crc_over_0
  refine ⟨cl.1.1, s_isNum cl ⟨_, rfl, ?_⟩⟩
  rintro _ rfl
  have ne : ∀ S1 W, S1 = S → (rfE n s True (zG S (D + 3) s) = 0 → ELE S D p n s W) → (rfE n s True (zG S1 (D + 3) s) = 0 → elW S1 D s n p W ∧ 0 ≤ zG S1 (D + 5) s ∧ zG S1 (D + 5) s ≤ 20) := fun S1 W e h z => by
    subst e
    exact ⟨(h z).2.1, (h z).2.2.1⟩
  have exW : ∃ W, rfE n s True (zG S (D + 3) s) = 0 → ELE S D p n s W := by
    by_cases z : rfE n s True (zG S (D + 3) s) = 0
    · obtain ⟨-, -, -, -, W, el⟩ := rf_el sh z
      exact ⟨W, fun _ => el⟩
    · exact ⟨fun _ _ => 0, fun w => absurd w z⟩
  obtain ⟨W, hW⟩ := exW
  refine ⟨cl.1.1, s_refusal cl sh (f := (0 ≤ c ∧ c < p) ∧ 0 ≤ m ∧ m ≤ 20) ?_ ⟨_, rfl, fun z => ?_, fun z => ?_⟩⟩
  · by_cases a : 0 ≤ c ∧ c < p
    · rw [if_pos a]
      by_cases b : 0 ≤ m ∧ m ≤ 20
      · rw [if_neg (by omega)]
        exact ⟨fun _ => ⟨a, b⟩, fun _ => by decide⟩
      · rw [if_pos (by omega)]
        exact ⟨fun q => absurd rfl q, fun q => absurd q.2 b⟩
    · rw [if_neg a, if_pos (Or.inl rfl)]
      exact ⟨fun q => absurd rfl q, fun q => absurd q.1 a⟩
  · obtain ⟨hs, ⟨hc, hm⟩, h1, n0, -⟩ := rf_el sh z
    have zT : rfE n s True (zG S (D + 3) s) = 0 := by
      unfold rfE
      rw [if_neg n0, if_pos ⟨hs.1, hs.2, trivial⟩, if_neg (by omega), if_neg (by omega)]
    have el := hW zT
    have sw := cl.sw hs.1 hs.2
    rw [cl.1.a6, cl.1.p6 s hs.1 hs.2, sw.2.1]
    refine ⟨cl.1.1, ⟨cl.1.k68.1, hs.1, by rw [cl.1.k68.2]; exact hs.2⟩, sw.1, ?_⟩
    rintro _ rfl
    rw [el.1.2.2.1, el.1.2.2.2.1]
    refine ⟨el.1.1, fun _ => el.1.1, fun q => ?_, fun q => ?_⟩
    · have q' : ¬ (0 < zG S (D + 5) s ∧ zG S (D + 6) s ≠ c) := by omega
      apply w_Crc_over_69
      rw [cl.1.a9]
      have q7 : QW S 70 128 := cl.2.1.2.2.2.2.1
      refine ⟨cl.1.1, q7.1, s_qtake q7 el.1 (by omega) (fun j j0 j1 i hi => el.2.1.2.2.1 j i (by omega)) (fun S1 m1 q1 => ⟨rfl, ?_⟩)⟩
      unfold MQ' at m1
      have cp1 : CP S1 v u := cl.1.keep m1 (by omega) (by omega) (by omega) (by omega)
      rw [cp1.a9, q1.2.2.1, w32_id (by have := el.2.2.1; omega) (by have := el.2.2.1; omega)]
      refine ⟨cp1.1, q1.1, q1.1, ?_⟩
      rintro _ rfl
      have M2 := Md.zS S1 70 1 (zG S (D + 5) s + m)
      have q2 := (q1.put (v := zG S (D + 5) s + m)).1
      have cp2 : CP (zS S1 70 1 (zG S (D + 5) s + m)) v u := cp1.keep M2 (by omega) (by omega) (by omega) (by omega)
      rw [cp2.a9]
      refine ⟨cp2.1, q2.1, ?_⟩
      rintro _ rfl
      have M3 := Md.zS (zS S1 70 1 (zG S (D + 5) s + m)) 70 2 c
      have q3 := (q2.put (v := c)).2
      generalize zS (zS S1 70 1 (zG S (D + 5) s + m)) 70 2 c = S3 at M3 q3 ⊢
      have m3 : Md (fun x => 70 ≤ x ∧ x ≤ 79) S S3 := (m1.wide (fun x hx => by omega)).tr ((M2.wide (fun x hx => by omega)).tr (M3.wide (fun x hx => by omega)))
      obtain ⟨cl3, md3, re3, mi3⟩ := st_q hD kn cl md re (m3.wide (fun x hx => by omega)) q3.w (cl.2.1.2.2.2.2.2.1.keep m3 (fun x x0 x1 => by omega)) (cl.mw.keep m3 (fun x x0 x1 => by omega))
      have e5 := el.2.2.1
      refine ⟨cl3.1.1, s_storeT hD kn cl3 md3 re3 hs n0 q3 hc (by omega) (fun j j0 j1 i hi => el.2.1.2.2.1 j i (by omega)) el.2.1.2.1 (fun j i hi => el.2.1.2.2.1 j i (by omega)) (fun j i hj => el.2.1.2.2.2 j i hj) (fun x S4 m4 mi4 st => ⟨_, rfl, _, rfl, mid_tr mi3 mi4, ?_⟩)⟩
      have o4 : ∀ x i, 485 ≤ x → zG S4 x i = zG S x i := fun x i hx => (m4.G (by omega) i).trans (m3.G (by omega) i)
      have e3 : zG S4 (D + 3) s = zG S (D + 3) s := o4 _ _ (by omega)
      refine m_over (W := W) (md3.1.md m4 (by omega)) ((o4 _ _ (by omega)).trans md.2.1) h2 ((o4 _ _ (by omega)).trans md.2.2.1) kn.2.1 (fun _ => ⟨(el.2.1.keep m3 (by omega)).keep m4 (by omega), ?_⟩) (fun w => ?_) (fun _ w => ?_) (fun _ _ => ?_)
      · rw [o4 _ _ (by omega)]
        exact e5
      · rw [e3] at w
        exact absurd z w
      · rw [o4 _ _ (by omega), o4 _ _ (by omega)] at w
        exact absurd w q'
      · rw [o4 _ _ (by omega)]
        exact st
    · have q' : 0 < zG S (D + 5) s ∧ zG S (D + 6) s ≠ c := by omega
      exact ⟨_, rfl, id0.1, m_over md.1 md.2.1 h2 md.2.2.1 kn.2.1 (ne S W rfl hW) (fun w => absurd z w) (fun _ _ => ⟨rfl, id0⟩) (fun _ w => absurd q' w)⟩
  · exact ⟨_, rfl, id0.1, m_over md.1 md.2.1 h2 md.2.2.1 kn.2.1 (ne S W rfl hW) (fun _ => ⟨rfl, id0⟩) (fun w => absurd w z) (fun w => absurd w z)⟩
