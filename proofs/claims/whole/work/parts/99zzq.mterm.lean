/-! The model's reader: a power comes to its term. -/
/-- a row of a level: the term or the sum -/
def TO (S : Hp) (a l p h : Int) (P : Int → Int) : Prop := ∀ x, 0 ≤ x → x < 49 → (0 ≤ zG S a (49 * l + x) ∧ zG S a (49 * l + x) < p) ∧ (h < 0 → zG S a (49 * l + x) = P x)
theorem TO.keep {M : Int → Prop} {S S' : Hp} {a l p h : Int} {P : Int → Int} (r : TO S a l p h P) (m : Md M S S') (ha : ¬ M a) : TO S' a l p h P := fun x x0 x1 => by
  rw [m.G ha]
  exact r x x0 x1
theorem TO.up {S : Hp} {a l p h h' : Int} {P : Int → Int} (r : TO S a l p h P) (e : h' < 0 → h < 0) : TO S a l p h' P := fun x x0 x1 => ⟨(r x x0 x1).1, fun z => (r x x0 x1).2 (e z)⟩
theorem m_ctEnd {d : Nat} {D p h l : Int} {S : Hp} {A : Int → Int} {Q : Vl → Hp → Prop} (w : DW S D) (hl : 0 ≤ l ∧ l ≤ 4) (h27 : zG S D 27 = l) (rA : RO S (D + 18) p h A) (H : ∀ S', Md (fun x => x = D + 15 ∨ x = D + 17) S S' → TO S' (D + 15) l p h A → (∀ x, x < 49 * l ∨ 49 * l + 49 ≤ x → zG S' (D + 15) x = zG S (D + 15) x) → (∀ x, zG S' (D + 17) x = if x = l then -1 else zG S (D + 17) x) → Q (3, 0) S') : At (d + 1) 180 c180_71 [(0, (2, D))] [] S Q := by
  apply w_Model_comesToTerm_71
  refine loopU (P := fun e S' => At (d + 1) 180 c180_73 [(0, (2, D)), (1, (0, e))] [] S' Q) (I := fun e S' => 0 ≤ e ∧ Md (fun x => x = D + 15) S S' ∧ (∀ x, 0 ≤ x → x < e → zG S' (D + 15) (49 * l + x) = zG S (D + 18) x) ∧ ∀ x, x < 49 * l ∨ 49 * l + 49 ≤ x → zG S' (D + 15) x = zG S (D + 15) x) 49 ?_ ?_ 0 S (by omega) ⟨by omega, Md.refl _ _, fun x a b => by omega, fun _ _ => rfl⟩
  · rintro e S1 he ⟨e0, m1, v1, u1⟩ hk
    have w1 : DW S1 D := w.md m1 (by omega)
    apply w_Model_comesToTerm_73
    rw [w1.x_power.1, w1.x_power.2.1, w1.x_power.2.2, w1.x_terms.1, w1.x_terms.2.1, w1.x_terms.2.2, (m1.G (a := D) (by omega) 27).trans h27, w32_id (x := 49 * l) (by omega) (by omega), w32_id (x := 49 * l + e) (by omega) (by omega), m1.G (a := D + 18) (by omega)]
    refine ⟨fun z => by omega, fun _ => ⟨w1.1, w1.1, w1.1, ⟨rfl, by omega, by omega⟩, ⟨rfl, by omega, by omega⟩, ?_⟩⟩
    rintro _ rfl _ rfl
    rw [w32_id (by omega) (by omega)]
    refine hk _ ⟨by omega, m1.tr (Md.zS _ _ _ _), fun x x0 x1 => ?_, fun x hx => ?_⟩
    · rw [zG_zS]
      by_cases q : x = e
      · rw [if_pos ⟨rfl, by omega⟩, q]
      · rw [if_neg (fun z => q (by omega))]
        exact v1 x x0 (by omega)
    · rw [zG_zS_ne _ (Or.inr (by omega))]
      exact u1 x hx
  · rintro S1 ⟨-, m1, v1, u1⟩
    have w1 : DW S1 D := w.md m1 (by omega)
    apply w_Model_comesToTerm_73
    rw [w1.x_timesAt.1, w1.x_timesAt.2.1, w1.x_timesAt.2.2, (m1.G (a := D) (by omega) 27).trans h27]
    refine ⟨fun _ => ⟨w1.1, w1.1, ⟨rfl, by omega, by omega⟩, ?_⟩, fun z => absurd (Int.le_refl 49) z⟩
    rintro _ rfl
    refine H _ ((m1.wide (fun x hx => Or.inl hx)).tr ((Md.zS _ _ _ _).wide (fun x hx => Or.inr hx))) (fun x x0 x1 => ?_) (fun x hx => ?_) (fun x => ?_)
    · rw [zG_zS_ne _ (Or.inl (by omega)), v1 x x0 x1]
      exact rA x x0 x1
    · rw [zG_zS_ne _ (Or.inl (by omega))]
      exact u1 x hx
    · rw [zG_zS, m1.G (by omega)]
      by_cases q : x = l
      · rw [if_pos ⟨rfl, q⟩, if_pos q]
      · rw [if_neg (fun z => q z.2), if_neg q]
theorem m_comesToTerm {d : Nat} {D p h l g : Int} {S : Hp} {A P : Int → Int} {Q : Vl → Hp → Prop} (h2 : 2 ≤ p ∧ p ≤ 7) (w : DW S D) (hp : zG S D 0 = p) (h28 : zG S D 28 = h) (hl : 0 ≤ l ∧ l ≤ 4) (h27 : zG S D 27 = l) (hg : zG S (D + 17) l = g) (rA : RO S (D + 18) p h A) (rP : 0 ≤ g → TO S (D + 15) l p h P) (H : ∀ S', Md (fun x => x = D ∨ x = D + 15 ∨ (D + 17 ≤ x ∧ x ≤ D + 20)) S S' → DW S' D → (∀ j, j ≠ 28 → zG S' D j = zG S D j) → zG S' D 28 = (if g < 0 then h else mlH h P A g) → TO S' (D + 15) l p (if g < 0 then h else mlH h P A g) (if g < 0 then A else mlP p h P A) → (∀ x, x < 49 * l ∨ 49 * l + 49 ≤ x → zG S' (D + 15) x = zG S (D + 15) x) → (∀ x, zG S' (D + 17) x = if x = l then -1 else zG S (D + 17) x) → Q (3, 0) S') : Ev (d + 2) 180 [(2, D)] S Q := by
  apply w_Model_comesToTerm_0
  rw [w.x_timesAt.1, w.x_timesAt.2.1, w.x_timesAt.2.2, h27, hg]
  refine ⟨w.1, w.1, ⟨rfl, by omega, by omega⟩, fun q => ?_, fun q => ?_⟩
  · rw [if_pos q, if_pos q] at H
    exact m_ctEnd w hl h27 rA (fun S' m t u v => H S' (m.wide (fun x hx => by omega)) (w.md m (by omega)) (fun j _ => m.G (by omega) j) ((m.G (by omega) 28).trans h28) t u v)
  · rw [if_neg q, if_neg q] at H
    have rP := rP (by omega)
    refine loopU (P := fun e S' => At (d + 2) 180 c180_14 [(0, (2, D)), (1, (0, e))] [] S' Q) (I := fun e S' => 0 ≤ e ∧ Md (fun x => x = D + 18 ∨ x = D + 19) S S' ∧ (∀ x, 0 ≤ x → x < e → zG S' (D + 19) x = zG S (D + 18) x ∧ zG S' (D + 18) x = zG S (D + 15) (49 * l + x)) ∧ ∀ x, e ≤ x → zG S' (D + 18) x = zG S (D + 18) x) 49 ?_ ?_ 0 S (by omega) ⟨by omega, Md.refl _ _, fun x a b => by omega, fun _ _ => rfl⟩
    · rintro e S1 he ⟨e0, m1, v1, u1⟩ hk
      have w1 : DW S1 D := w.md m1 (by omega)
      apply w_Model_comesToTerm_14
      rw [w1.x_power.1, w1.x_power.2.1, w1.x_power.2.2, w1.x_other.1, w1.x_other.2.1, w1.x_other.2.2, u1 e (Int.le_refl e)]
      refine ⟨fun z => by omega, fun _ => ⟨w1.1, w1.1, ⟨rfl, by omega, by omega⟩, ⟨rfl, by omega, by omega⟩, ?_⟩⟩
      rintro _ rfl
      have w2 : DW (zS S1 (D + 19) e (zG S (D + 18) e)) D := w1.zSr (by omega)
      have k27 : zG (zS S1 (D + 19) e (zG S (D + 18) e)) D 27 = l := by
        rw [zG_zS_ne _ (Or.inl (by omega))]
        exact (m1.G (by omega) 27).trans h27
      rw [w2.x_power.1, w2.x_power.2.1, w2.x_power.2.2, w2.x_terms.1, w2.x_terms.2.1, w2.x_terms.2.2, k27, w32_id (x := 49 * l) (by omega) (by omega), w32_id (x := 49 * l + e) (by omega) (by omega), zG_zS_ne _ (Or.inl (show D + 15 ≠ D + 19 by omega)), m1.G (a := D + 15) (by omega)]
      refine ⟨w2.1, w2.1, w2.1, ⟨rfl, by omega, by omega⟩, ⟨rfl, by omega, by omega⟩, ?_⟩
      rintro _ rfl _ rfl
      rw [w32_id (by omega) (by omega)]
      refine hk _ ⟨by omega, (m1.tr ((Md.zS _ _ _ _).wide (fun x hx => Or.inr hx))).tr ((Md.zS _ _ _ _).wide (fun x hx => Or.inl hx)), fun x x0 x1 => ⟨?_, ?_⟩, fun x hx => ?_⟩
      · rw [zG_zS_ne _ (Or.inl (by omega)), zG_zS]
        by_cases z : x = e
        · rw [if_pos ⟨rfl, z⟩, z]
        · rw [if_neg (fun y => z y.2)]
          exact (v1 x x0 (by omega)).1
      · rw [zG_zS]
        by_cases z : x = e
        · rw [if_pos ⟨rfl, z⟩, z]
        · rw [if_neg (fun y => z y.2), zG_zS_ne _ (Or.inl (by omega))]
          exact (v1 x x0 (by omega)).2
      · rw [zG_zS_ne _ (Or.inr (by omega)), zG_zS_ne _ (Or.inl (by omega))]
        exact u1 x (by omega)
    · rintro S1 ⟨-, m1, v1, -⟩
      have w1 : DW S1 D := w.md m1 (by omega)
      have rT : RO S1 (D + 18) p h P := fun x x0 x1 => by
        rw [(v1 x x0 x1).2]
        exact rP x x0 x1
      have rO : RO S1 (D + 19) p h A := fun x x0 x1 => by
        rw [(v1 x x0 x1).1]
        exact rA x x0 x1
      apply w_Model_comesToTerm_14
      rw [w1.x_timesAt.1, w1.x_timesAt.2.1, w1.x_timesAt.2.2, (m1.G (a := D) (by omega) 27).trans h27, (m1.G (a := D + 17) (by omega) l).trans hg]
      refine ⟨fun _ => ⟨w1.1, w1.1, ⟨rfl, by omega, by omega⟩, w1.1, ?_⟩, fun z => absurd (Int.le_refl 49) z⟩
      refine m_multiplies h2 w1 ((m1.G (by omega) 0).trans hp) ((m1.G (by omega) 28).trans h28) (by omega) rT rO (fun S2 m2 w2 o2 q2 r2 => ⟨rfl, ?_⟩)
      refine m_ctEnd w2 hl (((o2 27 (by omega)).trans (m1.G (by omega) 27)).trans h27) r2 (fun S3 m3 t3 u3 v3 => H S3 (((m1.wide (fun x hx => by omega)).tr (m2.wide (fun x hx => by omega))).tr (m3.wide (fun x hx => by omega))) (w2.md m3 (by omega)) (fun j hj => ((m3.G (by omega) j).trans (o2 j hj)).trans (m1.G (by omega) j)) ((m3.G (by omega) 28).trans q2) t3 (fun x hx => ?_) (fun x => ?_))
      · rw [u3 x hx, m2.G (by omega), m1.G (by omega)]
      · rw [v3 x, m2.G (by omega), m1.G (by omega)]
