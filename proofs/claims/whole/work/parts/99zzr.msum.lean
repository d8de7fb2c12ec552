/-! The model's reader: a term comes to its sum. -/
theorem m_comesToSum {d : Nat} {D p h l s : Int} {S : Hp} {A P : Int → Int} {Q : Vl → Hp → Prop} (h2 : 2 ≤ p ∧ p ≤ 7) (w : DW S D) (hp : zG S D 0 = p) (hl : 0 ≤ l ∧ l ≤ 4) (h27 : zG S D 27 = l) (hs : s = if zG S (D + 16) l = 0 then 1 else p - 1) (rA : TO S (D + 15) l p h A) (rP : TO S (D + 14) l p h P) (H : ∀ S', Md (fun x => x = D + 14) S S' → TO S' (D + 14) l p h (fun x => (P x + s * A x) % p) → (∀ x, x < 49 * l ∨ 49 * l + 49 ≤ x → zG S' (D + 14) x = zG S (D + 14) x) → Q (3, 0) S') : Ev (d + 2) 181 [(2, D)] S Q := by
  apply w_Model_comesToSum_0
  refine loopU (P := fun e S' => At (d + 2) 181 c181_2 [(0, (2, D)), (1, (0, e))] [] S' Q) (I := fun e S' => 0 ≤ e ∧ Md (fun x => x = D + 14) S S' ∧ (∀ x, 0 ≤ x → x < e → zG S' (D + 14) (49 * l + x) = (zG S (D + 14) (49 * l + x) + s * zG S (D + 15) (49 * l + x)) % p) ∧ ∀ x, x < 49 * l ∨ 49 * l + e ≤ x → zG S' (D + 14) x = zG S (D + 14) x) 49 ?_ ?_ 0 S (by omega) ⟨by omega, Md.refl _ _, fun x a b => by omega, fun _ _ => rfl⟩
  · rintro e S1 he ⟨e0, m1, v1, u1⟩ hk
    have w1 : DW S1 D := w.md m1 (by omega)
    have a1 := (rA e e0 he).1
    have b1 := (rP e e0 he).1
    have k16 : zG S1 (D + 16) l = zG S (D + 16) l := m1.G (by omega) l
    apply w_Model_comesToSum_2
    rw [w1.x_terms.1, w1.x_terms.2.1, w1.x_terms.2.2, w1.x_sums.1, w1.x_sums.2.1, w1.x_sums.2.2, w1.x_less.1, w1.x_less.2.1, w1.x_less.2.2, (m1.G (a := D) (by omega) 27).trans h27, w32_id (x := 49 * l) (by omega) (by omega), w32_id (x := 49 * l + e) (by omega) (by omega), k16, m1.G (a := D + 15) (by omega), u1 (49 * l + e) (by omega)]
    generalize ha : zG S (D + 15) (49 * l + e) = a at a1
    generalize hb : zG S (D + 14) (49 * l + e) = b at b1
    refine ⟨fun z => by omega, fun _ => ⟨w1.1, w1.1, ⟨rfl, by omega, by omega⟩, ?_⟩⟩
    intro y1 hy1
    rw [hy1]
    refine ⟨w1.1, w1.1, w1.1, w1.1, ⟨rfl, by omega, by omega⟩, w1.1, w1.1, ⟨rfl, by omega, by omega⟩, ?_⟩
    rw [w32_id (x := -a) (by omega) (by omega)]
    generalize hx : (if zG S (D + 16) l = 0 then a else -a) = x
    intro y2 hy2
    rw [hy2]
    have xb : -7 ≤ x ∧ x ≤ 7 := by
      rw [← hx]
      split <;> omega
    have ex : (b + x) % p = (b + s * a) % p := by
      rw [← hx, hs]
      by_cases q : zG S (D + 16) l = 0
      · rw [if_pos q, if_pos q, Int.one_mul]
      · rw [if_neg q, if_neg q, show b + (p - 1) * a = b + -a + p * a by rw [Int.sub_mul, Int.one_mul]; omega, Int.add_mul_emod_self_left]
    refine ⟨w1.1, ?_⟩
    rw [w32_id (x := b + x) (by omega) (by omega)]
    refine m_mod w1.1 ((m1.G (by omega) 0).trans hp) h2 ⟨_, rfl, ⟨w1.x_sums.2.1, by omega, by rw [w1.x_sums.2.2]; omega⟩, ?_⟩
    rintro _ rfl _ rfl
    rw [w32_id (by omega) (by omega), ex]
    refine hk _ ⟨by omega, m1.tr (Md.zS _ _ _ _), fun y y0 y1 => ?_, fun y hy => ?_⟩
    · rw [zG_zS]
      by_cases q : y = e
      · rw [if_pos ⟨rfl, by omega⟩, q, hb, ha]
      · rw [if_neg (fun z => q (by omega))]
        exact v1 y y0 (by omega)
    · rw [zG_zS_ne _ (Or.inr (by omega))]
      exact u1 y (by omega)
  · rintro S1 ⟨-, m1, v1, u1⟩
    apply w_Model_comesToSum_2
    refine ⟨fun _ => H S1 m1 (fun x x0 x1 => ?_) u1, fun z => absurd (Int.le_refl 49) z⟩
    rw [v1 x x0 x1]
    refine ⟨⟨em_ge (by omega), em_lt (by omega)⟩, fun z => ?_⟩
    rw [(rA x x0 x1).2 z, (rP x x0 x1).2 z]
