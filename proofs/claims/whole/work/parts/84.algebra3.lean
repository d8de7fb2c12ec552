/-! Algebra: p-th powers, and what countPoints asks. -/
def pwC (p n : Int) (low : Int → Int) (j : Int) : Nat → Int → Int
  | 0 => fun l => if l = j then 1 else 0
  | s + 1 => tmC p n low (pwC p n low j s) j
theorem pwC_bd {p n j : Int} {low : Int → Int} (hp : 2 ≤ p) : ∀ (s : Nat) (l : Int), 0 ≤ pwC p n low j s l ∧ pwC p n low j s l < p
  | 0, l => by
    show 0 ≤ (if l = j then (1 : Int) else 0) ∧ (if l = j then (1 : Int) else 0) < p
    split <;> omega
  | s + 1, l => tmC_bd hp l
set_option maxHeartbeats 1000000 in
theorem s_findPowers {d : Nat} {G n p : Int} {S : Hp} {Q : Vl → Hp → Prop} (h : HW S G) (hu : Hu S G n p) (hn : 2 ≤ n ∧ n ≤ 4) (hp : 2 ≤ p ∧ p ≤ 7) (hl : ∀ x, 0 ≤ x → x < 64 → 0 ≤ zG S (G + 1) x ∧ zG S (G + 1) x < 10) (H : ∀ S', Md (fun x => x = G + 3 ∨ x = G + 13 ∨ x = G + 14) S S' → (∀ l j, 0 ≤ l → l < n → 0 ≤ j → j < n → zG S' (G + 3) (4 * l + j) = pwC p n (zG S (G + 1)) j (p - 1).toNat l) → (∀ x, ¬ sqI n x → zG S' (G + 3) x = zG S (G + 3) x) → Q (3, 0) S') : Ev (d + 1) 4 [(2, G)] S Q := by
  have lo : ∀ {S' : Hp}, Md (fun x => x = G + 3 ∨ x = G + 13 ∨ x = G + 14) S S' → ∀ x, zG S' (G + 1) x = zG S (G + 1) x := fun hm x => hm.G (by omega) x
  apply w_Algebra_findPowers_0
  refine loopU (P := fun j S' => At (d + 1) 4 c4_2 [(0, (2, G)), (1, (0, j))] [] S' Q) (I := fun j S' => 0 ≤ j ∧ Md (fun x => x = G + 3 ∨ x = G + 13 ∨ x = G + 14) S S' ∧ (∀ l e, 0 ≤ l → l < n → 0 ≤ e → e < j → zG S' (G + 3) (4 * l + e) = pwC p n (zG S (G + 1)) e (p - 1).toNat l) ∧ (∀ x, ¬ sqI n x → zG S' (G + 3) x = zG S (G + 3) x)) n ?_ ?_ 0 S (by omega) ⟨by omega, Md.refl _ _, fun l e l0 l1 e0 e1 => by omega, fun x hx => rfl⟩
  · rintro j S1 hj ⟨j0, jm, jv, jo⟩ hk
    apply w_Algebra_findPowers_2
    rw [(hu.keep jm (by omega)).1]
    refine ⟨(h.keep jm (by omega)).k, fun hc => by omega, fun _ => ?_⟩
    refine loopU (P := fun l S' => At (d + 1) 4 c4_12 [(0, (2, G)), (1, (0, j)), (2, (0, l))] [] S' Q) (I := fun l S' => 0 ≤ l ∧ Md (fun x => x = G + 13 ∨ x = G + 14) S1 S' ∧ ∀ e, 0 ≤ e → e < l → zG S' (G + 13) e = pwC p n (zG S (G + 1)) j 0 e) n ?_ ?_ 0 S1 (by omega) ⟨by omega, Md.refl _ _, fun e e0 e1 => by omega⟩
    · rintro l S2 hl2 ⟨l0, lm, lv⟩ hk2
      have m2 : Md (fun x => x = G + 3 ∨ x = G + 13 ∨ x = G + 14) S S2 := jm.tr (lm.wide (fun x hx => Or.inr hx))
      have h2 : HW S2 G := h.keep m2 (by omega)
      apply w_Algebra_findPowers_12
      rw [(hu.keep m2 (by omega)).1, h2.f12]
      refine ⟨h2.k, fun hc => by omega, fun _ => ⟨h2.k, ?_⟩⟩
      rintro x1 hx1
      refine ⟨⟨h2.r12.1, l0, by rw [h2.r12.2]; omega⟩, ?_⟩
      rintro _ rfl _ rfl
      rw [w32_id (by omega) (by omega)]
      refine hk2 _ ⟨by omega, lm.tr ((Md.zS _ _ _ _).wide (fun x hx => Or.inl hx)), fun e e0 e1 => ?_⟩
      by_cases q : e = l
      · rw [q, zG_zS_at, hx1]
        show (if ¬ l = j then (0 : Int) else 1) = if l = j then 1 else 0
        by_cases q2 : l = j
        · rw [if_neg (fun z => z q2), if_pos q2]
        · rw [if_pos q2, if_neg q2]
      · rw [zG_zS_ne _ (Or.inr q)]
        exact lv e e0 (by omega)
    · rintro S2 ⟨-, lm, lv⟩
      have m2 : Md (fun x => x = G + 3 ∨ x = G + 13 ∨ x = G + 14) S S2 := jm.tr (lm.wide (fun x hx => Or.inr hx))
      have h2 : HW S2 G := h.keep m2 (by omega)
      apply w_Algebra_findPowers_12
      rw [(hu.keep m2 (by omega)).1]
      refine ⟨h2.k, fun _ => ?_, fun hc => absurd (Int.le_refl n) hc⟩
      refine loopU (P := fun s S' => At (d + 1) 4 c4_44 [(0, (2, G)), (1, (0, j)), (2, (0, s))] [] S' Q) (I := fun s S' => 1 ≤ s ∧ Md (fun x => x = G + 13 ∨ x = G + 14) S1 S' ∧ ∀ e, 0 ≤ e → e < n → zG S' (G + 13) e = pwC p n (zG S (G + 1)) j (s - 1).toNat e) p ?_ ?_ 1 S2 (by omega) ⟨by omega, lm, lv⟩
      · rintro s S3 hs ⟨s0, sm3, sv⟩ hk3
        have m3 : Md (fun x => x = G + 3 ∨ x = G + 13 ∨ x = G + 14) S S3 := jm.tr (sm3.wide (fun x hx => Or.inr hx))
        have h3 : HW S3 G := h.keep m3 (by omega)
        have u3 : Hu S3 G n p := hu.keep m3 (by omega)
        apply w_Algebra_findPowers_44
        rw [u3.2]
        refine ⟨h3.k, fun hc => by omega, fun _ => ⟨h3.k, ?_⟩⟩
        refine s_timesClass h3 u3 hn hp ⟨j0, hj⟩ (fun x x0 x1 => by rw [lo m3]; exact hl x x0 x1) (fun i i0 i1 => by rw [sv i i0 i1]; have := pwC_bd (n := n) (j := j) (low := zG S (G + 1)) hp.1 (s - 1).toNat i; omega) (fun S4 m4 v4 => ⟨rfl, ?_⟩)
        rintro _ rfl
        rw [w32_id (by omega) (by omega)]
        refine hk3 _ ⟨by omega, sm3.tr m4, fun e e0 e1 => ?_⟩
        rw [v4 e e0 e1, show (s + 1 - 1).toNat = (s - 1).toNat + 1 by omega]
        exact tmC_congr (fun i i0 i1 => sv i i0 i1) (fun i l i0 i1 l0 l1 => lo m3 _) e
      · rintro S3 ⟨s0, sm3, sv⟩
        have m3 : Md (fun x => x = G + 3 ∨ x = G + 13 ∨ x = G + 14) S S3 := jm.tr (sm3.wide (fun x hx => Or.inr hx))
        have h3 : HW S3 G := h.keep m3 (by omega)
        have u3 : Hu S3 G n p := hu.keep m3 (by omega)
        apply w_Algebra_findPowers_44
        rw [u3.2]
        refine ⟨h3.k, fun _ => ?_, fun hc => absurd (Int.le_refl p) hc⟩
        have p3 : ∀ x, zG S3 (G + 3) x = zG S1 (G + 3) x := fun x => sm3.G (by omega) x
        refine loopU (P := fun l S' => At (d + 1) 4 c4_65 [(0, (2, G)), (1, (0, j)), (2, (0, l))] [] S' Q) (I := fun l S' => 0 ≤ l ∧ Md (fun x => x = G + 3 ∨ x = G + 13 ∨ x = G + 14) S S' ∧ (∀ e, zG S' (G + 13) e = zG S3 (G + 13) e) ∧ (∀ i e, 0 ≤ i → i < n → 0 ≤ e → (e < j ∨ e = j ∧ i < l) → zG S' (G + 3) (4 * i + e) = pwC p n (zG S (G + 1)) e (p - 1).toNat i) ∧ (∀ x, ¬ sqI n x → zG S' (G + 3) x = zG S (G + 3) x)) n ?_ ?_ 0 S3 (by omega) ⟨by omega, m3, fun e => rfl, fun i e i0 i1 e0 e1 => by rw [p3]; exact jv i e i0 i1 e0 (by omega), fun x hx => by rw [p3]; exact jo x hx⟩
        · rintro l S4 hl4 ⟨l0, m4, q4, v4, o4⟩ hk4
          have h4 : HW S4 G := h.keep m4 (by omega)
          apply w_Algebra_findPowers_65
          rw [(hu.keep m4 (by omega)).1, h4.f12, h4.f2, q4, sv l l0 hl4, w32_id (x := 4 * l) (by omega) (by omega), w32_id (x := 4 * l + j) (by omega) (by omega)]
          refine ⟨h4.k, fun hc => by omega, fun _ => ⟨h4.k, h4.k, ⟨h4.r12.1, l0, by rw [h4.r12.2]; omega⟩, ⟨h4.r2.1, by omega, by rw [h4.r2.2]; omega⟩, ?_⟩⟩
          rintro _ rfl _ rfl
          rw [w32_id (by omega) (by omega)]
          refine hk4 _ ⟨by omega, m4.tr ((Md.zS _ _ _ _).wide (fun x hx => Or.inl hx)), fun e => ?_, fun i e i0 i1 e0 e1 => ?_, fun x hx => ?_⟩
          · rw [zG_zS_ne _ (Or.inl (by omega))]
            exact q4 e
          · by_cases q : i = l ∧ e = j
            · rw [q.1, q.2, zG_zS_at]
            · rw [zG_zS_ne _ (Or.inr (by omega))]
              exact v4 i e i0 i1 e0 (by omega)
          · rw [zG_zS_ne _ (Or.inr (fun z => hx ⟨by omega, by omega, by omega⟩))]
            exact o4 x hx
        · rintro S4 ⟨l0, m4, q4, v4, o4⟩
          have h4 : HW S4 G := h.keep m4 (by omega)
          apply w_Algebra_findPowers_65
          rw [(hu.keep m4 (by omega)).1]
          refine ⟨h4.k, fun _ => ?_, fun hc => absurd (Int.le_refl n) hc⟩
          rintro _ rfl
          rw [w32_id (by omega) (by omega)]
          exact hk _ ⟨by omega, m4, fun l e l0 l1 e0 e1 => v4 l e l0 l1 e0 (by omega), o4⟩
  · rintro S1 ⟨j0, jm, jv, jo⟩
    apply w_Algebra_findPowers_2
    rw [(hu.keep jm (by omega)).1]
    exact ⟨(h.keep jm (by omega)).k, fun _ => H S1 jm jv jo, fun hc => absurd (Int.le_refl n) hc⟩
set_option maxHeartbeats 1000000 in
theorem s_askPowersSame {d : Nat} {G n p : Int} {S : Hp} {Q : Vl → Hp → Prop} (h : HW S G) (hu : Hu S G n p) (hn : 2 ≤ n ∧ n ≤ 4) (hp : 2 ≤ p ∧ p ≤ 7) (hl : ∀ x, 0 ≤ x → x < 16 → 0 ≤ zG S (G + 3) x ∧ zG S (G + 3) x < 10) (H : ∀ S', Md (fun x => x = G + 4) S S' → (∀ l j, 0 ≤ l → l < n → 0 ≤ j → j < n → zG S' (G + 4) (4 * l + j) = zG S (G + 3) (4 * l + j) + (if l = j then p - 1 else 0)) → (∀ x, ¬ sqI n x → zG S' (G + 4) x = zG S (G + 4) x) → Q (3, 0) S') : Ev d 8 [(2, G)] S Q := by
  apply w_Algebra_askPowersSame_0
  refine loopU (P := fun j S' => At d 8 c8_2 [(0, (2, G)), (1, (0, j))] [] S' Q) (I := fun j S' => 0 ≤ j ∧ Md (fun x => x = G + 4) S S' ∧ (∀ l e, 0 ≤ l → l < j → 0 ≤ e → e < n → zG S' (G + 4) (4 * l + e) = zG S (G + 3) (4 * l + e) + (if l = e then p - 1 else 0)) ∧ (∀ x, ¬ sqI n x → zG S' (G + 4) x = zG S (G + 4) x)) n ?_ ?_ 0 S (by omega) ⟨by omega, Md.refl _ _, fun l e l0 l1 e0 e1 => by omega, fun x hx => rfl⟩
  · rintro j S1 hj ⟨j0, jm, jv, jo⟩ hk
    apply w_Algebra_askPowersSame_2
    rw [(hu.keep jm (by omega)).1]
    refine ⟨(h.keep jm (by omega)).k, fun hc => by omega, fun _ => ?_⟩
    refine loopU (P := fun l S' => At d 8 c8_12 [(0, (2, G)), (1, (0, j)), (2, (0, l))] [] S' Q) (I := fun l S' => 0 ≤ l ∧ Md (fun x => x = G + 4) S S' ∧ (∀ i e, 0 ≤ i → 0 ≤ e → e < n → (i < j ∨ i = j ∧ e < l) → zG S' (G + 4) (4 * i + e) = zG S (G + 3) (4 * i + e) + (if i = e then p - 1 else 0)) ∧ (∀ x, ¬ sqI n x → zG S' (G + 4) x = zG S (G + 4) x)) n ?_ ?_ 0 S1 (by omega) ⟨by omega, jm, fun i e i0 e0 e1 hq => jv i e i0 (by omega) e0 e1, jo⟩
    · rintro l S2 hl2 ⟨l0, lm, lv, lo⟩ hk2
      have h2 : HW S2 G := h.keep lm (by omega)
      have u2 : Hu S2 G n p := hu.keep lm (by omega)
      have b := hl (4 * j + l) (by omega) (by omega)
      apply w_Algebra_askPowersSame_12
      rw [u2.1, u2.2, h2.f2, h2.f3, lm.G (a := G + 3) (by omega), w32_id (x := 4 * j) (by omega) (by omega), w32_id (x := 4 * j + l) (by omega) (by omega), w32_id (x := p - 1) (by omega) (by omega)]
      refine ⟨h2.k, fun hc => by omega, fun _ => ⟨h2.k, h2.k, ⟨h2.r2.1, by omega, by rw [h2.r2.2]; omega⟩, fun _ => h2.k, ?_⟩⟩
      rintro x2 hx2
      refine ⟨⟨h2.r3.1, by omega, by rw [h2.r3.2]; omega⟩, ?_⟩
      have hx : x2 = if j = l then p - 1 else 0 := by
        rw [hx2]
        by_cases q : j = l
        · rw [if_neg (fun z => z q), if_pos q]
        · rw [if_pos q, if_neg q]
      have hb : 0 ≤ x2 ∧ x2 < 10 := by
        rw [hx]
        split <;> omega
      rintro _ rfl _ rfl
      rw [w32_id (by omega) (by omega), w32_id (by omega) (by omega)]
      refine hk2 _ ⟨by omega, lm.tr (Md.zS _ _ _ _), fun i e i0 e0 e1 hq => ?_, fun x hx => ?_⟩
      · by_cases q : i = j ∧ e = l
        · rw [q.1, q.2, zG_zS_at, hx]
        · rw [zG_zS_ne _ (Or.inr (by omega))]
          exact lv i e i0 e0 e1 (by omega)
      · rw [zG_zS_ne _ (Or.inr (fun z => hx ⟨by omega, by omega, by omega⟩))]
        exact lo x hx
    · rintro S2 ⟨l0, lm, lv, lo⟩
      apply w_Algebra_askPowersSame_12
      rw [(hu.keep lm (by omega)).1]
      refine ⟨(h.keep lm (by omega)).k, fun _ => ?_, fun hc => absurd (Int.le_refl n) hc⟩
      rintro _ rfl
      rw [w32_id (by omega) (by omega)]
      exact hk _ ⟨by omega, lm, fun l e l0 l1 e0 e1 => lv l e l0 e0 e1 (by omega), lo⟩
  · rintro S1 ⟨j0, jm, jv, jo⟩
    apply w_Algebra_askPowersSame_2
    rw [(hu.keep jm (by omega)).1]
    exact ⟨(h.keep jm (by omega)).k, fun _ => H S1 jm jv jo, fun hc => absurd (Int.le_refl n) hc⟩
