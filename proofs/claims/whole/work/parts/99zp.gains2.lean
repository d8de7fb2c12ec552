/-! The model: findsGains, takesDigits. -/
set_option maxHeartbeats 1000000 in
theorem m_findsGains {d : Nat} {D p n : Int} {S : Hp} {N : Int → Prop} {Q : Vl → Hp → Prop} (h : DW S D) (hp : zG S D 0 = p) (h2 : 2 ≤ p ∧ p ≤ 7) (hN : zG S D 1 = n) (hn : 2 ≤ n ∧ n ≤ 4) (hT : TB S D n) (hv : ∀ a, 0 ≤ a → a < pwI p n.toNat → in01 (zG S (D + 38) a) ∧ (zG S (D + 38) a = 1 ↔ N a)) (ht : ∀ j, 0 ≤ j → j < n → -1 ≤ zG S (D + 39) j ∧ zG S (D + 39) j < pwI p n.toNat) (H : ∀ S' v, Md (fun x => x = D + 40) S S' → DW S' D → (∀ j, 0 ≤ j → j < n → fstP (kpR p n (zG S (D + 36)) (zG S (D + 37)) N (zG S (D + 39))) (pwI p j.toNat) (2 * pwI p j.toNat) (zG S' (D + 40) j)) → in01 v → (v = 0 ↔ ∀ j, 0 ≤ j → j < n → zG S' (D + 40) j < 0) → Q (0, v) S') : Ev (d + 3) 225 [(2, D)] S Q := by
  generalize hK : kpR p n (zG S (D + 36)) (zG S (D + 37)) N (zG S (D + 39)) = K at H
  apply w_Model_findsGains_0
  refine loopU2 (α := Int) (β := Hp) (P := fun j v S' => At (d + 3) 225 c225_4 [(0, (2, D)), (1, (0, v)), (2, (0, j))] [] S' Q) (I := fun j v S' => 0 ≤ j ∧ Md (fun x => x = D + 40) S S' ∧ (∀ i, 0 ≤ i → i < j → fstP K (pwI p i.toNat) (2 * pwI p i.toNat) (zG S' (D + 40) i)) ∧ in01 v ∧ (v = 0 ↔ ∀ i, 0 ≤ i → i < j → zG S' (D + 40) i < 0)) n ?_ ?_ 0 0 S (by omega) ⟨by omega, Md.refl _ _, fun i i0 i1 => by omega, Or.inl rfl, ⟨fun _ i i0 i1 => by omega, fun _ => rfl⟩⟩
  · rintro j v S1 hj ⟨j0, m1, v1, vb, vz⟩ hk
    have w1 : DW S1 D := h.md m1 (by omega)
    have pj := pwI_bd h2 j.toNat (by omega)
    have pn := pwI_bd h2 n.toNat (by omega)
    have pl := pwI_lt h2 (j := j) (n := n) ⟨j0, hj⟩ hn.2
    apply w_Model_findsGains_4
    rw [(m1.G (a := D) (by omega) 1).trans hN]
    refine ⟨w1.1, fun z => by omega, fun _ => ⟨w1.1, m_topPower w1.1 ((m1.G (by omega) 0).trans hp) h2 (by omega) ⟨_, rfl, w1.1, ?_⟩⟩⟩
    obtain ⟨b, hb⟩ : ∃ b, b = pwI p j.toNat := ⟨_, rfl⟩
    rw [← hb] at pj pl ⊢
    rw [w1.x_gain.1, w1.x_gain.2.1, w1.x_gain.2.2]
    refine ⟨⟨rfl, by omega, by omega⟩, ?_⟩
    rintro _ rfl
    have fin : ∀ S3, Md (fun x => x = D + 40) S S3 → (∀ i, i ≠ j → zG S3 (D + 40) i = zG S1 (D + 40) i) → fstP K b (2 * b) (zG S3 (D + 40) j) → At (d + 3) 225 c225_72 [(0, (2, D)), (1, (0, v)), (2, (0, j))] [] S3 Q := fun S3 m3 o3 f3 => by
      have w3 : DW S3 D := h.md m3 (by omega)
      apply w_Model_findsGains_72
      rw [w3.x_gain.1, w3.x_gain.2.1, w3.x_gain.2.2]
      refine ⟨fun _ => ⟨w3.1, rfl, by omega, by omega⟩, ?_⟩
      rintro _ rfl _ rfl
      rw [w32_id (by omega) (by omega)]
      refine hk _ _ ⟨by omega, m3, fun i i0 i1 => ?_, ?_, ?_⟩
      · by_cases q : i = j
        · rw [q, ← hb]
          exact f3
        · rw [o3 i q]
          exact v1 i i0 (by omega)
      · split
        · exact Or.inr rfl
        · exact Or.inl rfl
      · constructor
        · intro z i i0 i1
          have z : ¬ (¬ v = 0 ∨ ¬ zG S3 (D + 40) j < 0) := fun y => by rw [if_pos y] at z; omega
          by_cases q : i = j
          · rw [q]
            omega
          · rw [o3 i q]
            exact vz.mp (by omega) i i0 (by omega)
        · intro z
          refine if_neg (fun y => ?_)
          rcases y with y | y
          · exact y (vz.mpr (fun i i0 i1 => by rw [← o3 i (by omega)]; exact z i i0 (by omega)))
          · exact y (z j j0 (by omega))
    refine loopU (P := fun a S' => At (d + 3) 225 c225_28 [(0, (2, D)), (1, (0, v)), (2, (0, j)), (3, (0, b)), (4, (0, a))] [] S' Q) (I := fun a S' => b ≤ a ∧ Md (fun x => x = D + 40) S S' ∧ (∀ i, i ≠ j → zG S' (D + 40) i = zG S1 (D + 40) i) ∧ zG S' (D + 40) j = -1 ∧ ∀ e, b ≤ e → e < a → ¬ K e) (2 * b) ?_ ?_ b _ (by omega) ⟨by omega, m1.tr (Md.zS _ _ _ _), fun i hi => zG_zS_ne _ (Or.inr hi), zG_zS_at _ _ _ _, fun e e0 e1 => by omega⟩
    · rintro a S2 ha ⟨a0, m2, o2, t2, no⟩ hk2
      have w2 : DW S2 D := h.md m2 (by omega)
      have rng : zK S2 (D + 40) = 101 ∧ 0 ≤ j ∧ j < zL S2 (D + 40) := by
        rw [w2.x_gain.2.1, w2.x_gain.2.2]
        exact ⟨rfl, by omega, by omega⟩
      have g : ∀ o, o ≠ D + 40 → zG S2 o = zG S o := fun o ho => funext fun i => m2.G ho i
      have T2 : TB S2 D n := fun i j l i0 i1 j0 j1 l0 l1 => by
        rw [m2.G (by omega), m2.G (by omega)]
        exact hT i j l i0 i1 j0 j1 l0 l1
      have K2 : kpR p n (zG S2 (D + 36)) (zG S2 (D + 37)) N (zG S2 (D + 39)) = K := by
        rw [g _ (by omega), g _ (by omega), g _ (by omega), hK]
      apply w_Model_findsGains_28
      rw [w32_id (x := 2 * b) (by omega) (by omega), w2.x_gain.1, t2]
      refine ⟨fun _ => ⟨w2.1, rng⟩, fun z => by omega, fun _ => ⟨w2.1, w2.1, ?_⟩⟩
      refine m_keepsRadical (N := N) w2 ((m2.G (by omega) 0).trans hp) h2 ((m2.G (by omega) 1).trans hN) hn ⟨by omega, by omega⟩ T2 (fun e e0 e1 => by rw [m2.G (by omega)]; exact hv e e0 e1) (fun i i0 i1 => by rw [m2.G (by omega)]; exact ht i i0 i1) (fun z => ⟨_, rfl, ?_⟩) (fun z => ⟨_, rfl, ?_⟩)
      · rw [K2] at z
        intro x3 hx3
        rw [if_neg (by omega)] at hx3
        refine ⟨rng, ?_⟩
        rintro _ rfl _ rfl
        rw [hx3, w32_id (by omega) (by omega)]
        have w3 : DW (zS S2 (D + 40) j a) D := w2.zSr (by omega)
        apply w_Model_findsGains_28
        rw [w3.x_gain.1, zG_zS_at]
        refine ⟨fun _ => ⟨w3.1, rng⟩, fun _ => fin _ (m2.tr (Md.zS _ _ _ _)) (fun i hi => by rw [zG_zS_ne _ (Or.inr hi)]; exact o2 i hi) ?_, fun y => absurd (Or.inr (by omega)) y⟩
        rw [zG_zS_at]
        exact Or.inr ⟨a0, ha, z, no⟩
      · rw [K2] at z
        intro x3 hx3
        rw [if_pos rfl] at hx3
        refine ⟨rng, ?_⟩
        rintro _ rfl _ rfl
        rw [hx3, w32_id (by omega) (by omega)]
        refine hk2 _ ⟨by omega, m2.tr (Md.zS _ _ _ _), fun i hi => by rw [zG_zS_ne _ (Or.inr hi)]; exact o2 i hi, zG_zS_at _ _ _ _, fun e e0 e1 => ?_⟩
        rcases Int.lt_or_le e a with y | y
        · exact no e e0 y
        · rw [show e = a by omega]
          exact z
    · rintro S2 ⟨-, m2, o2, t2, no⟩
      apply w_Model_findsGains_28
      rw [w32_id (x := 2 * b) (by omega) (by omega)]
      refine ⟨fun z => absurd (Int.le_refl _) z, fun _ => fin S2 m2 o2 ?_, fun z => absurd (Or.inl (Int.le_refl _)) z⟩
      rw [t2]
      exact Or.inl ⟨rfl, no⟩
  · rintro v S1 ⟨-, m1, v1, vb, vz⟩
    apply w_Model_findsGains_4
    rw [(m1.G (a := D) (by omega) 1).trans hN]
    exact ⟨by rw [m1.K]; exact h.1, fun _ => ⟨vb, H S1 v m1 (h.md m1 (by omega)) v1 vb vz⟩, fun z => absurd (Int.le_refl n) z⟩
set_option maxHeartbeats 1000000 in
theorem m_takesDigits {d : Nat} {D p k j i l e v : Int} {S : Hp} {Q : Vl → Hp → Prop} (h : DW S D) (hp : zG S D 0 = p) (h2 : 2 ≤ p ∧ p ≤ 7) (hk : 0 ≤ k ∧ k < 20) (hj : 0 ≤ j ∧ j < 4) (hi : 0 ≤ i ∧ i < j) (hl : 0 ≤ l ∧ l < 4) (he : 0 ≤ e ∧ e ≤ 20) (hv : 0 ≤ v ∧ v < p) (hb : ∀ a m, 0 ≤ a → a < 4 → (a = j ∨ a = i) → 0 ≤ m → m < 21 → 0 ≤ zG S (D + 32) (84 * (4 * k + a) + 21 * l + m) ∧ zG S (D + 32) (84 * (4 * k + a) + 21 * l + m) < p) (H : Q (3, 0) (zR S (D + 32) (fun x => if 84 * (4 * k + j) + 21 * l ≤ x ∧ x < 84 * (4 * k + j) + 21 * l + (21 - e) then (zG S (D + 32) x + (-1) * (v * zG S (D + 32) (84 * (4 * k + i) + 21 * l + (x - (84 * (4 * k + j) + 21 * l) + e)))) % p else zG S (D + 32) x))) : Ev (d + 1) 228 [(2, D), (0, k), (0, j), (0, i), (0, l), (0, e), (0, v)] S Q := by
  apply w_Model_takesDigits_0
  obtain ⟨o, ho⟩ : ∃ o, o = 84 * (4 * k + j) + 21 * l := ⟨_, rfl⟩
  obtain ⟨q, hq⟩ : ∃ q, q = 84 * (4 * k + i) + 21 * l := ⟨_, rfl⟩
  rw [← ho, ← hq] at H
  have bj : ∀ m, 0 ≤ m → m < 21 → 0 ≤ zG S (D + 32) (o + m) ∧ zG S (D + 32) (o + m) < p := fun m m0 m1 => by
    rw [ho]
    exact hb j m hj.1 hj.2 (Or.inl rfl) m0 m1
  have bi : ∀ m, 0 ≤ m → m < 21 → 0 ≤ zG S (D + 32) (q + m) ∧ zG S (D + 32) (q + m) < p := fun m m0 m1 => by
    rw [hq]
    exact hb i m hi.1 (by omega) (Or.inr rfl) m0 m1
  refine loopU (P := fun m S' => At (d + 1) 228 c228_3 [(0, (2, D)), (1, (0, k)), (2, (0, j)), (3, (0, i)), (4, (0, l)), (5, (0, e)), (6, (0, v)), (7, (0, m))] [] S' Q) (I := fun m S' => 0 ≤ m ∧ S' = zR S (D + 32) (fun x => if o ≤ x ∧ x < o + m then (zG S (D + 32) x + (-1) * (v * zG S (D + 32) (q + (x - o + e)))) % p else zG S (D + 32) x)) (21 - e) ?_ ?_ 0 S (by omega) ⟨by omega, (zR_self S (D + 32)).symm.trans (zR_congr _ _ (fun x => by rw [if_neg (by omega)]))⟩
  · rintro m _ hm ⟨m0, rfl⟩ hnx
    have w1 : DW (zR S (D + 32) (fun x => if o ≤ x ∧ x < o + m then (zG S (D + 32) x + (-1) * (v * zG S (D + 32) (q + (x - o + e)))) % p else zG S (D + 32) x)) D := h.zR (by omega)
    have vj := bj m m0 (by omega)
    have vi := bi (m + e) (by omega) (by omega)
    have mb := mul_b (x := v) (y := zG S (D + 32) (q + (m + e))) (by omega) (by omega)
    apply w_Model_takesDigits_3
    rw [w32_id (x := m + e) (by omega) (by omega)]
    refine ⟨fun z => by omega, fun _ => ⟨w1.1, m_digitAt hk hj hl (by omega) ⟨_, rfl, w1.1, w1.1, ?_⟩⟩⟩
    rw [w1.x_digits.1, w1.x_digits.2.1, w1.x_digits.2.2, ← ho, zG_zR_at, if_neg (by omega)]
    refine ⟨⟨rfl, by omega, by omega⟩, w1.1, w1.1, m_digitAt hk (by omega) hl (by omega) ⟨_, rfl, ⟨w1.x_digits.2.1, by omega, by rw [w1.x_digits.2.2]; omega⟩, w1.1, ?_⟩⟩
    rw [← hq, zG_zR_at, if_neg (by omega), w32_id (x := v * zG S (D + 32) (q + (m + e))) (by omega) (by omega), w32_id (by omega) (by omega)]
    refine m_mod w1.1 (by rw [zG_zR_ne _ (by omega)]; exact hp) h2 ⟨_, rfl, ⟨w1.x_digits.2.1, by omega, by rw [w1.x_digits.2.2]; omega⟩, ?_⟩
    rintro _ rfl _ rfl
    rw [w32_id (by omega) (by omega), zS_zR]
    refine hnx _ ⟨by omega, zR_congr _ _ (fun x => ?_)⟩
    by_cases y : x = o + m
    · rw [if_pos y, if_pos (by omega), y, show o + m - o + e = m + e by omega, Int.sub_eq_add_neg, Int.neg_mul, Int.one_mul]
    · rw [if_neg y]
      by_cases y2 : o ≤ x ∧ x < o + m
      · rw [if_pos y2, if_pos (by omega)]
      · rw [if_neg y2, if_neg (by omega)]
  · rintro _ ⟨-, rfl⟩
    apply w_Model_takesDigits_3
    rw [w32_id (by omega) (by omega)]
    exact ⟨fun _ => H, fun z => absurd (show 21 ≤ 21 - e + e by omega) z⟩
