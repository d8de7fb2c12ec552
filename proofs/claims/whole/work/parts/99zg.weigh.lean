/-! The model: weigh; copyOut, image, back, count. -/
theorem zS_zS (S : Hp) (a i v w : Int) : zS (zS S a i v) a i w = zS S a i w := hp_ext rfl rfl fun b j => by
  rw [zG_zS (zS S a i v), zG_zS S a i w, zG_zS S a i v]
  by_cases q : b = a ∧ j = i
  · rw [if_pos q, if_pos q]
  · rw [if_neg q, if_neg q, if_neg q]
def lgB (h v : Int) : Prop := v = 0 ∨ v = 1 ∨ (v = -1 ∧ h ≠ -9223372036854775808) ∨ (v ≠ -1 ∧ 0 < v ∧ h ≤ (9223372036854775807 : Int).tdiv v ∧ (-9223372036854775808 : Int).tdiv v ≤ h) ∨ (v ≠ -1 ∧ v < 0 ∧ (9223372036854775807 : Int).tdiv v ≤ h ∧ h ≤ (-9223372036854775808 : Int).tdiv v)
theorem td_bd {a v : Int} (ha : -9223372036854775808 ≤ a ∧ a ≤ 9223372036854775808) (hv : 2 ≤ v ∨ v ≤ -2) : -4611686018427387904 ≤ a.tdiv v ∧ a.tdiv v ≤ 4611686018427387904 := by
  have h : (a.tdiv v).natAbs = a.natAbs / v.natAbs := Int.natAbs_tdiv a v
  have h1 : a.natAbs / v.natAbs ≤ a.natAbs / 2 := Nat.div_le_div_left (by omega) (by omega)
  omega
theorem lCmp_lt {x y : Int} : lCmp x y < 0 ↔ x < y := by
  unfold lCmp
  constructor
  · intro h
    by_cases q : x < y
    · exact q
    · rw [if_neg q] at h
      by_cases q2 : x = y
      · rw [if_pos q2] at h
        omega
      · rw [if_neg q2] at h
        omega
  · intro h
    rw [if_pos h]
    omega
theorem lCmp_gt {x y : Int} : 0 < lCmp x y ↔ y < x := by
  unfold lCmp
  constructor
  · intro h
    by_cases q : x < y
    · rw [if_pos q] at h
      omega
    · rw [if_neg q] at h
      by_cases q2 : x = y
      · rw [if_pos q2] at h
        omega
      · omega
  · intro h
    rw [if_neg (by omega), if_neg (by omega)]
    omega
theorem lCmp_eq {x y : Int} : lCmp x y = 0 ↔ x = y := by
  unfold lCmp
  constructor
  · intro h
    by_cases q : x < y
    · rw [if_pos q] at h
      omega
    · rw [if_neg q] at h
      by_cases q2 : x = y
      · exact q2
      · rw [if_neg q2] at h
        omega
  · intro h
    rw [if_neg (by omega), if_pos h]
theorem lgB_zero (v : Int) : lgB 0 v := by
  unfold lgB
  by_cases q0 : v = 0
  · exact Or.inl q0
  · by_cases q1 : v = 1
    · exact Or.inr (Or.inl q1)
    · by_cases q2 : v = -1
      · exact Or.inr (Or.inr (Or.inl ⟨q2, by decide⟩))
      · rcases Int.lt_or_le 0 v with q | q
        · refine Or.inr (Or.inr (Or.inr (Or.inl ⟨q2, q, Int.tdiv_nonneg (by decide) (by omega), ?_⟩)))
          have : (-9223372036854775808 : Int).tdiv v = -((9223372036854775808 : Int).tdiv v) := Int.neg_tdiv ..
          have := Int.tdiv_nonneg (a := 9223372036854775808) (b := v) (by decide) (by omega)
          omega
        · refine Or.inr (Or.inr (Or.inr (Or.inr ⟨q2, by omega, ?_, ?_⟩)))
          · have e : (9223372036854775807 : Int).tdiv v = -((9223372036854775807 : Int).tdiv (-v)) := by rw [Int.tdiv_neg, Int.neg_neg]
            have := Int.tdiv_nonneg (a := 9223372036854775807) (b := -v) (by decide) (by omega)
            omega
          · have e : (-9223372036854775808 : Int).tdiv v = (9223372036854775808 : Int).tdiv (-v) := by
              rw [Int.tdiv_neg, ← Int.neg_tdiv]
            have := Int.tdiv_nonneg (a := 9223372036854775808) (b := -v) (by decide) (by omega)
            omega
theorem m_isLong {d : Nat} {h v : Int} {S : Hp} {Q : Vl → Hp → Prop} (H1 : lgB h v → Q (0, 1) S) (H0 : ¬ lgB h v → Q (0, 0) S) : Ev d 268 [(1, h), (0, v)] S Q := by
  apply w_Model_isLong_0
  refine ⟨fun z => ⟨Or.inr rfl, H1 ?_⟩, fun z => ?_⟩
  · rcases z with z | z | z
    · rw [lCmp_eq.mp z]
      exact lgB_zero v
    · exact Or.inl z
    · exact Or.inr (Or.inl (Decidable.not_not.mp z))
  · have v0 : v ≠ 0 := fun y => z (Or.inr (Or.inl y))
    have v1 : v ≠ 1 := fun y => z (Or.inr (Or.inr (fun x => x y)))
    refine ⟨fun v2 => ⟨fun _ => v0, fun _ => v0, ?_⟩, fun v2 => ?_⟩
    · have hv : 2 ≤ v ∨ v ≤ -2 := by omega
      have t1 := td_bd (a := 9223372036854775807) (v := v) (by decide) hv
      have t2 := td_bd (a := -9223372036854775808) (v := v) (by decide) hv
      rw [w64_id (x := (-9223372036854775808 : Int).tdiv v) (by omega) (by omega), w64_id (x := (9223372036854775807 : Int).tdiv v) (by omega) (by omega)]
      unfold lgB at H0 H1
      generalize (9223372036854775807 : Int).tdiv v = A at *
      generalize (-9223372036854775808 : Int).tdiv v = B at *
      rintro _ rfl
      refine ⟨fun _ => v0, fun _ => v0, ?_⟩
      rintro _ rfl _ rfl
      rcases Int.lt_or_le 0 v with q | q
      · rw [if_neg (show ¬ v ≤ 0 by omega), if_neg (show ¬ v ≤ 0 by omega)]
        have yy : (0 < lCmp h A ∨ lCmp h B < 0) ↔ (A < h ∨ h < B) := by rw [lCmp_gt, lCmp_lt]
        by_cases y : 0 < lCmp h A ∨ lCmp h B < 0
        · rw [if_pos y]
          have y := yy.mp y
          exact ⟨Or.inl rfl, H0 (by omega)⟩
        · rw [if_neg y]
          have y := fun z => y (yy.mpr z)
          exact ⟨Or.inr rfl, H1 (by omega)⟩
      · rw [if_pos q, if_pos q]
        have yy : (0 < lCmp h B ∨ lCmp h A < 0) ↔ (B < h ∨ h < A) := by rw [lCmp_gt, lCmp_lt]
        by_cases y : 0 < lCmp h B ∨ lCmp h A < 0
        · rw [if_pos y]
          have y := yy.mp y
          exact ⟨Or.inl rfl, H0 (by omega)⟩
        · rw [if_neg y]
          have y := fun z => y (yy.mpr z)
          exact ⟨Or.inr rfl, H1 (by omega)⟩
    · have v2 : v = -1 := Decidable.not_not.mp v2
      rintro _ rfl
      unfold lgB at H0 H1
      by_cases y : lCmp h (-9223372036854775808) = 0
      · rw [if_pos y]
        have y := lCmp_eq.mp y
        exact ⟨Or.inl rfl, H0 (by omega)⟩
      · rw [if_neg y]
        exact ⟨Or.inr rfl, H1 (Or.inr (Or.inr (Or.inl ⟨v2, fun z => y (lCmp_eq.mpr z)⟩)))⟩
/-- the number after k steps -/
def wgS (v : Int) (g : Int → Int) : Nat → Int
  | 0 => 0
  | k + 1 => w64 (w64 (wgS v g k * v) + g k)
def wgK (v : Int) (g : Int → Int) (k : Int) : Prop := lgB (wgS v g k.toNat) v ∧ ¬ 0 < lCmp (w64 (wgS v g k.toNat * v)) (w64 (9223372036854775807 - g k))
/-- what is on a shelf, the highest first -/
def wgG (n : Int) (W : Int → Int → Int) (k : Int) : Int := W ((31 * n - 1 - k) / 31) ((31 * n - 1 - k) % 31)
set_option maxHeartbeats 1000000 in
theorem m_weigh {d : Nat} {D n s v : Int} {S : Hp} {W : Int → Int → Int} {Q : Vl → Hp → Prop} (h : DW S D) (hN : zG S D 1 = n) (hn : 0 ≤ n ∧ n ≤ 4) (hW : 0 ≤ s ∧ s < 6 → zG S (D + 3) s = 1 → ∀ j i, 0 ≤ j → j < n → 0 ≤ i → i < 31 → zG S (D + 4) (124 * s + 31 * j + i) = W j i) (H0 : ¬ (0 ≤ s ∧ s < 6) → Q (1, 0) (zS S D 5 1)) (H1 : 0 ≤ s ∧ s < 6 → zG S (D + 3) s ≠ 1 → Q (1, 0) (zS S D 5 2)) (H2 : 0 ≤ s ∧ s < 6 → zG S (D + 3) s = 1 → ¬ (∀ k, 0 ≤ k → k < 31 * n → wgK v (wgG n W) k) → Q (1, 0) (zS S D 5 3)) (H3 : 0 ≤ s ∧ s < 6 → zG S (D + 3) s = 1 → (∀ k, 0 ≤ k → k < 31 * n → wgK v (wgG n W) k) → Q (1, wgS v (wgG n W) (31 * n).toNat) (zS S D 5 0)) : Ev (d + 2) 269 [(2, D), (0, s), (0, v)] S Q := by
  -- where it was refused
  have bad : ∀ t S' x k, zK S' D = 12 → zG S' D 5 = t → t ≠ 0 → Q (1, 0) S' → At (d + 2) 269 c269_36 [(0, (2, D)), (1, (0, s)), (2, (0, v)), (3, (1, x)), (5, (0, k))] [] S' Q := fun t S' x k kd ht tz hq => by
    apply w_Model_weigh_36
    rw [ht]
    refine ⟨fun _ => kd, fun _ => ?_, fun z => absurd (Or.inr tz) z⟩
    apply w_Model_weigh_138
    rw [ht]
    refine ⟨kd, ?_⟩
    rintro _ rfl
    rw [if_pos tz]
    exact hq
  have st : ∀ t, t ≠ 0 → Q (1, 0) (zS S D 5 t) → At (d + 2) 269 c269_27 [(0, (2, D)), (1, (0, s)), (2, (0, v))] [(0, t), (2, D)] S Q := fun t tz hq => by
    apply w_Model_weigh_27
    refine ⟨h.1, ?_⟩
    rintro _ rfl
    exact bad t _ _ _ h.1 (zG_zS_at _ _ _ _) tz hq
  apply w_Model_weigh_0
  refine m_isShelf ⟨_, rfl, fun hz => ⟨h.1, ?_⟩, fun hz => st 1 (by decide) (H0 (i2 hz))⟩
  have hs := i1 hz
  rw [h.x_holds.1, h.x_holds.2.1, h.x_holds.2.2]
  refine ⟨⟨rfl, by omega, by omega⟩, fun hh => ?_, fun hh => st 2 (by decide) (H1 hs hh)⟩
  have hW := hW hs hh
  have H2 := H2 hs hh
  have H3 := H3 hs hh
  apply w_Model_weigh_27
  refine ⟨h.1, ?_⟩
  rintro _ rfl
  have w1 : DW (zS S D 5 0) D := h.sc (by decide)
  have n1 : zG (zS S D 5 0) D 1 = n := by rw [zG_zS_ne _ (Or.inr (by omega))]; exact hN
  have t1 : zG (zS S D 5 0) D 5 = 0 := zG_zS_at _ _ _ _
  have g1 : ∀ i, zG (zS S D 5 0) (D + 4) i = zG S (D + 4) i := fun i => by rw [zG_zS_ne _ (Or.inl (by omega))]
  have zz : ∀ t, zS (zS S D 5 0) D 5 t = zS S D 5 t := fun t => zS_zS _ _ _ _ _
  generalize zS S D 5 0 = S1 at *
  refine loopD (α := Int) (P := fun k x => At (d + 2) 269 c269_36 [(0, (2, D)), (1, (0, s)), (2, (0, v)), (3, (1, x)), (5, (0, k))] [] S1 Q) (I := fun k x => k ≤ 123 ∧ x = wgS v (wgG n W) (31 * n - 1 - k).toNat ∧ ∀ e, 0 ≤ e → e < 31 * n - 1 - k → wgK v (wgG n W) e) 0 ?_ ?_ 123 0 (by omega) ⟨by omega, by rw [show (31 * n - 1 - 123).toNat = 0 by omega]; rfl, fun e e0 e1 => by omega⟩
  · rintro k x hk ⟨k1, hx, ok⟩ hnx
    apply w_Model_weigh_36
    rw [t1, n1, show k.tdiv 31 = k / 31 from Int.tdiv_eq_ediv_of_nonneg hk, w32_id (x := k / 31) (by omega) (by omega), w32_id (x := 124 * s) (by omega) (by omega), w32_id (x := 124 * s + k) (by omega) (by omega), w1.x_parts.1, w1.x_parts.2.1, w1.x_parts.2.2, g1]
    refine ⟨fun _ => w1.1, fun z => absurd z (by omega), fun _ => ⟨by decide, ?_⟩⟩
    rintro _ rfl
    refine ⟨w1.1, fun _ => ⟨w1.1, rfl, by omega, by omega⟩, ?_⟩
    intro a ha
    refine ⟨w1.1, fun q => ?_, fun q => ?_⟩
    · apply w_Model_weigh_132
      rintro _ rfl
      rw [w32_id (by omega) (by omega)]
      refine hnx _ ⟨by omega, ?_, fun e e0 e1 => by omega⟩
      rw [hx, show (31 * n - 1 - k).toNat = 0 by omega, show (31 * n - 1 - (k - 1)).toNat = 0 by omega]
    · rw [if_neg q] at ha
      have e1 := hW (k / 31) (k % 31) (by omega) (by omega) (by omega) (by omega)
      rw [show 124 * s + 31 * (k / 31) + k % 31 = 124 * s + k by omega] at e1
      rw [e1] at ha
      have ea : a = wgG n W (31 * n - 1 - k) := by
        unfold wgG
        rw [show 31 * n - 1 - (31 * n - 1 - k) = k by omega]
        exact ha
      have en : wgS v (wgG n W) (31 * n - 1 - (k - 1)).toNat = w64 (w64 (x * v) + a) := by
        rw [show (31 * n - 1 - (k - 1)).toNat = (31 * n - 1 - k).toNat + 1 by omega]
        show w64 (w64 (wgS v (wgG n W) (31 * n - 1 - k).toNat * v) + wgG n W ((31 * n - 1 - k).toNat : Int)) = _
        rw [← hx, show (((31 * n - 1 - k).toNat : Nat) : Int) = 31 * n - 1 - k by omega, ea]
      have ek : wgK v (wgG n W) (31 * n - 1 - k) ↔ lgB x v ∧ ¬ 0 < lCmp (w64 (x * v)) (w64 (9223372036854775807 - a)) := by
        unfold wgK
        rw [← hx, ← ea]
      refine m_isLong (fun hl => ⟨_, rfl, ?_⟩) (fun hl => ⟨_, rfl, ?_⟩)
      · intro x5 hx5
        refine ⟨w1.1, ?_⟩
        intro S6 hS6 x7 hx7
        rw [hS6, hx7]
        apply w_Model_weigh_132
        rintro _ rfl
        rw [w32_id (by omega) (by omega)]
        by_cases c : 0 < lCmp (w64 (x * v)) (w64 (9223372036854775807 - a))
        · have x5e : x5 = 3 := by rw [hx5, if_pos (Or.inr c)]
          rw [x5e]
          have hq := H2 (fun y => (ek.mp (y _ (by omega) (by omega))).2 c)
          rw [← zz 3] at hq
          exact bad 3 _ _ _ w1.1 (zG_zS_at _ _ _ _) (by decide) hq
        · have x5e : x5 = 0 := by rw [hx5, if_neg (by omega)]
          have e0 : zS S1 D 5 x5 = S1 := by
            rw [x5e]
            refine hp_ext rfl rfl fun b j => ?_
            rw [zG_zS]
            by_cases y : b = D ∧ j = 5
            · rw [if_pos y, y.1, y.2, t1]
            · rw [if_neg y]
          rw [e0]
          refine hnx _ ⟨by omega, en.symm, fun e e0 e1 => ?_⟩
          rcases Int.lt_or_le e (31 * n - 1 - k) with y | y
          · exact ok e e0 y
          · rw [show e = 31 * n - 1 - k by omega]
            exact ek.mpr ⟨hl, c⟩
      · intro x5 hx5
        refine ⟨w1.1, ?_⟩
        intro S6 hS6 x7 hx7
        rw [hS6, hx7]
        have x5e : x5 = 3 := by rw [hx5, if_pos (Or.inl rfl)]
        rw [x5e]
        apply w_Model_weigh_132
        rintro _ rfl
        rw [w32_id (by omega) (by omega)]
        have hq := H2 (fun y => hl (ek.mp (y _ (by omega) (by omega))).1)
        rw [← zz 3] at hq
        exact bad 3 _ _ _ w1.1 (zG_zS_at _ _ _ _) (by decide) hq
  · rintro x ⟨-, hx, ok⟩
    apply w_Model_weigh_36
    rw [t1]
    refine ⟨fun z => absurd (by decide) z, fun _ => ?_, fun z => absurd (Or.inl (by decide)) z⟩
    apply w_Model_weigh_138
    rw [t1]
    refine ⟨w1.1, ?_⟩
    intro x1 hx1
    rw [if_neg (by decide)] at hx1
    rw [hx1, hx, show 31 * n - 1 - ((0 : Int) - 1) = 31 * n by omega]
    exact H3 (fun k k0 k1 => ok k k0 (by omega))
theorem m_count {d : Nat} {D w : Int} {S : Hp} {Q : Vl → Hp → Prop} (h : DW S D) (H : Q (0, if w = 0 then zG S D 0 else if w = 1 then zG S D 1 else if w = 2 then zG S D 2 else if w = 3 then zG S D 18 else if w = 4 then bsN (fun s => if zG S (D + 3) s = 1 then 1 else 0) 6 else if w = 5 then bsN (fun s => if zG S (D + 3) s = 2 then 1 else 0) 6 else if w = 6 then zG S D 16 else -1) S) : Ev (d + 1) 285 [(2, D), (0, w)] S Q := by
  apply w_Model_count_0
  refine ⟨fun q => ⟨h.1, ?_⟩, fun q => ⟨h.1, ?_⟩, fun q => ⟨h.1, ?_⟩, fun q => ⟨h.1, ?_⟩, fun q => ⟨h.1, m_holding h ⟨_, rfl, ?_⟩⟩, fun q => ⟨h.1, m_holding h ⟨_, rfl, ?_⟩⟩, fun q => ⟨h.1, ?_⟩, fun q => ?_⟩
  · rw [if_pos q] at H
    exact H
  · rw [if_neg (by omega), if_pos q] at H
    exact H
  · rw [if_neg (by omega), if_neg (by omega), if_pos q] at H
    exact H
  · rw [if_neg (by omega), if_neg (by omega), if_neg (by omega), if_pos q] at H
    exact H
  · rw [if_neg (by omega), if_neg (by omega), if_neg (by omega), if_neg (by omega), if_pos q] at H
    exact H
  · rw [if_neg (by omega), if_neg (by omega), if_neg (by omega), if_neg (by omega), if_neg (by omega), if_pos q] at H
    exact H
  · rw [if_neg (by omega), if_neg (by omega), if_neg (by omega), if_neg (by omega), if_neg (by omega), if_neg (by omega), if_pos q] at H
    exact H
  · rw [if_neg (by omega), if_neg (by omega), if_neg (by omega), if_neg (by omega), if_neg (by omega), if_neg (by omega), if_neg (by omega)] at H
    exact H
theorem m_image {d : Nat} {D : Int} {S : Hp} {Q : Vl → Hp → Prop} (h : DW S D) (H : ∀ S', Md (fun x => x = D ∨ x = D + 43 ∨ x = D + 44) S S' → DW S' D → (∀ i, i ≠ 61 → i ≠ 62 → i ≠ 63 → zG S' D i = zG S D i) → zG S' D 61 = zG S D 0 → zG S' D 62 = zG S D 1 → zG S' D 63 = zG S D 2 → (∀ e, 0 ≤ e → e < 49 → zG S' (D + 43) e = zG S (D + 1) e) → (∀ e, 0 ≤ e → e < 200 → zG S' (D + 44) e = zG S (D + 2) e) → Q (0, zG S D 0) S') : Ev d 282 [(2, D)] S Q := by
  apply w_Model_image_0
  refine ⟨h.1, h.1, ?_⟩
  rintro _ rfl
  refine ⟨h.1, h.1, ?_⟩
  rintro _ rfl
  refine ⟨h.1, h.1, ?_⟩
  rintro _ rfl
  rw [zG_zS_ne S (show D ≠ D ∨ (1 : Int) ≠ 61 by omega), zG_zS_ne _ (show D ≠ D ∨ (2 : Int) ≠ 62 by omega), zG_zS_ne S (show D ≠ D ∨ (2 : Int) ≠ 61 by omega)]
  have m1 : Md (fun x => x = D) S (zS (zS (zS S D 61 (zG S D 0)) D 62 (zG S D 1)) D 63 (zG S D 2)) := ((Md.zS _ _ _ _).tr (Md.zS _ _ _ _)).tr (Md.zS _ _ _ _)
  have w1 : DW (zS (zS (zS S D 61 (zG S D 0)) D 62 (zG S D 1)) D 63 (zG S D 2)) D := ((h.sc (by decide)).sc (by decide)).sc (by decide)
  have o1 : ∀ i, i ≠ 61 → i ≠ 62 → i ≠ 63 → zG (zS (zS (zS S D 61 (zG S D 0)) D 62 (zG S D 1)) D 63 (zG S D 2)) D i = zG S D i := fun i i1 i2 i3 => by
    rw [zG_zS_ne _ (Or.inr i3), zG_zS_ne _ (Or.inr i2), zG_zS_ne _ (Or.inr i1)]
  have e1 : zG (zS (zS (zS S D 61 (zG S D 0)) D 62 (zG S D 1)) D 63 (zG S D 2)) D 61 = zG S D 0 := by
    rw [zG_zS_ne _ (Or.inr (by omega)), zG_zS_ne _ (Or.inr (by omega)), zG_zS_at]
  have e2 : zG (zS (zS (zS S D 61 (zG S D 0)) D 62 (zG S D 1)) D 63 (zG S D 2)) D 62 = zG S D 1 := by
    rw [zG_zS_ne _ (Or.inr (by omega)), zG_zS_at]
  have e3 : zG (zS (zS (zS S D 61 (zG S D 0)) D 62 (zG S D 1)) D 63 (zG S D 2)) D 63 = zG S D 2 := zG_zS_at _ _ _ _
  generalize zS (zS (zS S D 61 (zG S D 0)) D 62 (zG S D 1)) D 63 (zG S D 2) = S1 at *
  refine loopU (P := fun k S' => At d 282 c282_26 [(0, (2, D)), (1, (0, k))] [] S' Q) (I := fun k S' => 0 ≤ k ∧ Md (fun x => x = D + 43) S1 S' ∧ ∀ e, 0 ≤ e → e < k → zG S' (D + 43) e = zG S (D + 1) e) 49 ?_ ?_ 0 S1 (by omega) ⟨by omega, Md.refl _ _, fun e e0 e1 => by omega⟩
  · rintro k S2 hk ⟨k0, m2, v2⟩ hnx
    have w2 : DW S2 D := w1.md m2 (by omega)
    apply w_Model_image_26
    rw [w2.x_f.1, w2.x_f.2.1, w2.x_f.2.2, w2.x_keptF.1, w2.x_keptF.2.1, w2.x_keptF.2.2, m2.G (a := D + 1) (by omega), m1.G (a := D + 1) (by omega)]
    refine ⟨fun hc => by omega, fun _ => ⟨w2.1, w2.1, ⟨rfl, by omega, by omega⟩, ⟨rfl, by omega, by omega⟩, ?_⟩⟩
    rintro _ rfl _ rfl
    rw [w32_id (by omega) (by omega)]
    refine hnx _ ⟨by omega, m2.tr (Md.zS _ _ _ _), fun e e0 e1 => ?_⟩
    by_cases q : e = k
    · rw [q, zG_zS_at]
    · rw [zG_zS_ne _ (Or.inr q)]
      exact v2 e e0 (by omega)
  · rintro S2 ⟨-, m2, v2⟩
    have w2 : DW S2 D := w1.md m2 (by omega)
    apply w_Model_image_26
    refine ⟨fun _ => ?_, fun hc => absurd (Int.le_refl 49) hc⟩
    refine loopU (P := fun k S' => At d 282 c282_52 [(0, (2, D)), (1, (0, k))] [] S' Q) (I := fun k S' => 0 ≤ k ∧ Md (fun x => x = D + 44) S2 S' ∧ ∀ e, 0 ≤ e → e < k → zG S' (D + 44) e = zG S (D + 2) e) 200 ?_ ?_ 0 S2 (by omega) ⟨by omega, Md.refl _ _, fun e e0 e1 => by omega⟩
    · rintro k S3 hk ⟨k0, m3, v3⟩ hnx
      have w3 : DW S3 D := w2.md m3 (by omega)
      apply w_Model_image_52
      rw [w3.x_disc.1, w3.x_disc.2.1, w3.x_disc.2.2, w3.x_keptDisc.1, w3.x_keptDisc.2.1, w3.x_keptDisc.2.2, m3.G (a := D + 2) (by omega), m2.G (a := D + 2) (by omega), m1.G (a := D + 2) (by omega)]
      refine ⟨fun hc => by omega, fun _ => ⟨w3.1, w3.1, ⟨rfl, by omega, by omega⟩, ⟨rfl, by omega, by omega⟩, ?_⟩⟩
      rintro _ rfl _ rfl
      rw [w32_id (by omega) (by omega)]
      refine hnx _ ⟨by omega, m3.tr (Md.zS _ _ _ _), fun e e0 e1 => ?_⟩
      by_cases q : e = k
      · rw [q, zG_zS_at]
      · rw [zG_zS_ne _ (Or.inr q)]
        exact v3 e e0 (by omega)
    · rintro S3 ⟨-, m3, v3⟩
      have o3 : ∀ i, zG S3 D i = zG S1 D i := fun i => by rw [m3.G (by omega), m2.G (by omega)]
      apply w_Model_image_52
      rw [o3 0, o1 0 (by omega) (by omega) (by omega)]
      exact ⟨fun _ => ⟨(w2.md m3 (by omega)).1, H S3 (((m1.wide (fun x hx => Or.inl hx)).tr (m2.wide (fun x hx => Or.inr (Or.inl hx)))).tr (m3.wide (fun x hx => Or.inr (Or.inr hx)))) (w2.md m3 (by omega)) (fun i i1 i2 i3 => (o3 i).trans (o1 i i1 i2 i3)) ((o3 61).trans e1) ((o3 62).trans e2) ((o3 63).trans e3) (fun e e0 e1 => (m3.G (by omega) e).trans (v2 e e0 e1)) v3⟩, fun hc => absurd (Int.le_refl 200) hc⟩
