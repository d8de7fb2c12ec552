/-! The model: nil classes, what gains. -/
theorem pcC_bd {p n a b : Int} {T : Int → Int} (h2 : 2 ≤ p ∧ p ≤ 7) (hn : 2 ≤ n ∧ n ≤ 4) : 0 ≤ pcC p n T a b ∧ pcC p n T a b < pwI p n.toNat := cdF_bd h2 (fun l => ⟨em_ge (by omega), em_lt (by omega)⟩) n.toNat 0
def isN (p n : Int) (T : Int → Int) (a : Int) : Prop := pcC p n T (pcC p n T a a) (pcC p n T a a) = 0
/-- the tables of products -/
def TB (S : Hp) (D n : Int) : Prop := ∀ i j l, 0 ≤ i → i < n → 0 ≤ j → j < n → 0 ≤ l → l < n → (0 ≤ zG S (D + 36) (16 * i + 4 * j + l) ∧ zG S (D + 36) (16 * i + 4 * j + l) < 10) ∧ 0 ≤ zG S (D + 37) (16 * i + 4 * j + l) ∧ zG S (D + 37) (16 * i + 4 * j + l) < 10
theorem m_isNil {d : Nat} {D p n a : Int} {S : Hp} {Q : Vl → Hp → Prop} (h : DW S D) (hp : zG S D 0 = p) (h2 : 2 ≤ p ∧ p ≤ 7) (hN : zG S D 1 = n) (hn : 2 ≤ n ∧ n ≤ 4) (ha : 0 ≤ a ∧ a < 100000) (hT : TB S D n) (H1 : isN p n (zG S (D + 36)) a → Q (0, 1) S) (H0 : ¬ isN p n (zG S (D + 36)) a → Q (0, 0) S) : Ev (d + 2) 220 [(2, D), (0, a)] S Q := by
  have b1 := pcC_bd (a := a) (b := a) (T := zG S (D + 36)) h2 hn
  have b2 := pwI_bd h2 n.toNat (by omega)
  have t1 := fun i j l i0 i1 j0 j1 l0 l1 => (hT i j l i0 i1 j0 j1 l0 l1).1
  apply w_Model_isNil_0
  rw [h.x_first.1]
  refine ⟨h.1, h.1, m_product h.1 hp h2 hN hn ha ha h.x_first.2.1 h.x_first.2.2 t1 ⟨_, rfl, h.1, h.1, ?_⟩⟩
  rw [h.x_first.1]
  refine m_product h.1 hp h2 hN hn (by omega) (by omega) h.x_first.2.1 h.x_first.2.2 t1 ⟨_, rfl, ?_⟩
  rintro _ rfl
  by_cases q : pcC p n (zG S (D + 36)) (pcC p n (zG S (D + 36)) a a) (pcC p n (zG S (D + 36)) a a) = 0
  · rw [if_neg (fun z => z q)]
    exact ⟨Or.inr rfl, H1 q⟩
  · rw [if_pos q]
    exact ⟨Or.inl rfl, H0 q⟩
theorem m_findsNil {d : Nat} {D p n : Int} {S : Hp} {Q : Vl → Hp → Prop} (h : DW S D) (hp : zG S D 0 = p) (h2 : 2 ≤ p ∧ p ≤ 7) (hN : zG S D 1 = n) (hn : 2 ≤ n ∧ n ≤ 4) (h53 : zG S D 53 = pwI p n.toNat) (hT : TB S D n) (H : ∀ S', Md (fun x => x = D + 38) S S' → DW S' D → (∀ a, 0 ≤ a → a < pwI p n.toNat → in01 (zG S' (D + 38) a) ∧ (zG S' (D + 38) a = 1 ↔ isN p n (zG S (D + 36)) a)) → Q (3, 0) S') : Ev (d + 3) 221 [(2, D)] S Q := by
  have b2 := pwI_bd h2 n.toNat (by omega)
  apply w_Model_findsNil_0
  refine loopU (P := fun a S' => At (d + 3) 221 c221_2 [(0, (2, D)), (1, (0, a))] [] S' Q) (I := fun a S' => 0 ≤ a ∧ Md (fun x => x = D + 38) S S' ∧ ∀ e, 0 ≤ e → e < a → in01 (zG S' (D + 38) e) ∧ (zG S' (D + 38) e = 1 ↔ isN p n (zG S (D + 36)) e)) (pwI p n.toNat) ?_ ?_ 0 S (by omega) ⟨by omega, Md.refl _ _, fun e e0 e1 => by omega⟩
  · rintro a S1 ha ⟨a0, m1, v1⟩ hk
    have w1 : DW S1 D := h.md m1 (by omega)
    have g36 : zG S1 (D + 36) = zG S (D + 36) := funext fun i => m1.G (by omega) i
    have T1 : TB S1 D n := fun i j l i0 i1 j0 j1 l0 l1 => by
      rw [m1.G (by omega), m1.G (by omega)]
      exact hT i j l i0 i1 j0 j1 l0 l1
    have r : zK S1 (zG S1 D 54) = 103 ∧ 0 ≤ a ∧ a < zL S1 (zG S1 D 54) := by
      rw [w1.x_nil.1, w1.x_nil.2.1, w1.x_nil.2.2]
      exact ⟨rfl, a0, by omega⟩
    have nx : ∀ v, in01 v → (v = 1 ↔ isN p n (zG S (D + 36)) a) → ∀ S3, S3 = zS S1 (zG S1 D 54) a v → ∀ x4, x4 = w32 (a + 1) → At (d + 3) 221 c221_2 [(0, (2, D)), (1, (0, x4))] [] S3 Q := fun v v1' v2' => by
      rintro _ rfl _ rfl
      rw [w32_id (by omega) (by omega), w1.x_nil.1]
      refine hk _ ⟨by omega, m1.tr (Md.zS _ _ _ _), fun e e0 e1 => ?_⟩
      by_cases q : e = a
      · rw [q, zG_zS_at]
        exact ⟨v1', v2'⟩
      · rw [zG_zS_ne _ (Or.inr q)]
        exact v1 e e0 (by omega)
    apply w_Model_findsNil_2
    rw [(m1.G (a := D) (by omega) 53).trans h53]
    refine ⟨w1.1, fun z => by omega, fun _ => ⟨w1.1, w1.1, m_isNil w1 ((m1.G (by omega) 0).trans hp) h2 ((m1.G (by omega) 1).trans hN) hn (by omega) T1 (fun z => ⟨_, rfl, ⟨r.1, r.2.1, r.2.2, Or.inr rfl⟩, ?_⟩) (fun z => ⟨_, rfl, ⟨r.1, r.2.1, r.2.2, Or.inl rfl⟩, ?_⟩)⟩⟩
    · rw [g36] at z
      exact nx 1 (Or.inr rfl) ⟨fun _ => z, fun _ => rfl⟩
    · rw [g36] at z
      exact nx 0 (Or.inl rfl) ⟨fun y => by omega, fun y => absurd y z⟩
  · rintro S1 ⟨-, m1, v1⟩
    apply w_Model_findsNil_2
    rw [(m1.G (a := D) (by omega) 53).trans h53]
    exact ⟨by rw [m1.K]; exact h.1, fun _ => H S1 m1 (h.md m1 (by omega)) v1, fun z => absurd (Int.le_refl _) z⟩
theorem m_topPower {d : Nat} {D p j : Int} {S : Hp} {Q : Vl → Hp → Prop} (hD : zK S D = 12) (hp : zG S D 0 = p) (h2 : 2 ≤ p ∧ p ≤ 7) (hj : 0 ≤ j ∧ j < 4) (H : Q (0, pwI p j.toNat) S) : Ev d 222 [(2, D), (0, j)] S Q := by
  apply w_Model_topPower_0
  refine loopU (α := Int) (P := fun k x => At d 222 c222_4 [(0, (2, D)), (1, (0, j)), (2, (0, x)), (3, (0, k))] [] S Q) (I := fun k x => 0 ≤ k ∧ x = pwI p k.toNat) j ?_ ?_ 0 1 (by omega) ⟨by omega, rfl⟩
  · rintro k x hk ⟨k0, rfl⟩ hnx
    have b := pwI_bd h2 (k + 1).toNat (by omega)
    have e : pwI p (k + 1).toNat = pwI p k.toNat * p := by
      rw [show (k + 1).toNat = k.toNat + 1 by omega]
      rfl
    apply w_Model_topPower_4
    rw [hp, ← e, w32_id (x := pwI p (k + 1).toNat) (by omega) (by omega)]
    refine ⟨fun z => by omega, fun _ => ⟨hD, ?_⟩⟩
    rintro _ rfl _ rfl
    rw [w32_id (by omega) (by omega)]
    exact hnx _ ⟨by omega, rfl⟩
  · rintro x ⟨-, rfl⟩
    apply w_Model_topPower_4
    exact ⟨fun _ => H, fun z => absurd (Int.le_refl j) z⟩
/-- t is the first of lo .. hi - 1 with P, or -1 -/
def fstP (P : Int → Prop) (lo hi t : Int) : Prop := (t = -1 ∧ ∀ a, lo ≤ a → a < hi → ¬ P a) ∨ (lo ≤ t ∧ t < hi ∧ P t ∧ ∀ a, lo ≤ a → a < t → ¬ P a)
theorem pwI_lt {p : Int} (h2 : 2 ≤ p ∧ p ≤ 7) {j n : Int} (hj : 0 ≤ j ∧ j < n) (hn : n ≤ 4) : 2 * pwI p j.toNat ≤ pwI p n.toNat := by
  have key : ∀ (a b : Nat), a < b → b ≤ 4 → 2 * pwI p a ≤ pwI p b := by
    intro a b hab hb
    induction b with
    | zero => omega
    | succ b ih =>
      have pb := pwI_bd h2 b (by omega)
      have e : pwI p b * 2 ≤ pwI p b * p := Int.mul_le_mul_of_nonneg_left h2.1 (by omega)
      show 2 * pwI p a ≤ pwI p b * p
      rcases Nat.lt_or_ge a b with q | q
      · have := ih q (by omega)
        omega
      · rw [show a = b by omega]
        omega
  exact key j.toNat n.toNat (by omega) (by omega)
set_option maxHeartbeats 1000000 in
theorem m_findsNilTops {d : Nat} {D p n : Int} {S : Hp} {N : Int → Prop} {Q : Vl → Hp → Prop} (h : DW S D) (hp : zG S D 0 = p) (h2 : 2 ≤ p ∧ p ≤ 7) (hN : zG S D 1 = n) (hn : 2 ≤ n ∧ n ≤ 4) (hv : ∀ a, 0 ≤ a → a < pwI p n.toNat → in01 (zG S (D + 38) a) ∧ (zG S (D + 38) a = 1 ↔ N a)) (H : ∀ S', Md (fun x => x = D + 39) S S' → DW S' D → (∀ j, 0 ≤ j → j < n → fstP N (pwI p j.toNat) (2 * pwI p j.toNat) (zG S' (D + 39) j)) → Q (3, 0) S') : Ev (d + 1) 223 [(2, D)] S Q := by
  apply w_Model_findsNilTops_0
  refine loopU (P := fun j S' => At (d + 1) 223 c223_2 [(0, (2, D)), (1, (0, j))] [] S' Q) (I := fun j S' => 0 ≤ j ∧ Md (fun x => x = D + 39) S S' ∧ ∀ i, 0 ≤ i → i < j → fstP N (pwI p i.toNat) (2 * pwI p i.toNat) (zG S' (D + 39) i)) n ?_ ?_ 0 S (by omega) ⟨by omega, Md.refl _ _, fun i i0 i1 => by omega⟩
  · rintro j S1 hj ⟨j0, m1, v1⟩ hk
    have w1 : DW S1 D := h.md m1 (by omega)
    have pj := pwI_bd h2 j.toNat (by omega)
    have pn := pwI_bd h2 n.toNat (by omega)
    have pl := pwI_lt h2 (j := j) (n := n) ⟨j0, hj⟩ hn.2
    apply w_Model_findsNilTops_2
    rw [(m1.G (a := D) (by omega) 1).trans hN]
    refine ⟨w1.1, fun z => by omega, fun _ => ⟨w1.1, m_topPower w1.1 ((m1.G (by omega) 0).trans hp) h2 (by omega) ⟨_, rfl, w1.1, ?_⟩⟩⟩
    obtain ⟨b, hb⟩ : ∃ b, b = pwI p j.toNat := ⟨_, rfl⟩
    rw [← hb] at pj pl ⊢
    rw [w1.x_nilTop.1, w1.x_nilTop.2.1, w1.x_nilTop.2.2]
    refine ⟨⟨rfl, by omega, by omega⟩, ?_⟩
    rintro _ rfl
    have fin : ∀ S3, Md (fun x => x = D + 39) S S3 → (∀ i, i ≠ j → zG S3 (D + 39) i = zG S1 (D + 39) i) → fstP N b (2 * b) (zG S3 (D + 39) j) → At (d + 1) 223 c223_67 [(0, (2, D)), (1, (0, j))] [] S3 Q := fun S3 m3 o3 f3 => by
      apply w_Model_findsNilTops_67
      rintro _ rfl
      rw [w32_id (by omega) (by omega)]
      refine hk _ ⟨by omega, m3, fun i i0 i1 => ?_⟩
      by_cases q : i = j
      · rw [q, ← hb]
        exact f3
      · rw [o3 i q]
        exact v1 i i0 (by omega)
    refine loopU (P := fun a S' => At (d + 1) 223 c223_25 [(0, (2, D)), (1, (0, j)), (2, (0, b)), (3, (0, a))] [] S' Q) (I := fun a S' => b ≤ a ∧ Md (fun x => x = D + 39) S S' ∧ (∀ i, i ≠ j → zG S' (D + 39) i = zG S1 (D + 39) i) ∧ zG S' (D + 39) j = -1 ∧ ∀ e, b ≤ e → e < a → ¬ N e) (2 * b) ?_ ?_ b _ (by omega) ⟨by omega, m1.tr (Md.zS _ _ _ _), fun i hi => zG_zS_ne _ (Or.inr hi), zG_zS_at _ _ _ _, fun e e0 e1 => by omega⟩
    · rintro a S2 ha ⟨a0, m2, o2, t2, no⟩ hk2
      have w2 : DW S2 D := h.md m2 (by omega)
      have nv := hv a (by omega) (by omega)
      have rng : zK S2 (D + 39) = 101 ∧ 0 ≤ j ∧ j < zL S2 (D + 39) := by
        rw [w2.x_nilTop.2.1, w2.x_nilTop.2.2]
        exact ⟨rfl, by omega, by omega⟩
      apply w_Model_findsNilTops_25
      rw [w32_id (x := 2 * b) (by omega) (by omega), w2.x_nilTop.1, t2, w2.x_nil.1, w2.x_nil.2.1, w2.x_nil.2.2, m2.G (a := D + 38) (by omega)]
      refine ⟨fun _ => ⟨w2.1, rng⟩, fun z => by omega, fun _ => ⟨w2.1, w2.1, ⟨rfl, by omega, by omega⟩, ?_⟩⟩
      by_cases q : zG S (D + 38) a = 0
      · rw [if_pos q]
        rintro _ rfl
        refine ⟨rng, ?_⟩
        rintro _ rfl _ rfl
        rw [w32_id (by omega) (by omega)]
        refine hk2 _ ⟨by omega, m2.tr (Md.zS _ _ _ _), fun i hi => by rw [zG_zS_ne _ (Or.inr hi)]; exact o2 i hi, zG_zS_at _ _ _ _, fun e e0 e1 => ?_⟩
        rcases Int.lt_or_le e a with y | y
        · exact no e e0 y
        · rw [show e = a by omega]
          intro z
          have := nv.2.mpr z
          omega
      · rw [if_neg q]
        intro x1 hx1
        refine ⟨rng, ?_⟩
        rintro _ rfl _ rfl
        rw [hx1, w32_id (by omega) (by omega)]
        have w3 : DW (zS S2 (D + 39) j a) D := w2.zSr (by omega)
        apply w_Model_findsNilTops_25
        rw [w3.x_nilTop.1, zG_zS_at]
        refine ⟨fun _ => ⟨w3.1, rng⟩, fun _ => fin _ (m2.tr (Md.zS _ _ _ _)) (fun i hi => by rw [zG_zS_ne _ (Or.inr hi)]; exact o2 i hi) ?_, fun z => absurd (Or.inr (by omega)) z⟩
        rw [zG_zS_at]
        have n1 : zG S (D + 38) a = 1 := by
          rcases nv.1 with y | y
          · exact absurd y q
          · exact y
        exact Or.inr ⟨a0, ha, nv.2.mp n1, no⟩
    · rintro S2 ⟨-, m2, o2, t2, no⟩
      have w2 : DW S2 D := h.md m2 (by omega)
      apply w_Model_findsNilTops_25
      rw [w32_id (x := 2 * b) (by omega) (by omega)]
      refine ⟨fun z => absurd (Int.le_refl _) z, fun _ => fin S2 m2 o2 ?_, fun z => absurd (Or.inl (Int.le_refl _)) z⟩
      rw [t2]
      exact Or.inl ⟨rfl, no⟩
  · rintro S1 ⟨-, m1, v1⟩
    apply w_Model_findsNilTops_2
    rw [(m1.G (a := D) (by omega) 1).trans hN]
    exact ⟨by rw [m1.K]; exact h.1, fun _ => H S1 m1 (h.md m1 (by omega)) v1, fun z => absurd (Int.le_refl n) z⟩
/-- a by t multiplies the radical into itself -/
def kpR (p n : Int) (T1 T2 : Int → Int) (N : Int → Prop) (top : Int → Int) (a : Int) : Prop := N a ∧ ∀ j, 0 ≤ j → j < n → 0 ≤ top j → pcC p n T1 a (top j) = 0 ∧ N (pcC p n T2 a (top j))
set_option maxHeartbeats 1000000 in
theorem m_keepsRadical {d : Nat} {D p n a : Int} {S : Hp} {N : Int → Prop} {Q : Vl → Hp → Prop} (h : DW S D) (hp : zG S D 0 = p) (h2 : 2 ≤ p ∧ p ≤ 7) (hN : zG S D 1 = n) (hn : 2 ≤ n ∧ n ≤ 4) (ha : 0 ≤ a ∧ a < pwI p n.toNat) (hT : TB S D n) (hv : ∀ a, 0 ≤ a → a < pwI p n.toNat → in01 (zG S (D + 38) a) ∧ (zG S (D + 38) a = 1 ↔ N a)) (ht : ∀ j, 0 ≤ j → j < n → -1 ≤ zG S (D + 39) j ∧ zG S (D + 39) j < pwI p n.toNat) (H1 : kpR p n (zG S (D + 36)) (zG S (D + 37)) N (zG S (D + 39)) a → Q (0, 1) S) (H0 : ¬ kpR p n (zG S (D + 36)) (zG S (D + 37)) N (zG S (D + 39)) a → Q (0, 0) S) : Ev (d + 2) 224 [(2, D), (0, a)] S Q := by
  have pn := pwI_bd h2 n.toNat (by omega)
  have t1 := fun i j l i0 i1 j0 j1 l0 l1 => (hT i j l i0 i1 j0 j1 l0 l1).1
  have t2 := fun i j l i0 i1 j0 j1 l0 l1 => (hT i j l i0 i1 j0 j1 l0 l1).2
  have bad : ∀ j, ¬ kpR p n (zG S (D + 36)) (zG S (D + 37)) N (zG S (D + 39)) a → At (d + 2) 224 c224_9 [(0, (2, D)), (1, (0, a)), (2, (0, 0)), (3, (0, j))] [] S Q := fun j z => by
    apply w_Model_keepsRadical_9
    exact ⟨h.1, fun _ => ⟨Or.inl rfl, H0 z⟩, fun y => absurd (Or.inr rfl) y⟩
  have na := hv a ha.1 ha.2
  apply w_Model_keepsRadical_0
  rw [h.x_nil.1, h.x_nil.2.1, h.x_nil.2.2]
  refine ⟨h.1, ⟨rfl, by omega, by omega⟩, ?_⟩
  rintro _ rfl
  rcases na.1 with n0 | n1
  · rw [n0]
    refine bad 0 (fun z => ?_)
    have := na.2.mpr z.1
    omega
  · rw [n1]
    have Na := na.2.mp n1
    refine loopU (α := Unit) (P := fun j _ => At (d + 2) 224 c224_9 [(0, (2, D)), (1, (0, a)), (2, (0, 1)), (3, (0, j))] [] S Q) (I := fun j _ => 0 ≤ j ∧ ∀ i, 0 ≤ i → i < j → 0 ≤ zG S (D + 39) i → pcC p n (zG S (D + 36)) a (zG S (D + 39) i) = 0 ∧ N (pcC p n (zG S (D + 37)) a (zG S (D + 39) i))) n ?_ ?_ 0 () (by omega) ⟨by omega, fun i i0 i1 => by omega⟩
    · rintro j _ hj ⟨j0, ok⟩ hk
      have tj := ht j j0 hj
      have yes : (0 ≤ zG S (D + 39) j → pcC p n (zG S (D + 36)) a (zG S (D + 39) j) = 0 ∧ N (pcC p n (zG S (D + 37)) a (zG S (D + 39) j))) → At (d + 2) 224 c224_67 [(0, (2, D)), (1, (0, a)), (3, (0, j))] [] S Q := fun z => by
        apply w_Model_keepsRadical_67
        apply w_Model_keepsRadical_72
        rintro _ rfl
        rw [w32_id (by omega) (by omega)]
        refine hk () ⟨by omega, fun i i0 i1 => ?_⟩
        by_cases q : i = j
        · rw [q]
          exact z
        · exact ok i i0 (by omega)
      have no : 0 ≤ zG S (D + 39) j → ¬ (pcC p n (zG S (D + 36)) a (zG S (D + 39) j) = 0 ∧ N (pcC p n (zG S (D + 37)) a (zG S (D + 39) j))) → At (d + 2) 224 c224_71 [(0, (2, D)), (1, (0, a)), (3, (0, j))] [] S Q := fun z0 z => by
        apply w_Model_keepsRadical_71
        apply w_Model_keepsRadical_72
        rintro _ rfl
        rw [w32_id (by omega) (by omega)]
        exact bad _ (fun y => z (y.2 j j0 hj z0))
      apply w_Model_keepsRadical_9
      rw [hN, h.x_nilTop.1, h.x_nilTop.2.1, h.x_nilTop.2.2]
      refine ⟨h.1, fun z => by omega, fun _ => ⟨h.1, ⟨rfl, by omega, by omega⟩, ?_⟩⟩
      rintro _ rfl
      refine ⟨fun z => yes (fun y => by omega), fun z => ⟨h.1, h.1, ?_⟩⟩
      rw [h.x_first.1]
      refine m_product h.1 hp h2 hN hn (by omega) (by omega) h.x_first.2.1 h.x_first.2.2 t1 ⟨_, rfl, fun y => no (by omega) (fun x => y x.1), fun y => ⟨h.1, h.1, h.1, ?_⟩⟩
      have y := Decidable.not_not.mp y
      have b := pcC_bd (a := a) (b := zG S (D + 39) j) (T := zG S (D + 37)) h2 hn
      have nb := hv _ b.1 b.2
      rw [h.x_second.1, h.x_nil.1]
      refine m_product h.1 hp h2 hN hn (by omega) (by omega) h.x_second.2.1 h.x_second.2.2 t2 ⟨_, rfl, ⟨h.x_nil.2.1, b.1, by rw [h.x_nil.2.2]; omega⟩, fun x => no (by omega) (fun u => ?_), fun x => yes (fun _ => ⟨y, ?_⟩)⟩
      · have := nb.2.mpr u.2
        omega
      · refine nb.2.mp ?_
        rcases nb.1 with u | u
        · exact absurd u x
        · exact u
    · rintro _ ⟨-, ok⟩
      apply w_Model_keepsRadical_9
      rw [hN]
      exact ⟨h.1, fun _ => ⟨Or.inr rfl, H1 ⟨Na, ok⟩⟩, fun z => absurd (Or.inl (Int.le_refl n)) z⟩
