/-! The model: classes, branches. -/
theorem tb1_at {p n i j l q : Int} {C : Int → Int → Int} {fig : Int → Int → Int → Int} {dp : Int → Int} (hi : 0 ≤ i ∧ i < 4) (hj : 0 ≤ j ∧ j < 4) (hl : 0 ≤ l ∧ l < 4) : tb1 p n C fig dp q (16 * i + 4 * j + l) = shN p n dp fig (mbL p n C fig i j) l q := by
  unfold tb1
  rw [show (16 * i + 4 * j + l) / 16 = i by omega, show (16 * i + 4 * j + l) / 4 % 4 = j by omega, show (16 * i + 4 * j + l) % 4 = l by omega]
theorem m_tables {d : Nat} {D p n c k L : Int} {S : Hp} {F : Int → Int} {fK : Int → Int → Int → Int → Int} {dK : Int → Int → Int} {Q : Vl → Hp → Prop} (mc : MC S D p n F) (n0 : n ≠ 0) (hc : 0 ≤ c ∧ c < p) (v : ∀ e, 0 ≤ e → e < 49 → zG S (D + 31) e = mvC p c F e) (r : RG S D c p n (cfF (mvC p c F) n) L fK dK) (hk : 0 ≤ k ∧ k ≤ L) (H : ∀ S', opR D S S' → MC S' D p n F → RG S' D c p n (cfF (mvC p c F) n) L fK dK → zG S' D 53 = pwI p n.toNat → (∀ i j l, 0 ≤ i → i < n → 0 ≤ j → j < n → 0 ≤ l → l < n → zG S' (D + 36) (16 * i + 4 * j + l) = tb1 p n (cfF (mvC p c F) n) (fK k) (dK k) 0 (16 * i + 4 * j + l)) → TB S' D n → Q (3, 0) S') : Ev (d + 3) 217 [(2, D), (0, k)] S Q := by
  have hn : 2 ≤ n ∧ n ≤ 4 := by have := mc.2.2.2.2.1; omega
  have h2 := isPr_b mc.2.2.1
  obtain ⟨k9, hr, hok⟩ := RG.m mc n0 hc r hk
  have rb := r.b hk
  obtain ⟨c1, c2, c3⟩ := cfF_mv (c := c) (n := n) (show 0 < p by omega) mc.2.2.2.2.2.2.2.1
  refine m_findsProducts (C := cfF (mvC p c F) n) mc.1 mc.2.1 h2 mc.2.2.2.1 hn (by omega) rb.1 hr (mvC_cf hn.2 v) c1 c2 c3 hok (fun S' m w o e53 t => ?_)
  refine H S' ⟨m.wide (fun x hx => by unfold opM; omega), fun i _ _ i3 => o i i3⟩ (mc.keep m w (by omega) (by omega) (by omega) (fun i hi => o i (by omega))) (r.keep m (by omega) (by omega) (fun i hi => o i (by omega))) e53 (fun i j l i0 i1 j0 j1 l0 l1 => ?_) (fun i j l i0 i1 j0 j1 l0 l1 => ?_)
  · rw [tb1_at (by omega) (by omega) (by omega)]
    exact (t i j l i0 i1 j0 j1 l0 l1).1
  · have b0 := shN_bd (n := n) (dp := dK k) (fig := fK k) h2.1 (mbL_bd (n := n) (i := i) (j := j) (C := cfF (mvC p c F) n) (fig := fK k) h2.1) l 0
    have b1 := shN_bd (n := n) (dp := dK k) (fig := fK k) h2.1 (mbL_bd (n := n) (i := i) (j := j) (C := cfF (mvC p c F) n) (fig := fK k) h2.1) l 1
    have t := t i j l i0 i1 j0 j1 l0 l1
    rw [t.1, t.2]
    omega
/-- the power p of a class -/
def fpC (p n : Int) (T : Int → Int) (a : Int) : Int := if p = 2 then pcC p n T a a else if p = 3 then pcC p n T (pcC p n T a a) a else if p = 5 then pcC p n T (pcC p n T (pcC p n T a a) (pcC p n T a a)) a else pcC p n T (pcC p n T (pcC p n T a a) (pcC p n T a a)) (pcC p n T (pcC p n T a a) a)
theorem fpC_congr {p n : Int} {T T' : Int → Int} (hn : 2 ≤ n ∧ n ≤ 4) (hT : ∀ i j l, 0 ≤ i → i < n → 0 ≤ j → j < n → 0 ≤ l → l < n → T (16 * i + 4 * j + l) = T' (16 * i + 4 * j + l)) (a : Int) : fpC p n T a = fpC p n T' a := by
  unfold fpC
  simp only [pcC_congr hn hT]
theorem m_powerClass {d : Nat} {D p n a : Int} {S : Hp} {Q : Vl → Hp → Prop} (h : DW S D) (hp : zG S D 0 = p) (h2 : 2 ≤ p ∧ p ≤ 7) (hN : zG S D 1 = n) (hn : 2 ≤ n ∧ n ≤ 4) (ha : 0 ≤ a ∧ a < 100000) (hT : TB S D n) (H : Q (0, fpC p n (zG S (D + 36)) a) S) : Ev (d + 2) 239 [(2, D), (0, a)] S Q := by
  have t : ∀ i j l, 0 ≤ i → i < n → 0 ≤ j → j < n → 0 ≤ l → l < n → 0 ≤ zG S (D + 36) (16 * i + 4 * j + l) ∧ zG S (D + 36) (16 * i + 4 * j + l) < 10 := fun i j l i0 i1 j0 j1 l0 l1 => (hT i j l i0 i1 j0 j1 l0 l1).1
  have pb := pwI_bd h2 n.toNat (by omega)
  have B : ∀ a b, 0 ≤ pcC p n (zG S (D + 36)) a b ∧ pcC p n (zG S (D + 36)) a b < 100000 := fun a b => by
    have := pcC_bd (a := a) (b := b) (T := zG S (D + 36)) h2 hn
    omega
  have P : ∀ {x y : Int} {Q' : Vl → Hp → Prop}, 0 ≤ x ∧ x < 100000 → 0 ≤ y ∧ y < 100000 → Q' (0, pcC p n (zG S (D + 36)) x y) S → Ev (d + 1) 219 [(2, D), (0, x), (0, y), (2, zG S D 51)] S Q' := fun hx hy hQ => by
    rw [h.x_first.1]
    exact m_product h.1 hp h2 hN hn hx hy h.x_first.2.1 h.x_first.2.2 t hQ
  unfold fpC at H
  apply w_Model_powerClass_0
  refine ⟨h.1, h.1, P ha ha ⟨_, rfl, h.1, fun q2 => ⟨h.1, fun q3 => ⟨h.1, h.1, P (B _ _) (B _ _) ⟨_, rfl, h.1, fun q5 => ⟨h.1, h.1, P (B _ _) ha ⟨_, rfl, h.1, h.1, P (B _ _) (B _ _) ⟨_, rfl, ?_⟩⟩⟩, fun q5 => ⟨h.1, h.1, P (B _ _) ha ⟨_, rfl, ?_⟩⟩⟩⟩, fun q3 => ⟨h.1, h.1, P (B _ _) ha ⟨_, rfl, ?_⟩⟩⟩, fun q2 => ?_⟩⟩
  · rw [hp] at q2 q3 q5
    rw [if_neg q2, if_neg q3, if_neg q5] at H
    exact H
  · rw [hp] at q2 q3 q5
    rw [if_neg q2, if_neg q3, if_pos (Decidable.not_not.mp q5)] at H
    exact H
  · rw [hp] at q2 q3
    rw [if_neg q2, if_pos (Decidable.not_not.mp q3)] at H
    exact H
  · rw [hp] at q2
    rw [if_pos (Decidable.not_not.mp q2)] at H
    exact H
/-- the logarithm to the base p -/
def lgF (p : Int) : Nat → Int → Int
  | 0, _ => 0
  | k + 1, v => if v ≤ 1 then 0 else 1 + lgF p k (v / p)
theorem m_logLoop {d : Nat} {D p : Int} {S : Hp} {Q : Vl → Hp → Prop} (hK : zK S D = 12) (hp : zG S D 0 = p) (h2 : 2 ≤ p ∧ p ≤ 7) : ∀ (k : Nat) (v e : Int), v ≤ 2 ^ k → 0 ≤ e → e + k ≤ 100 → v ≤ 100000 → Q (0, e + lgF p k v) S → At d 240 c240_4 [(0, (2, D)), (2, (0, e)), (3, (0, v))] [] S Q
  | 0, v, e, hv, e0, e1, _, H => by
    apply w_Model_logOf_4
    refine ⟨fun _ => ?_, fun z => absurd (show v ≤ 1 from hv) z⟩
    rw [show e = e + lgF p 0 v from (Int.add_zero e).symm]
    exact H
  | k + 1, v, e, hv, e0, e1, hv9, H => by
    apply w_Model_logOf_4
    refine ⟨fun z => ?_, fun z => ?_⟩
    · rw [show e = e + lgF p (k + 1) v by show e = e + (if v ≤ 1 then 0 else 1 + lgF p k (v / p)); rw [if_pos z]; omega]
      exact H
    · rintro _ rfl
      have q : v / p ≤ v / 2 := by
        have hp7 : p = 2 ∨ p = 3 ∨ p = 4 ∨ p = 5 ∨ p = 6 ∨ p = 7 := by omega
        rcases hp7 with rfl | rfl | rfl | rfl | rfl | rfl <;> omega
      have q0 : 0 ≤ v / p := Int.ediv_nonneg (by omega) (by omega)
      have pw : (2 : Int) ^ (k + 1) = 2 ^ k * 2 := Int.pow_succ 2 k
      rw [hp, show v.tdiv p = v / p from Int.tdiv_eq_ediv_of_nonneg (by omega), w32_id (x := v / p) (by omega) (by omega), w32_id (x := e + 1) (by omega) (by omega)]
      refine ⟨hK, by omega, ?_⟩
      rintro _ rfl
      refine m_logLoop hK hp h2 k _ _ (by omega) (by omega) (by omega) (by omega) ?_
      rw [show e + 1 + lgF p k (v / p) = e + lgF p (k + 1) v by show e + 1 + lgF p k (v / p) = e + (if v ≤ 1 then 0 else 1 + lgF p k (v / p)); rw [if_neg z]; omega]
      exact H
theorem m_logOf {d : Nat} {D p v : Int} {S : Hp} {Q : Vl → Hp → Prop} (hK : zK S D = 12) (hp : zG S D 0 = p) (h2 : 2 ≤ p ∧ p ≤ 7) (hv : v ≤ 4096) (H : Q (0, lgF p 12 v) S) : Ev d 240 [(2, D), (0, v)] S Q := by
  apply w_Model_logOf_0
  refine m_logLoop hK hp h2 12 v 0 (by have : (2 : Int) ^ 12 = 4096 := by decide
                                       omega) (by omega) (by omega) (by omega) ?_
  rw [show (0 : Int) + lgF p 12 v = lgF p 12 v from Int.zero_add _]
  exact H
