/-! The model: conductor, genus, table. -/
theorem PCH.pre {p n : Int} {C : Int → Int → Int} {fK : Int → Int → Int → Int → Int} {dK : Int → Int → Int} {L k : Int} (h : PCH p n C fK dK L) (hk : k ≤ L) : PCH p n C fK dK k := ⟨h.1, h.2.1, fun i i0 i1 => h.2.2 i i0 (by omega)⟩
theorem RG.m {S S' : Hp} {D c p n L k : Int} {F : Int → Int} {fK : Int → Int → Int → Int → Int} {dK : Int → Int → Int} (mc : MC S D p n F) (n0 : n ≠ 0) (hc : 0 ≤ c ∧ c < p) (r : RG S' D c p n (cfF (mvC p c F) n) L fK dK) (hk : 0 ≤ k ∧ k ≤ L) : k < 19 ∧ RDC n (fK k) (dK k) ∧ ∀ i j, 0 ≤ i → i < n → 0 ≤ j → j < n → okE p n (dK k) (fK k) (mbL p n (cfF (mvC p c F) n) (fK k) i j) := by
  obtain ⟨-, -, -, -, -, -, -, -, h9, -⟩ := mc
  have := h9 n0 c hc.1 hc.2 fK dK k hk.1 (by have := r.2.2.2.1; omega) (r.2.2.2.2.1.pre hk.2)
  exact ⟨this.1, this.2.1, this.2.2.1⟩
/-- the deepest number of the basis -/
def dpN (n : Int) (fig : Int → Int → Int → Int) : Nat → Int
  | 0 => 0
  | e + 1 => if fig ((e : Int) / 84) ((e : Int) % 84 / 21) ((e : Int) % 21) = 0 ∨ (e : Int) % 21 ≤ dpN n fig e then dpN n fig e else (e : Int) % 21
theorem dpN_bd {n : Int} {fig : Int → Int → Int → Int} : ∀ (e : Nat), 0 ≤ dpN n fig e ∧ dpN n fig e ≤ 20
  | 0 => ⟨Int.le_refl 0, by show (0 : Int) ≤ 20; decide⟩
  | e + 1 => by
    have := dpN_bd (n := n) (fig := fig) e
    show 0 ≤ (if fig ((e : Int) / 84) ((e : Int) % 84 / 21) ((e : Int) % 21) = 0 ∨ (e : Int) % 21 ≤ dpN n fig e then dpN n fig e else (e : Int) % 21) ∧ (if fig ((e : Int) / 84) ((e : Int) % 84 / 21) ((e : Int) % 21) = 0 ∨ (e : Int) % 21 ≤ dpN n fig e then dpN n fig e else (e : Int) % 21) ≤ 20
    split <;> omega
theorem m_conductor {d : Nat} {D p n c w : Int} {S : Hp} {F : Int → Int} {Q : Vl → Hp → Prop} (h : MC S D p n F) (H0 : n = 0 → Q (0, -2) S) (H1 : n ≠ 0 → ¬ (0 ≤ c ∧ c < p) → Q (0, -1) S) (H2 : n ≠ 0 → 0 ≤ c ∧ c < p → ∀ S' L fK dK, opR D S S' → MC S' D p n F → RG S' D c p n (cfF (mvC p c F) n) L fK dK → Q (0, if w = 0 then dpN n (fK L) (84 * n).toNat else if w = 1 then lsF n (dK L) else -1) S') : Ev (d + 6) 245 [(2, D), (0, c), (0, w)] S Q := by
  apply w_Model_conductor_0
  refine ⟨h.1.1, m_wrongRing h (fun n0 => ⟨_, rfl, fun z => by omega, fun _ => H0 n0⟩) (fun n0 hc => ⟨_, rfl, fun z => by omega, fun _ => H1 n0 hc⟩) (fun n0 hc S' L fK dK o mc v r => ⟨fun z => absurd ⟨Int.le_refl 0, r.2.2.1⟩ z, fun _ => ⟨_, rfl, fun _ => ?_, fun y => absurd rfl y⟩⟩)⟩
  have hn : 2 ≤ n ∧ n ≤ 4 := by have := mc.2.2.2.2.1; omega
  have L9 := r.2.2.2.1
  have L0 := r.2.2.1
  have HH := H2 n0 hc S' L fK dK o mc r
  have rb := r.b ⟨L0, Int.le_refl L⟩
  refine m_in ⟨_, rfl, fun y => ⟨fun w1 => ?_, fun w1 => ⟨mc.1.1, mc.1.1, ?_⟩⟩, fun y => ?_⟩
  · have hw := i1 y
    rw [if_pos (by omega)] at HH
    refine loopU (α := Int) (P := fun e v => At (d + 6) 245 c245_44 [(0, (2, D)), (4, (0, v)), (5, (0, e))] [] S' Q) (I := fun e v => 0 ≤ e ∧ v = dpN n (fK L) e.toNat) (84 * n) ?_ ?_ 0 0 (by omega) ⟨by omega, rfl⟩
    · rintro e v he ⟨e0, rfl⟩ hk
      have b := dpN_bd (n := n) (fig := fK L) e.toNat
      have dv := (rb.1.1 (e / 84) (e % 84 / 21) (e % 21) (by omega) (by omega) (by omega) (by omega) (by omega) (by omega)).1
      rw [show 84 * (4 * L + e / 84) + 21 * (e % 84 / 21) + e % 21 = 336 * L + e by omega] at dv
      apply w_Model_conductor_44
      rw [mc.2.2.2.1, r.2.1, mc.1.x_digits.1, mc.1.x_digits.2.1, mc.1.x_digits.2.2, w32_id (x := 84 * n) (by omega) (by omega), w32_id (x := 336 * L) (by omega) (by omega), w32_id (x := 336 * L + e) (by omega) (by omega), dv, tm_nn e0, tm_nn (by omega), show e % 84 % 21 = e % 21 by omega]
      refine ⟨mc.1.1, fun z => by omega, fun _ => ⟨by decide, by decide, ?_⟩⟩
      rintro _ rfl
      refine ⟨mc.1.1, mc.1.1, ⟨rfl, by omega, by omega⟩, ?_⟩
      rintro _ rfl _ rfl
      rw [w32_id (by omega) (by omega)]
      refine hk _ ⟨by omega, ?_⟩
      rw [show (e + 1).toNat = e.toNat + 1 by omega]
      show _ = if fK L (((e.toNat : Nat) : Int) / 84) (((e.toNat : Nat) : Int) % 84 / 21) (((e.toNat : Nat) : Int) % 21) = 0 ∨ ((e.toNat : Nat) : Int) % 21 ≤ dpN n (fK L) e.toNat then dpN n (fK L) e.toNat else ((e.toNat : Nat) : Int) % 21
      rw [show ((e.toNat : Nat) : Int) = e by omega]
    · rintro v ⟨-, rfl⟩
      apply w_Model_conductor_44
      rw [mc.2.2.2.1, w32_id (x := 84 * n) (by omega) (by omega)]
      exact ⟨mc.1.1, fun _ => HH, fun z => absurd (Int.le_refl _) z⟩
  · have w1 := Decidable.not_not.mp w1
    rw [if_neg (by omega), if_pos w1] at HH
    rw [r.2.1]
    exact m_lostOf mc.1 mc.2.2.2.1 hn (by omega) rb.1 rb.2 ⟨_, rfl, HH⟩
  · have hw := i2 y
    rw [if_neg (by omega), if_neg (by omega)] at HH
    exact HH
theorem m_genus {d : Nat} {D p n w g : Int} {S : Hp} {F : Int → Int} {Q : Vl → Hp → Prop} (h : MC S D p n F) (hg : zG S D 2 = g) (g0 : 0 ≤ g ∧ g ≤ 12) (H0 : n = 0 → Q (0, -2) S) (H1 : n ≠ 0 → ¬ (0 ≤ w ∧ w ≤ 2) → Q (0, -1) S) (H2 : n ≠ 0 → w = 0 → Q (0, ((g - 1) * (g - 2)).tdiv 2) S) (H3 : n ≠ 0 → w = 1 ∨ w = 2 → ∀ S' f, opR D S S' → MC S' D p n F → ALL p n F (fun c L _ dK => f c = lsF n (dK L)) → Q (0, if w = 1 then sm p.toNat f else ((g - 1) * (g - 2)).tdiv 2 - sm p.toNat f) S') : Ev (d + 5) 246 [(2, D), (0, w)] S Q := by
  have pb := isPr_b h.2.2.1
  have gq : -11 ≤ (g - 1) * (g - 2) ∧ (g - 1) * (g - 2) ≤ 110 := by
    have : g = 0 ∨ g = 1 ∨ g = 2 ∨ g = 3 ∨ g = 4 ∨ g = 5 ∨ g = 6 ∨ g = 7 ∨ g = 8 ∨ g = 9 ∨ g = 10 ∨ g = 11 ∨ g = 12 := by omega
    rcases this with rfl | rfl | rfl | rfl | rfl | rfl | rfl | rfl | rfl | rfl | rfl | rfl | rfl <;> decide
  have gt : -11 ≤ ((g - 1) * (g - 2)).tdiv 2 ∧ ((g - 1) * (g - 2)).tdiv 2 ≤ 110 := by
    have : g = 0 ∨ g = 1 ∨ g = 2 ∨ g = 3 ∨ g = 4 ∨ g = 5 ∨ g = 6 ∨ g = 7 ∨ g = 8 ∨ g = 9 ∨ g = 10 ∨ g = 11 ∨ g = 12 := by omega
    rcases this with rfl | rfl | rfl | rfl | rfl | rfl | rfl | rfl | rfl | rfl | rfl | rfl | rfl <;> decide
  -- the end
  have fin : ∀ S' v, MC S' D p n F → zG S' D 2 = g → 0 ≤ v → v ≤ 1000 → (w = 0 → Q (0, ((g - 1) * (g - 2)).tdiv 2) S') → (w ≠ 0 → Q (0, if w = 1 then v else ((g - 1) * (g - 2)).tdiv 2 - v) S') → At (d + 5) 246 c246_59 [(0, (2, D)), (1, (0, w)), (2, (0, v))] [] S' Q := fun S' v mc hg' v0 v1 q0 q1 => by
    apply w_Model_genus_59
    rw [hg', w32_id (x := g - 1) (by omega) (by omega), w32_id (x := g - 2) (by omega) (by omega), w32_id (x := (g - 1) * (g - 2)) (by omega) (by omega), w32_id (x := ((g - 1) * (g - 2)).tdiv 2) (by omega) (by omega)]
    refine ⟨mc.1.1, mc.1.1, by decide, ?_⟩
    rintro _ rfl
    refine ⟨fun z => ⟨fun y => ?_, fun y => ?_⟩, fun z => q0 (Decidable.not_not.mp z)⟩
    · have := q1 z
      rw [if_neg y] at this
      rw [w32_id (by omega) (by omega)]
      exact this
    · have := q1 z
      rw [if_pos (Decidable.not_not.mp y)] at this
      exact this
  apply w_Model_genus_0
  rw [h.2.2.2.1]
  refine ⟨h.1.1, fun n0 => m_in ⟨_, rfl, fun y => ?_, fun y => H1 n0 (i2 y)⟩, fun n0 => H0 (by omega)⟩
  have hw := i1 y
  by_cases w0 : w = 0
  · apply w_Model_genus_25
    refine ⟨h.1.1, fun _ => fin S 0 h hg (by omega) (by omega) (fun _ => H2 n0 w0) (fun z => absurd w0 z), fun z => absurd (Or.inr (by omega)) z⟩
  · have H3 := H3 n0 (by omega)
    have hn : 2 ≤ n ∧ n ≤ 4 := by have := h.2.2.2.2.1; omega
    refine loopU3 (α := Int → Int) (β := Int) (γ := Hp) (P := fun c _ v S' => At (d + 5) 246 c246_25 [(0, (2, D)), (1, (0, w)), (2, (0, v)), (3, (0, c))] [] S' Q) (I := fun c f v S' => 0 ≤ c ∧ v = sm c.toNat f ∧ 0 ≤ v ∧ v ≤ 80 * c ∧ opR D S S' ∧ MC S' D p n F ∧ ∀ e, 0 ≤ e → e < c → ∃ L fK dK, 0 ≤ L ∧ L ≤ 19 ∧ PCH p n (cfF (mvC p e F) n) fK dK L ∧ CLO p n (cfF (mvC p e F) n) fK dK L ∧ f e = lsF n (dK L)) p ?_ ?_ 0 (fun _ => 0) 0 S (by omega) ⟨by omega, rfl, by omega, by omega, opR.refl, h, fun e e0 e1 => by omega⟩
    · rintro c f v S1 hc ⟨c0, hv, v0, v1, o1, mc1, al⟩ hk
      apply w_Model_genus_25
      rw [mc1.2.1]
      refine ⟨mc1.1.1, fun z => absurd z (by omega), fun _ => ⟨mc1.1.1, m_opensM mc1 n0 ⟨c0, hc⟩ (fun S2 L fK dK o2 mc2 v2 r => ⟨rfl, mc2.1.1, mc2.1.1, ?_⟩)⟩⟩
      have rb := r.b ⟨r.2.2.1, Int.le_refl L⟩
      have L9 := r.2.2.2.1
      have L0 := r.2.2.1
      have lb := sm_bd (n := n.toNat) (f := dK L) (B := 20) (fun l l0 l1 => rb.2 l l0 (by omega))
      have lb : 0 ≤ lsF n (dK L) ∧ lsF n (dK L) ≤ 80 := by
        unfold lsF
        omega
      rw [r.2.1]
      refine m_lostOf mc2.1 mc2.2.2.2.1 hn (by omega) rb.1 rb.2 ⟨_, rfl, ?_⟩
      rintro _ rfl _ rfl
      rw [w32_id (by omega) (by omega), w32_id (by omega) (by omega)]
      refine hk (fun e => if e = c then lsF n (dK L) else f e) _ S2 ⟨by omega, ?_, by omega, by omega, o1.tr o2, mc2, fun e e0 e1 => ?_⟩
      · rw [show (c + 1).toNat = c.toNat + 1 by omega, sm_succ, show ((c.toNat : Nat) : Int) = c by omega, if_pos rfl, hv]
        congr 1
        exact sm_congr (fun i i0 i1 => by rw [if_neg (by omega)])
      · by_cases q : e = c
        · rw [q]
          exact ⟨L, fK, dK, r.2.2.1, r.2.2.2.1, r.2.2.2.2.1, r.2.2.2.2.2.1, if_pos rfl⟩
        · obtain ⟨L', fK', dK', a1, a2, a3, a4, a5⟩ := al e e0 (by omega)
          exact ⟨L', fK', dK', a1, a2, a3, a4, by (try dsimp only); rw [if_neg q]; exact a5⟩
    · rintro f v S1 ⟨-, hv, v0, v1, o1, mc1, al⟩
      apply w_Model_genus_25
      rw [mc1.2.1]
      refine ⟨mc1.1.1, fun _ => fin S1 v mc1 ((o1.2 2 (by omega) (by omega) (by omega)).trans hg) v0 (by omega) (fun z => absurd z w0) (fun _ => ?_), fun z => absurd (Or.inl (Int.le_refl p)) z⟩
      rw [hv]
      exact H3 S1 f o1 mc1 al
