/-! What keeps the radical is spanned by what gains. -/
theorem mul_ind {O E : Type} [I : Lean.Grind.CommRing O] [J : Lean.Grind.CommRing E] {p n : Int} {T1 T2 : Int → Int} {φ : (Int → Int) → O} {ι : O → E} {y : E} {c : Int → O} {B : Int → E} (v : RAB p n T1 T2 φ ι y c B) {top g : Int → Int} (gn : GN p n T1 T2 top g) {Q : E → Prop} (q0 : Q 0) (qa : ∀ a b, Q a → Q b → Q (a + b)) (qs : ∀ x a, Q a → Q (ι x * a)) (qu : ∀ j, 0 ≤ j → j < n → 0 ≤ g j → Q (vC p φ ι n.toNat B (g j))) (qn : ∀ j, 0 ≤ j → j < n → g j < 0 → Q (ι (φ t1) * B j)) : ∀ r, MUL (ι (φ t1)) (ι (φ t1) ^ 20) (LT ι n.toNat B) r → Q r := by
  have kp := kp_mul v gn.1
  obtain ⟨⟨h, hp, hn, A⟩, lat, n4, ab, vz, nil⟩ := v
  have claim : ∀ (m : Nat), (m : Int) ≤ n → ∀ s : Int → O, MUL (ι (φ t1)) (ι (φ t1) ^ 20) (LT ι n.toNat B) (su n.toNat (fun l => ι (s l) * B l)) → (∀ l, (m : Int) ≤ l → l < n → s l = 0) → Q (su n.toNat (fun l => ι (s l) * B l)) := fun m => by
    induction m with
    | zero =>
      intro _ s hr hz
      rw [su_zeros (fun l l0 l1 => by rw [hz l (by omega) (by omega), A.i0]; grind)]
      exact q0
    | succ m ih =>
      intro hm s hr hz
      have gm := gn.2 m (by omega) (by omega)
      rw [show ((m : Int)).toNat = m by omega] at gm
      have w := (pwI_le hp.two.1 m 0).1
      by_cases qg : 0 ≤ g m
      · have gi : pwI p m ≤ g m ∧ g m < 2 * pwI p m ∧ kpR p n T1 T2 (isN p n T1) top (g m) := by
          rcases gm with f | f
          · omega
          · exact ⟨f.1, f.2.1, f.2.2.1⟩
        have dg := code_dg (j := m) (g := g m) hp.two (by omega) (by rw [show ((m : Int)).toNat = m by omega]; exact gi.1) (by rw [show ((m : Int)).toNat = m by omega]; exact gi.2.1)
        have rt := (kp (g m)).mp gi.2.2
        have e1 := RAB.vsub (p := p) (φ := φ) (B := B) A s (s m) (g m)
        have r' : MUL (ι (φ t1)) (ι (φ t1) ^ 20) (LT ι n.toNat B) (su n.toNat (fun l => ι (s l - s m * φ (nC (dgt p (g m) l))) * B l)) := by
          rw [← e1]
          have := hr.add lat n4 (rt.sca lat (c := ι (- s m)) ⟨_, rfl⟩)
          rw [A.ineg, show -ι (s m) * vC p φ ι n.toNat B (g m) = - (ι (s m) * vC p φ ι n.toNat B (g m)) by grind] at this
          exact this
        have q' := ih (by omega) (fun l => s l - s m * φ (nC (dgt p (g m) l))) r' (fun l l0 l1 => by
          (try dsimp only)
          by_cases q2 : l = m
          · rw [q2, dg.1, h.1.nC_1]
            grind
          · rw [dg.2 l (by omega), hz l (by omega) l1, h.1.nC_0]
            grind)
        (try dsimp only at q')
        rw [← e1] at q'
        have := qa _ _ q' (qs (s m) _ (qu m (by omega) (by omega) qg))
        rw [show su n.toNat (fun l => ι (s l) * B l) + - (ι (s m) * vC p φ ι n.toNat B (g m)) + ι (s m) * vC p φ ι n.toNat B (g m) = su n.toNat (fun l => ι (s l) * B l) by grind] at this
        exact this
      · obtain ⟨d, b, db, es⟩ := h.split (s m)
        have d0 : d = 0 := Classical.byContradiction (fun q => by
          have nd : ¬ p ∣ d := fun z => by
            obtain ⟨w, hw⟩ := z
            have h2 := hp.two
            rcases (show w ≤ 0 ∨ 1 ≤ w by omega) with a | a
            · have := Int.mul_le_mul_of_nonneg_left a (show 0 ≤ p by omega)
              omega
            · have := Int.mul_le_mul_of_nonneg_left a (show 0 ≤ p by omega)
              omega
          obtain ⟨bi, a, z, a0, a1, lz, ea⟩ := lead (B := B) h hp hn A (by omega) (by omega) nd es (fun l l0 l1 => ⟨0, by rw [hz l (by omega) l1]; grind⟩)
          have ra : MUL (ι (φ t1)) (ι (φ t1) ^ 20) (LT ι n.toNat B) (vC p φ ι n.toNat B a) := by
            have r1 := hr.sca lat (c := ι (φ (nC bi))) ⟨_, rfl⟩
            have r2 := MUL.tau lat (lat.neg lz)
            have := r1.add lat n4 r2
            rw [ea, show vC p φ ι n.toNat B a + ι (φ t1) * z + ι (φ t1) * -z = vC p φ ι n.toNat B a by grind] at this
            exact this
          rw [show ((m : Int)).toNat = m by omega] at a0 a1
          rcases gm with f | f
          · exact f.2 a a0 a1 ((kp a).mpr ra)
          · omega)
        have e1 : su n.toNat (fun l => ι (s l) * B l) + - (ι b * (ι (φ t1) * B m)) = su n.toNat (fun l => ι (if l = m then 0 else s l) * B l) := by
          have : ι b * (ι (φ t1) * B m) = su n.toNat (fun l => ι (if l = m then φ t1 * b else 0) * B l) := by
            rw [su_one (m : Int) (by omega) (by omega) (fun i _ _ ni => by rw [if_neg ni, A.i0]; grind), if_pos rfl, A.2.1]
            grind
          rw [this, ← su_neg, ← su_add]
          refine su_congr fun l l0 l1 => ?_
          by_cases q2 : l = m
          · rw [if_pos q2, if_pos q2, q2, es, d0, h.1.nC_0, A.1, A.i0, A.2.1]
            grind
          · rw [if_neg q2, if_neg q2, A.i0]
            grind
        have lb : LT ι n.toNat B (B m) := LT.b A (by omega) (by omega)
        have r' : MUL (ι (φ t1)) (ι (φ t1) ^ 20) (LT ι n.toNat B) (su n.toNat (fun l => ι (if l = m then 0 else s l) * B l)) := by
          rw [← e1]
          have := hr.add lat n4 ((MUL.tau lat lb).sca lat (c := ι (- b)) ⟨_, rfl⟩)
          rw [A.ineg, show -ι b * (ι (φ t1) * B m) = - (ι b * (ι (φ t1) * B m)) by grind] at this
          exact this
        have q' := ih (by omega) (fun l => if l = m then 0 else s l) r' (fun l l0 l1 => by
          (try dsimp only)
          by_cases q2 : l = m
          · rw [if_pos q2]
          · rw [if_neg q2]
            exact hz l (by omega) l1)
        (try dsimp only at q')
        rw [← e1] at q'
        have := qa _ _ q' (qs b _ (qn m (by omega) (by omega) (by omega)))
        rw [show su n.toNat (fun l => ι (s l) * B l) + - (ι b * (ι (φ t1) * B m)) + ι b * (ι (φ t1) * B m) = su n.toNat (fun l => ι (s l) * B l) by grind] at this
        exact this
  intro r hr
  have hr' := hr
  obtain ⟨⟨⟨s, rfl⟩, -⟩, -⟩ := hr'
  exact claim n.toNat (by omega) s hr (fun l l0 l1 => by omega)
/-- the next ring is spanned by what gains, by t, and what was -/
theorem next_lt {O E : Type} [I : Lean.Grind.CommRing O] [J : Lean.Grind.CommRing E] {p n : Int} {T1 T2 : Int → Int} {φ : (Int → Int) → O} {ι : O → E} {y : E} {c : Int → O} {B B1 : Int → E} (v : RAB p n T1 T2 φ ι y c B) {top g : Int → Int} (gn : GN p n T1 T2 top g) (hu : ∀ j, 0 ≤ j → j < n → 0 ≤ g j → ι (φ t1) * B1 j = vC p φ ι n.toNat B (g j)) (hn' : ∀ j, 0 ≤ j → j < n → g j < 0 → B1 j = B j) (e : E) : MUL (ι (φ t1)) (ι (φ t1) ^ 20) (LT ι n.toNat B) (ι (φ t1) * e) ↔ LT ι n.toNat B1 e := by
  have kp := kp_mul v gn.1
  have mi := @mul_ind O E I J p n T1 T2 φ ι y c B v top g gn
  obtain ⟨⟨h, hp, hn, A⟩, lat, n4, ab, vz, nil⟩ := v
  constructor
  · intro hm
    have := mi (Q := fun r => ∃ w, LT ι n.toNat B1 w ∧ r = ι (φ t1) * w) ⟨0, LT.zero A, by grind⟩ (fun a b ⟨x, lx, ex⟩ ⟨z, lz, ez⟩ => ⟨x + z, LT.add A lx lz, by rw [ex, ez]; grind⟩) (fun x a ⟨z, lz, ez⟩ => ⟨ι x * z, LT.sca A x lz, by rw [ez]; grind⟩) (fun j j0 j1 hj => ⟨B1 j, LT.b A j0 (by omega), (hu j j0 j1 hj).symm⟩) (fun j j0 j1 hj => ⟨B1 j, LT.b A j0 (by omega), by rw [hn' j j0 j1 hj]⟩) _ hm
    obtain ⟨w, lw, ew⟩ := this
    rw [lat.2.2.2.2.2.2.1 _ _ ew]
    exact lw
  · rintro ⟨s, rfl⟩
    have nx := lat.next n4
    have one : ∀ m : Nat, (m : Int) ≤ n → MUL (ι (φ t1)) (ι (φ t1) ^ 20) (LT ι n.toNat B) (ι (φ t1) * su m (fun l => ι (s l) * B1 l)) := fun m => by
      induction m with
      | zero =>
        intro _
        exact nx.2.2.1 0 (LT.zero A)
      | succ m ih =>
        intro hm
        rw [su_succ]
        refine nx.1 _ _ (ih (by omega)) (nx.2.1 _ _ ⟨_, rfl⟩ ?_)
        by_cases q : 0 ≤ g m
        · rw [hu m (by omega) (by omega) q]
          have gm := gn.2 m (by omega) (by omega)
          rcases gm with f | f
          · omega
          · exact (kp _).mp f.2.2.1
        · rw [hn' m (by omega) (by omega) (by omega)]
          exact MUL.tau lat (LT.b A (by omega) (by omega))
    exact one n.toNat (by omega)
