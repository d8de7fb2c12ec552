/-! The class's reader: atoms and powers. -/
/-- what a call leaves that reads a part -/
def OUT (R : Int) (T : Int → Int) (n p lo h : Int) (S : Hp) (r : Int × Int × Int × (Int → Int)) (Q : Vl → Hp → Prop) : Prop := ∀ S', Md (fun x => x = R ∨ (lo ≤ x ∧ x ≤ R + 19)) S S' → RS S' R T n p r.2.1 r.2.2.1 → (r.2.2.1 < 0 → h < 0) → (¬ r.1 = 0 → RO S' lo p r.2.2.1 r.2.2.2) → Q (0, r.1) S'
def SPS (R : Int) (T : Int → Int) (n p : Int) (k : Nat) : Prop := ∀ (d : Nat) (S : Hp) (i h : Int) (Q : Vl → Hp → Prop), RS S R T n p i h → OUT R T n p (R + 3 + 3 * (4 - (k : Int))) h S (rdSm T n p (brk T n p k) i h) Q → Ev (d + 4 * k + 5) 88 [(2, R), (0, 4 - (k : Int))] S Q
theorem RDW.row {S : Hp} {R a : Int} (h : RDW S R) (ha : R + 3 ≤ a ∧ a ≤ R + 19) : zK S a = 101 ∧ zL S a = 49 := by
  have := h.2.2.2.2.2.2.2.2 (a - R - 3) (by omega) (by omega)
  rw [show R + 3 + (a - R - 3) = a by omega] at this
  exact this
theorem s_readAtom {d k : Nat} {R n p i h : Int} {T : Int → Int} {S : Hp} {Q : Vl → Hp → Prop} (h2 : 2 ≤ p ∧ p ≤ 7) (hk : k ≤ 4) (NX : ∀ k', k = k' + 1 → SPS R T n p k') (r : RS S R T n p i h) (tv : ∀ i, tkK T n i = 1 → 0 ≤ tkV T n i) (H : OUT R T n p (R + 5 + 3 * (4 - (k : Int))) h S (rdAt T n p (brk T n p k) i h) Q) : Ev (d + 4 * k + 2) 91 [(2, R), (0, 4 - (k : Int))] S Q := by
  have rr := r
  obtain ⟨a1, a2, a3, a4, a5, a6, a7, a8, a9, a10, a11⟩ := r
  have hr := a1.row (a := R + 5 + 3 * (4 - (k : Int))) (by omega)
  have hi3 := a1.2.2.2.2.2.2.2.1 (3 * (4 - (k : Int)) + 2) (by omega) (by omega)
  rw [show R + 3 + (3 * (4 - (k : Int)) + 2) = R + 5 + 3 * (4 - (k : Int)) by omega] at hi3
  have fin : ∀ S1 r', rdAt T n p (brk T n p k) i h = r' → ¬ r'.1 = 0 → r'.1 = 1 → ∀ j h', RS S1 R T n p j h' → tkX T n j = r'.2.1 → h' = r'.2.2.1 → (r'.2.2.1 < 0 → h < 0) → Md (fun x => x = R ∨ (R + 5 + 3 * (4 - (k : Int)) ≤ x ∧ x ≤ R + 19)) S S1 → RO S1 (R + 5 + 3 * (4 - (k : Int))) p r'.2.2.1 r'.2.2.2 → At (d + 4 * k + 2) 91 c91_143 [(0, (2, R))] [] S1 Q := fun S1 r' e1 e2 e3 j h' s1 e4 e5 nh m1 o1 => by
    rw [e1] at H
    apply w_Reader_readAtom_143
    refine ⟨s1.1.1, s1.step (fun S2 m2 s2 => ⟨rfl, by unfold in01; omega, ?_⟩)⟩
    rw [e4, e5] at s2
    have := H S2 (m1.tr (m2.wide (fun x hx => Or.inl hx))) s2 nh (fun _ => o1.keep m2 (by omega))
    rw [e3] at this
    exact this
  apply w_Reader_readAtom_0
  rw [a1.2.2.1, a1.2.2.2.2.2.2.1.1, a1.2.2.2.2.2.2.1.2, w32_id (x := 3 * (4 - (k : Int))) (by omega) (by omega), w32_id (x := 3 * (4 - (k : Int)) + 2) (by omega) (by omega), hi3, a8, a6]
  refine ⟨a1.1, ⟨rfl, by omega, by omega⟩, ?_⟩
  rintro _ rfl
  refine ⟨a1.1, fun q40 => ⟨a1.1, fun _ => a1.1, fun qxy => ?_, fun qxy => ⟨a1.1, fun q1 => ⟨by unfold in01; omega, ?_⟩, fun q1 => ⟨a1.1, a1.1, by omega, ?_⟩⟩⟩, fun q40 => ⟨fun kl => ⟨a1.1, ?_⟩, fun kl => ⟨by unfold in01; omega, ?_⟩⟩⟩
  · apply w_Reader_readAtom_91
    refine s_setNumber hr.1 hr.2 (fun S1 m1 v1 => ⟨rfl, ?_⟩)
    have s1 := rr.keep m1 (by omega) (by omega) (by omega)
    rw [s1.2.2.2.2.2.2.2.1, m1.K (R + 5 + 3 * (4 - (k : Int))), m1.L (R + 5 + 3 * (4 - (k : Int))), hr.1, hr.2]
    refine ⟨s1.1.1, ?_⟩
    rintro _ rfl
    refine ⟨⟨rfl, by split <;> omega, by split <;> omega⟩, ?_⟩
    rintro _ rfl
    generalize hc : (if ¬ tkK T n i = 120 then (7 : Int) else 1) = c
    have e : rdAt T n p (brk T n p k) i h = (1, tkX T n i, h, fun x => if x = c then 1 else 0) := by
      unfold rdAt
      rw [if_neg q40]
      by_cases q : tkK T n i = 120
      · rw [if_pos q, ← hc, if_neg (fun z => z q)]
      · have q' : tkK T n i = 121 := by
          rcases qxy with y | y
          · exact absurd y q
          · exact Decidable.not_not.mp y
        rw [if_neg q, if_pos q', ← hc, if_pos q]
    refine fin _ _ e (show ¬ (1 : Int) = 0 by decide) rfl i h (s1.keep (Md.zS _ _ _ _) (by omega) (by omega) (by omega)) rfl rfl (fun z => z) ((m1.tr (Md.zS _ _ _ _)).wide (fun x hx => by omega)) (fun x x0 x1 => ?_)
    rw [zG_zS]
    (try dsimp only)
    by_cases qx : x = c
    · rw [if_pos ⟨rfl, qx⟩, if_pos qx]
      omega
    · rw [if_neg (fun z => qx z.2), if_neg qx, v1 x x0 x1]
      have : (if x = 0 then (0 : Int) else 0) = 0 := by split <;> rfl
      rw [this]
      omega
  · have e : rdAt T n p (brk T n p k) i h = (0, i, h, fun _ => 0) := by
      unfold rdAt
      rw [if_neg q40, if_neg (fun z => qxy (Or.inl z)), if_neg (fun z => qxy (Or.inr (fun y => y z))), if_neg q1]
    rw [e] at H
    exact H S (Md.refl _ _) rr (fun z => z) (fun z => absurd rfl z)
  · have q1 := Decidable.not_not.mp q1
    have e : rdAt T n p (brk T n p k) i h = (1, tkX T n i, h, fun x => if x = 0 then tkV T n i % p else 0) := by
      unfold rdAt
      rw [if_neg q40, if_neg (fun z => qxy (Or.inl z)), if_neg (fun z => qxy (Or.inr (fun y => y z))), if_pos q1]
    rw [a10 q1, tm_nn (tv i q1)]
    refine s_setNumber hr.1 hr.2 (fun S1 m1 v1 => ⟨rfl, ?_⟩)
    refine fin S1 _ e (show ¬ (1 : Int) = 0 by decide) rfl i h (rr.keep m1 (by omega) (by omega) (by omega)) rfl rfl (fun z => z) (m1.wide (fun x hx => by omega)) (fun x x0 x1 => ?_)
    rw [v1 x x0 x1]
    refine ⟨?_, fun _ => rfl⟩
    have pb : 0 ≤ tkV T n i % p ∧ tkV T n i % p < p := ⟨em_ge (by omega), em_lt (by omega)⟩
    split <;> omega
  · have q40 := Decidable.not_not.mp q40
    match k, hk, NX, fin, H, hr, hi3, kl with
    | 0, _, _, _, _, _, _, kl => exact absurd kl (by omega)
    | k' + 1, hk, NX, fin, H, hr, hi3, kl =>
      refine rr.step (fun S1 m1 s1 => ⟨rfl, s1.1.1, ?_⟩)
      rw [w32_id (by omega) (by omega), show 4 - ((k' + 1 : Nat) : Int) + 1 = 4 - (k' : Int) by omega, show d + 4 * (k' + 1) + 1 = d + 4 * k' + 5 by omega]
      refine NX k' rfl d S1 (tkX T n i) h _ s1 (fun S2 m2 s2 n2 o2 => ⟨_, rfl, fun _ => s2.1.1, ?_⟩)
      have M2 : Md (fun x => x = R ∨ (R + 5 + 3 * (4 - ((k' + 1 : Nat) : Int)) ≤ x ∧ x ≤ R + 19)) S S2 := (m1.wide (fun x hx => Or.inl hx)).tr (m2.wide (fun x hx => by omega))
      have b : brk T n p (k' + 1) i h = if (rdSm T n p (brk T n p k') (tkX T n i) h).1 = 0 ∨ ¬ tkK T n (rdSm T n p (brk T n p k') (tkX T n i) h).2.1 = 41 then (0, (rdSm T n p (brk T n p k') (tkX T n i) h).2.1, (rdSm T n p (brk T n p k') (tkX T n i) h).2.2.1, fun _ => 0) else (1, tkX T n (rdSm T n p (brk T n p k') (tkX T n i) h).2.1, (rdSm T n p (brk T n p k') (tkX T n i) h).2.2.1, (rdSm T n p (brk T n p k') (tkX T n i) h).2.2.2) := rfl
      have e : rdAt T n p (brk T n p (k' + 1)) i h = brk T n p (k' + 1) i h := if_pos q40
      rw [b] at e
      generalize rdSm T n p (brk T n p k') (tkX T n i) h = t at e s2 n2 o2
      rw [s2.2.2.2.2.2.2.2.1]
      refine ⟨fun z => ⟨by unfold in01; omega, ?_⟩, fun z => ⟨s2.1.1, ?_⟩⟩
      · rw [if_pos z] at e
        rw [e] at H
        exact H S2 M2 s2 n2 (fun y => absurd rfl y)
      · rw [if_neg z] at e
        have o2 := o2 (fun y => z (Or.inl y))
        have hi4 := s2.1.2.2.2.2.2.2.2.1 (3 * (4 - ((k' + 1 : Nat) : Int)) + 3) (by omega) (by omega)
        rw [show R + 3 + (3 * (4 - ((k' + 1 : Nat) : Int)) + 3) = R + 3 + 3 * (4 - (k' : Int)) by omega] at hi4
        have hr4 := s2.1.row (a := R + 3 + 3 * (4 - (k' : Int))) (by omega)
        have hr5 := s2.1.row (a := R + 5 + 3 * (4 - ((k' + 1 : Nat) : Int))) (by omega)
        rw [s2.1.2.2.1, s2.1.2.2.2.2.2.2.1.1, s2.1.2.2.2.2.2.2.1.2, w32_id (x := 3 * (4 - ((k' + 1 : Nat) : Int)) + 3) (by omega) (by omega), hi4, hr4.1, hr4.2, hr5.1, hr5.2]
        refine ⟨⟨rfl, by omega, by omega⟩, by decide, ?_⟩
        rintro _ rfl
        have m3 := Md_zC S2 (R + 3 + 3 * (4 - (k' : Int))) 0 (R + 5 + 3 * (4 - ((k' + 1 : Nat) : Int))) 0 49
        rw [show d + 4 * k' + 5 + 1 = d + 4 * (k' + 1) + 2 by omega]
        refine fin _ _ e (show ¬ (1 : Int) = 0 by decide) rfl t.2.1 t.2.2.1 (s2.keep m3 (by omega) (by omega) (by omega)) rfl rfl n2 (M2.tr (m3.wide (fun x hx => by omega))) (fun x x0 x1 => ?_)
        rw [zG_zC, if_pos (by omega), show 0 + (x - 0) = x by omega]
        exact o2 x x0 x1
  · have q40 := Decidable.not_not.mp q40
    have k0 : k = 0 := by omega
    subst k0
    have e : rdAt T n p (brk T n p 0) i h = (0, i, h, fun _ => 0) := if_pos q40
    rw [e] at H
    exact H S (Md.refl _ _) rr (fun z => z) (fun z => absurd rfl z)
