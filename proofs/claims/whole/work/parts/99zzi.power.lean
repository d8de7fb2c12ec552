/-! The class's reader: powers. -/
theorem brk_01 {T : Int → Int} {n p i h : Int} : ∀ (k : Nat), (brk T n p k i h).1 = 0 ∨ (brk T n p k i h).1 = 1
  | 0 => Or.inl rfl
  | k + 1 => by
    show (if (rdSm T n p (brk T n p k) (tkX T n i) h).1 = 0 ∨ ¬ tkK T n (rdSm T n p (brk T n p k) (tkX T n i) h).2.1 = 41 then (0, (rdSm T n p (brk T n p k) (tkX T n i) h).2.1, (rdSm T n p (brk T n p k) (tkX T n i) h).2.2.1, fun _ => 0) else (1, tkX T n (rdSm T n p (brk T n p k) (tkX T n i) h).2.1, (rdSm T n p (brk T n p k) (tkX T n i) h).2.2.1, (rdSm T n p (brk T n p k) (tkX T n i) h).2.2.2) : Int × Int × Int × (Int → Int)).1 = 0 ∨ (if (rdSm T n p (brk T n p k) (tkX T n i) h).1 = 0 ∨ ¬ tkK T n (rdSm T n p (brk T n p k) (tkX T n i) h).2.1 = 41 then (0, (rdSm T n p (brk T n p k) (tkX T n i) h).2.1, (rdSm T n p (brk T n p k) (tkX T n i) h).2.2.1, fun _ => 0) else (1, tkX T n (rdSm T n p (brk T n p k) (tkX T n i) h).2.1, (rdSm T n p (brk T n p k) (tkX T n i) h).2.2.1, (rdSm T n p (brk T n p k) (tkX T n i) h).2.2.2) : Int × Int × Int × (Int → Int)).1 = 1
    split
    · exact Or.inl rfl
    · exact Or.inr rfl
theorem rdAt_01 {T : Int → Int} {n p i h : Int} {k : Nat} : (rdAt T n p (brk T n p k) i h).1 = 0 ∨ (rdAt T n p (brk T n p k) i h).1 = 1 := by
  unfold rdAt
  split
  · exact brk_01 k
  · split
    · exact Or.inr rfl
    · split
      · exact Or.inr rfl
      · split
        · exact Or.inr rfl
        · exact Or.inl rfl
theorem rsR_neg {p h g : Int} {B : Int → Int} (g0 : 0 ≤ g) : ∀ (k : Nat), (rsR p h B g k).1 < 0 → h < 0
  | 0, z => z
  | k + 1, z => rsR_neg g0 k (mlH_neg g0 z).1
theorem s_readPower {d k : Nat} {R n p i h : Int} {T : Int → Int} {S : Hp} {Q : Vl → Hp → Prop} (h2 : 2 ≤ p ∧ p ≤ 7) (hk : k ≤ 4) (NX : ∀ k', k = k' + 1 → SPS R T n p k') (r : RS S R T n p i h) (tv : ∀ i, tkK T n i = 1 → 0 ≤ tkV T n i) (H : OUT R T n p (R + 5 + 3 * (4 - (k : Int))) h S (rdPw T n p (brk T n p k) i h) Q) : Ev (d + 4 * k + 3) 90 [(2, R), (0, 4 - (k : Int))] S Q := by
  unfold rdPw at H
  have h01 := rdAt_01 (T := T) (n := n) (p := p) (i := i) (h := h) (k := k)
  apply w_Reader_readPower_0
  refine ⟨r.1.1, s_readAtom h2 hk NX r tv (fun S1 m1 s1 n1 o1 => ⟨_, rfl, fun y => ⟨s1.1.1, ?_⟩, fun y => ⟨by unfold in01; omega, ?_⟩⟩)⟩
  · generalize rdAt T n p (brk T n p k) i h = t at H h01 s1 n1 o1 y
    have o1 := o1 y
    have t1 : t.1 = 1 := by omega
    rw [s1.2.2.2.2.2.2.2.1]
    refine ⟨fun q => ⟨s1.1.1, ?_⟩, fun q => ⟨by unfold in01; omega, ?_⟩⟩
    · rw [if_neg (fun z => by rcases z with z | z; exact y z; exact z q)] at H
      have tb := tk_bd (T := T) s1.2.2.2.1
      have g0 : 0 ≤ tkW T n t.2.1 := by have := s1.2.2.2.1; omega
      rw [s1.2.2.2.2.2.2.2.2.1]
      rintro _ rfl
      refine ⟨s1.1.1, s1.step (fun S4 m4 s4 => ⟨rfl, s4.1.1, fun _ => s4.1.1, fun q4 => ⟨by unfold in01; omega, ?_⟩, fun q4 => ?_⟩)⟩
      · rw [s4.2.2.2.2.2.2.2.1] at q4
        have : ¬ tkK T n (tkX T n t.2.1) = 1 ∨ ¬ tkV T n (tkX T n t.2.1) ≤ 6 := by
          by_cases z : tkK T n (tkX T n t.2.1) = 1
          · rw [s4.2.2.2.2.2.2.2.2.2.1 z] at q4
            exact q4
          · exact Or.inl z
        rw [if_pos this] at H
        exact H S4 (m1.tr (m4.wide (fun x hx => Or.inl hx))) s4 n1 (fun z => absurd rfl z)
      · rw [s4.2.2.2.2.2.2.2.1] at q4
        have qk : tkK T n (tkX T n t.2.1) = 1 := Decidable.byContradiction (fun z => q4 (Or.inl z))
        have v9 := s4.2.2.2.2.2.2.2.2.2.1 qk
        rw [v9] at q4
        have qv : tkV T n (tkX T n t.2.1) ≤ 6 := Decidable.byContradiction (fun z => q4 (Or.inr z))
        have qv0 := tv _ qk
        rw [if_neg (fun z => by rcases z with z | z; exact z qk; exact z qv)] at H
        have w4 := s4.1
        have hi3 := w4.2.2.2.2.2.2.2.1 (3 * (4 - (k : Int)) + 2) (by omega) (by omega)
        rw [show R + 3 + (3 * (4 - (k : Int)) + 2) = R + 5 + 3 * (4 - (k : Int)) by omega] at hi3
        have hr := w4.row (a := R + 5 + 3 * (4 - (k : Int))) (by omega)
        have hr8 := w4.row (a := R + 18) (by omega)
        rw [w4.2.2.1, w4.2.2.2.2.2.2.1.1, w4.2.2.2.2.2.2.1.2, w4.2.2.2.1, w32_id (x := 3 * (4 - (k : Int))) (by omega) (by omega), w32_id (x := 3 * (4 - (k : Int)) + 2) (by omega) (by omega), hi3]
        refine ⟨w4.1, ⟨rfl, by omega, by omega⟩, ?_⟩
        rintro _ rfl
        rw [hr.1, hr.2, hr8.1, hr8.2]
        refine ⟨w4.1, by decide, ?_⟩
        rintro _ rfl
        have m5 := Md_zC S4 (R + 5 + 3 * (4 - (k : Int))) 0 (R + 18) 0 49
        have s5 := s4.keep m5 (by omega) (by omega) (by omega)
        have o5 : RO (zC S4 (R + 5 + 3 * (4 - (k : Int))) 0 (R + 18) 0 49) (R + 18) p t.2.2.1 t.2.2.2 := fun x x0 x1 => by
          rw [zG_zC, if_pos (by omega), show 0 + (x - 0) = x by omega, m4.G (by omega)]
          exact o1 x x0 x1
        generalize zC S4 (R + 5 + 3 * (4 - (k : Int))) 0 (R + 18) 0 49 = S5 at m5 s5 o5
        refine s_setNumber ((m5.K _).trans hr.1) ((m5.L _).trans hr.2) (fun S6 m6 v6 => ⟨rfl, ?_⟩)
        have M6 : Md (fun x => x = R ∨ (R + 5 + 3 * (4 - (k : Int)) ≤ x ∧ x ≤ R + 19)) S S6 := ((m1.tr (m4.wide (fun x hx => Or.inl hx))).tr (m5.wide (fun x hx => by omega))).tr (m6.wide (fun x hx => by omega))
        refine loopU (P := fun m S' => At (d + 4 * k + 3) 90 c90_80 [(0, (2, R)), (2, (0, tkW T n t.2.1)), (3, (2, R + 5 + 3 * (4 - (k : Int)))), (4, (0, m))] [] S' Q) (I := fun m S' => 0 ≤ m ∧ Md (fun x => x = R ∨ (R + 5 + 3 * (4 - (k : Int)) ≤ x ∧ x ≤ R + 19)) S S' ∧ RS S' R T n p (tkX T n t.2.1) (rsR p t.2.2.1 t.2.2.2 (tkW T n t.2.1) m.toNat).1 ∧ RO S' (R + 18) p t.2.2.1 t.2.2.2 ∧ RO S' (R + 5 + 3 * (4 - (k : Int))) p (rsR p t.2.2.1 t.2.2.2 (tkW T n t.2.1) m.toNat).1 (rsR p t.2.2.1 t.2.2.2 (tkW T n t.2.1) m.toNat).2) (tkV T n (tkX T n t.2.1)) ?_ ?_ 0 S6 qv0 ⟨by omega, M6, s5.keep m6 (by omega) (by omega) (by omega), o5.keep m6 (by omega), fun x x0 x1 => ?_⟩
        · rintro m S7 hm ⟨m0, M7, s7, b7, o7⟩ hk1
          apply w_Reader_readPower_80
          rw [s7.2.2.2.2.2.2.2.2.2.1 qk, s7.1.2.2.2.1]
          refine ⟨s7.1.1, fun z => by omega, fun _ => ⟨s7.1.1, s7.1.1, ?_⟩⟩
          refine s7.mul h2 (by omega) (by omega) g0 o7 (b7.up (rsR_neg g0 _)) (fun S8 m8 s8 _ o8 => ⟨rfl, ?_⟩)
          rintro _ rfl
          rw [w32_id (by omega) (by omega)]
          have e : (m + 1).toNat = m.toNat + 1 := by omega
          refine hk1 S8 ⟨by omega, M7.tr (m8.wide (fun x hx => by omega)), ?_, b7.keep m8 (by omega), ?_⟩
          · rw [e]
            exact s8
          · rw [e]
            exact o8
        · rintro S7 ⟨-, M7, s7, b7, o7⟩
          apply w_Reader_readPower_80
          rw [s7.2.2.2.2.2.2.2.2.2.1 qk]
          refine ⟨s7.1.1, fun _ => ⟨s7.1.1, s7.step (fun S8 m8 s8 => ⟨rfl, by unfold in01; omega, ?_⟩)⟩, fun z => absurd (Int.le_refl _) z⟩
          exact H S8 (M7.tr (m8.wide (fun x hx => Or.inl hx))) s8 (fun z => n1 (rsR_neg g0 _ z)) (fun _ => o7.keep m8 (by omega))
        · rw [v6 x x0 x1]
          refine ⟨by split <;> omega, fun _ => rfl⟩
    · rw [if_pos (Or.inr q)] at H
      have := H S1 m1 s1 n1 (fun _ => o1)
      rw [t1] at this
      exact this
  · generalize rdAt T n p (brk T n p k) i h = t at H s1 n1 y
    have y := Decidable.not_not.mp y
    rw [if_pos (Or.inl y)] at H
    have := H S1 m1 s1 n1 (fun z => absurd y z)
    rw [y] at this
    exact this
