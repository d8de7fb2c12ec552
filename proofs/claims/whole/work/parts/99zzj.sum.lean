/-! The class's reader: terms, sums. -/
theorem rdPw_01 {T : Int → Int} {n p i h : Int} {k : Nat} : (rdPw T n p (brk T n p k) i h).1 = 0 ∨ (rdPw T n p (brk T n p k) i h).1 = 1 := by
  unfold rdPw
  split
  · exact rdAt_01
  · split
    · exact Or.inl rfl
    · exact Or.inr rfl
theorem rdTl_01 {T : Int → Int} {n p : Int} {k : Nat} : ∀ (f : Nat) (i h : Int) (P : Int → Int), (rdTl T n p (brk T n p k) f i h P).1 = 0 ∨ (rdTl T n p (brk T n p k) f i h P).1 = 1
  | 0, _, _, _ => Or.inr rfl
  | f + 1, i, h, P => by
    unfold rdTl
    split
    · exact Or.inr rfl
    · split
      · exact rdPw_01
      · exact rdTl_01 f _ _ _
theorem s_termLoop {d k : Nat} {R n p h0 : Int} {T : Int → Int} {S0 : Hp} {Q : Vl → Hp → Prop} (h2 : 2 ≤ p ∧ p ≤ 7) (hk : k ≤ 4) (NX : ∀ k', k = k' + 1 → SPS R T n p k') (tv : ∀ i, tkK T n i = 1 → 0 ≤ tkV T n i) : ∀ (f : Nat) (S : Hp) (i h : Int) (P : Int → Int), f ≤ 100 → Md (fun x => x = R ∨ (R + 4 + 3 * (4 - (k : Int)) ≤ x ∧ x ≤ R + 19)) S0 S → RS S R T n p i h → (h < 0 → h0 < 0) → RO S (R + 4 + 3 * (4 - (k : Int))) p h P → OUT R T n p (R + 4 + 3 * (4 - (k : Int))) h0 S0 (rdTl T n p (brk T n p k) f i h P) Q → At (d + 4 * k + 4) 89 c89_44 [(0, (2, R)), (1, (0, 4 - (k : Int))), (2, (2, R + 4 + 3 * (4 - (k : Int)))), (3, (2, R + 5 + 3 * (4 - (k : Int)))), (4, (0, 100 - (f : Int)))] [] S Q
  | 0, S, i, h, P, hf, m, r, nh, o, H => by
    apply w_Reader_readTerm_44
    refine ⟨r.1.1, fun _ => ⟨by unfold in01; omega, H S m r nh (fun _ => o)⟩, fun z => absurd (Or.inr (by omega)) z⟩
  | f + 1, S, i, h, P, hf, m, r, nh, o, H => by
    have tb := tk_bd (T := T) r.2.2.2.1
    have g0 : 0 ≤ tkW T n i := by have := r.2.2.2.1; omega
    unfold rdTl at H
    apply w_Reader_readTerm_44
    rw [r.2.2.2.2.2.2.2.1, r.2.2.2.2.2.2.2.2.1]
    refine ⟨r.1.1, fun z => ⟨by unfold in01; omega, ?_⟩, fun z => ⟨r.1.1, ?_⟩⟩
    · rw [if_pos (by rcases z with z | z; exact z; omega)] at H
      exact H S m r nh (fun _ => o)
    · have q : tkK T n i = 42 := Decidable.byContradiction (fun y => z (Or.inl y))
      rw [if_neg (fun y => y q)] at H
      rintro _ rfl
      have h01 := rdPw_01 (T := T) (n := n) (p := p) (i := tkX T n i) (h := h) (k := k)
      refine ⟨r.1.1, r.step (fun S1 m1 s1 => ⟨rfl, s1.1.1, s_readPower h2 hk NX s1 tv (fun S2 m2 s2 n2 o2 => ⟨_, rfl, fun y => ⟨s2.1.1, ?_⟩, fun y => ⟨by unfold in01; omega, ?_⟩⟩)⟩)⟩
      · generalize rdPw T n p (brk T n p k) (tkX T n i) h = t at H h01 s2 n2 o2 y
        rw [if_neg y] at H
        have o2 := o2 y
        have o3 : RO S2 (R + 4 + 3 * (4 - (k : Int))) p t.2.2.1 P := ((o.keep m1 (by omega)).keep m2 (by omega)).up n2
        refine s2.mul h2 (by omega) (by omega) g0 o3 o2 (fun S3 m3 s3 _ o4 => ⟨rfl, ?_⟩)
        rintro _ rfl
        rw [w32_id (by omega) (by omega), show 100 - ((f + 1 : Nat) : Int) + 1 = 100 - (f : Int) by omega]
        exact s_termLoop h2 hk NX tv f S3 _ _ _ (by omega) (((m.tr (m1.wide (fun x hx => Or.inl hx))).tr (m2.wide (fun x hx => by omega))).tr (m3.wide (fun x hx => by omega))) s3 (fun z => nh (n2 (mlH_neg g0 z).1)) o4 H
      · generalize rdPw T n p (brk T n p k) (tkX T n i) h = t at H s2 n2 y
        have y := Decidable.not_not.mp y
        rw [if_pos y] at H
        have := H S2 ((m.tr (m1.wide (fun x hx => Or.inl hx))).tr (m2.wide (fun x hx => by omega))) s2 (fun z => nh (n2 z)) (fun z => absurd y z)
        rw [y] at this
        exact this
theorem s_readTerm {d k : Nat} {R n p i h : Int} {T : Int → Int} {S : Hp} {Q : Vl → Hp → Prop} (h2 : 2 ≤ p ∧ p ≤ 7) (hk : k ≤ 4) (NX : ∀ k', k = k' + 1 → SPS R T n p k') (r : RS S R T n p i h) (tv : ∀ i, tkK T n i = 1 → 0 ≤ tkV T n i) (H : OUT R T n p (R + 4 + 3 * (4 - (k : Int))) h S (rdTm T n p (brk T n p k) i h) Q) : Ev (d + 4 * k + 4) 89 [(2, R), (0, 4 - (k : Int))] S Q := by
  unfold rdTm at H
  apply w_Reader_readTerm_0
  refine ⟨r.1.1, s_readPower h2 hk NX r tv (fun S1 m1 s1 n1 o1 => ⟨_, rfl, fun y => ⟨s1.1.1, ?_⟩, fun y => ⟨by unfold in01; omega, ?_⟩⟩)⟩
  · generalize rdPw T n p (brk T n p k) i h = t at H s1 n1 o1 y
    rw [if_neg y] at H
    have o1 := o1 y
    have w1 := s1.1
    have hi1 := w1.2.2.2.2.2.2.2.1 (3 * (4 - (k : Int)) + 1) (by omega) (by omega)
    have hi2 := w1.2.2.2.2.2.2.2.1 (3 * (4 - (k : Int)) + 2) (by omega) (by omega)
    rw [show R + 3 + (3 * (4 - (k : Int)) + 1) = R + 4 + 3 * (4 - (k : Int)) by omega] at hi1
    rw [show R + 3 + (3 * (4 - (k : Int)) + 2) = R + 5 + 3 * (4 - (k : Int)) by omega] at hi2
    have hr4 := w1.row (a := R + 4 + 3 * (4 - (k : Int))) (by omega)
    have hr5 := w1.row (a := R + 5 + 3 * (4 - (k : Int))) (by omega)
    rw [w1.2.2.1, w1.2.2.2.2.2.2.1.1, w1.2.2.2.2.2.2.1.2, w32_id (x := 3 * (4 - (k : Int))) (by omega) (by omega), w32_id (x := 3 * (4 - (k : Int)) + 1) (by omega) (by omega), w32_id (x := 3 * (4 - (k : Int)) + 2) (by omega) (by omega), hi1, hi2]
    refine ⟨⟨rfl, by omega, by omega⟩, ?_⟩
    rintro _ rfl
    refine ⟨w1.1, ⟨rfl, by omega, by omega⟩, ?_⟩
    rintro _ rfl
    rw [hr4.1, hr4.2, hr5.1, hr5.2]
    refine ⟨by decide, ?_⟩
    rintro _ rfl
    have m2 := Md_zC S1 (R + 5 + 3 * (4 - (k : Int))) 0 (R + 4 + 3 * (4 - (k : Int))) 0 49
    refine s_termLoop (h0 := h) (S0 := S) h2 hk NX tv 100 _ t.2.1 t.2.2.1 t.2.2.2 (by omega) ((m1.wide (fun x hx => by omega)).tr (m2.wide (fun x hx => by omega))) (s1.keep m2 (by omega) (by omega) (by omega)) n1 (fun x x0 x1 => ?_) H
    rw [zG_zC, if_pos (by omega), show 0 + (x - 0) = x by omega]
    exact o1 x x0 x1
  · generalize rdPw T n p (brk T n p k) i h = t at H s1 n1 y
    have y := Decidable.not_not.mp y
    rw [if_pos y] at H
    have := H S1 (m1.wide (fun x hx => by omega)) s1 n1 (fun z => absurd y z)
    rw [y] at this
    exact this
