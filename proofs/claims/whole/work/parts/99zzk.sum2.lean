/-! The class's reader: sums. -/
theorem rdTm_01 {T : Int → Int} {n p i h : Int} {k : Nat} : (rdTm T n p (brk T n p k) i h).1 = 0 ∨ (rdTm T n p (brk T n p k) i h).1 = 1 := by
  unfold rdTm
  split
  · exact rdPw_01
  · exact rdTl_01 100 _ _ _
theorem s_sumLoop {d k : Nat} {R n p h0 : Int} {T : Int → Int} {S0 : Hp} {Q : Vl → Hp → Prop} (h2 : 2 ≤ p ∧ p ≤ 7) (hk : k ≤ 4) (NX : ∀ k', k = k' + 1 → SPS R T n p k') (tv : ∀ i, tkK T n i = 1 → 0 ≤ tkV T n i) : ∀ (f : Nat) (S : Hp) (s i h : Int) (P : Int → Int), f ≤ 100 → (s = 1 ∨ s = p - 1) → Md (fun x => x = R ∨ (R + 3 + 3 * (4 - (k : Int)) ≤ x ∧ x ≤ R + 19)) S0 S → RS S R T n p i h → (h < 0 → h0 < 0) → RO S (R + 3 + 3 * (4 - (k : Int))) p h P → OUT R T n p (R + 3 + 3 * (4 - (k : Int))) h0 S0 (rdSl T n p (brk T n p k) f s i h P) Q → At (d + 4 * k + 5) 88 c88_42 [(0, (2, R)), (1, (0, 4 - (k : Int))), (2, (0, s)), (3, (2, R + 3 + 3 * (4 - (k : Int)))), (4, (0, 1)), (5, (0, 100 - (f : Int)))] [] S Q
  | 0, S, s, i, h, P, hf, hs, m, r, nh, o, H => by
    apply w_Reader_readSum_42
    refine ⟨fun _ => ⟨by unfold in01; omega, H S m r nh (fun _ => o)⟩, fun z => absurd (Or.inr (by omega)) z⟩
  | f + 1, S, s, i, h, P, hf, hs, m, r, nh, o, H => by
    unfold rdSl at H
    have h01 := rdTm_01 (T := T) (n := n) (p := p) (i := i) (h := h) (k := k)
    apply w_Reader_readSum_42
    refine ⟨fun z => by omega, fun _ => ⟨r.1.1, s_readTerm h2 hk NX r tv (fun S1 m1 s1 n1 o1 => ⟨_, rfl, fun y => ⟨s1.1.1, ?_⟩, fun y => ⟨by unfold in01; omega, ?_⟩⟩)⟩⟩
    · generalize rdTm T n p (brk T n p k) i h = t at H h01 s1 n1 o1 y
      rw [if_neg y] at H
      have o1 := o1 y
      have w1 := s1.1
      have hi1 := w1.2.2.2.2.2.2.2.1 (3 * (4 - (k : Int)) + 1) (by omega) (by omega)
      rw [show R + 3 + (3 * (4 - (k : Int)) + 1) = R + 4 + 3 * (4 - (k : Int)) by omega] at hi1
      have hr3 := w1.row (a := R + 3 + 3 * (4 - (k : Int))) (by omega)
      have hr4 := w1.row (a := R + 4 + 3 * (4 - (k : Int))) (by omega)
      rw [w1.2.2.1, w1.2.2.2.2.2.2.1.1, w1.2.2.2.2.2.2.1.2, w32_id (x := 3 * (4 - (k : Int))) (by omega) (by omega), w32_id (x := 3 * (4 - (k : Int)) + 1) (by omega) (by omega), hi1]
      refine ⟨⟨rfl, by omega, by omega⟩, ?_⟩
      rintro _ rfl
      have o3 : RO S1 (R + 3 + 3 * (4 - (k : Int))) p t.2.2.1 P := (o.keep m1 (by omega)).up n1
      have M1 := m.tr (m1.wide (N := fun x => x = R ∨ (R + 3 + 3 * (4 - (k : Int)) ≤ x ∧ x ≤ R + 19)) (fun x hx => by omega))
      refine loopU (P := fun e S' => At (d + 4 * k + 5) 88 c88_79 [(0, (2, R)), (1, (0, 4 - (k : Int))), (2, (0, s)), (3, (2, R + 3 + 3 * (4 - (k : Int)))), (5, (0, 100 - ((f + 1 : Nat) : Int))), (6, (2, R + 4 + 3 * (4 - (k : Int)))), (7, (0, e))] [] S' Q) (I := fun e S' => 0 ≤ e ∧ Md (fun x => x = R + 3 + 3 * (4 - (k : Int))) S1 S' ∧ ∀ x, 0 ≤ x → x < 49 → (0 ≤ zG S' (R + 3 + 3 * (4 - (k : Int))) x ∧ zG S' (R + 3 + 3 * (4 - (k : Int))) x < p) ∧ (t.2.2.1 < 0 → zG S' (R + 3 + 3 * (4 - (k : Int))) x = if x < e then (P x + s * t.2.2.2 x) % p else P x)) 49 ?_ ?_ 0 S1 (by omega) ⟨by omega, Md.refl _ _, fun x x0 x1 => ?_⟩
      · rintro e S2 he ⟨e0, m2, v2⟩ hk1
        have a2 := v2 e e0 he
        have b2 := o1 e e0 he
        have tv2 : zG S2 (R + 4 + 3 * (4 - (k : Int))) e = zG S1 (R + 4 + 3 * (4 - (k : Int))) e := m2.G (by omega) e
        generalize hA : zG S2 (R + 3 + 3 * (4 - (k : Int))) e = A at a2
        generalize hB : zG S1 (R + 4 + 3 * (4 - (k : Int))) e = B at b2 tv2
        have sb : 0 ≤ s * B ∧ s * B ≤ 49 := ⟨Int.mul_nonneg (by omega) b2.1.1, by have := Int.mul_le_mul (show s ≤ 7 by omega) (show B ≤ 7 by omega) b2.1.1 (by omega); omega⟩
        have s2 := s1.keep m2 (by omega) (by omega) (by omega)
        apply w_Reader_readSum_79
        rw [hA, tv2, s2.2.2.2.2.2.1, m2.K (R + 3 + 3 * (4 - (k : Int))), m2.L (R + 3 + 3 * (4 - (k : Int))), m2.K (R + 4 + 3 * (4 - (k : Int))), m2.L (R + 4 + 3 * (4 - (k : Int))), hr3.1, hr3.2, hr4.1, hr4.2, w32_id (x := s * B) (by omega) (by omega), w32_id (x := A + s * B) (by omega) (by omega), tm_nn (by omega)]
        refine ⟨fun z => by omega, fun _ => ⟨⟨rfl, by omega, by omega⟩, ⟨rfl, by omega, by omega⟩, s2.1.1, by omega, ⟨rfl, by omega, by omega⟩, ?_⟩⟩
        rintro _ rfl _ rfl
        rw [w32_id (by omega) (by omega)]
        refine hk1 _ ⟨by omega, m2.tr (Md.zS _ _ _ _), fun x x0 x1 => ?_⟩
        rw [zG_zS]
        by_cases q : x = e
        · rw [if_pos ⟨rfl, q⟩]
          refine ⟨⟨em_ge (by omega), em_lt (by omega)⟩, fun z => ?_⟩
          have a3 := a2.2 z
          rw [if_neg (by omega)] at a3
          rw [if_pos (by omega), q, a3, b2.2 z]
        · rw [if_neg (fun z => q z.2)]
          refine ⟨(v2 x x0 x1).1, fun z => ?_⟩
          rw [(v2 x x0 x1).2 z]
          by_cases q' : x < e
          · rw [if_pos q', if_pos (by omega)]
          · rw [if_neg q', if_neg (by omega)]
      · rintro S2 ⟨-, m2, v2⟩
        have s2 := s1.keep m2 (by omega) (by omega) (by omega)
        have o2 : RO S2 (R + 3 + 3 * (4 - (k : Int))) p t.2.2.1 (fun x => (P x + s * t.2.2.2 x) % p) := fun x x0 x1 => ⟨(v2 x x0 x1).1, fun z => by rw [(v2 x x0 x1).2 z, if_pos x1]⟩
        have M2 := M1.tr (m2.wide (N := fun x => x = R ∨ (R + 3 + 3 * (4 - (k : Int)) ≤ x ∧ x ≤ R + 19)) (fun x hx => by omega))
        apply w_Reader_readSum_79
        rw [s2.2.2.2.2.2.2.2.1, s2.2.2.2.2.2.1]
        refine ⟨fun _ => ⟨s2.1.1, fun _ => s2.1.1, ?_⟩, fun z => absurd (Int.le_refl 49) z⟩
        rintro _ rfl
        refine ⟨fun z => ?_, fun z => ⟨s2.1.1, fun _ => s2.1.1, ?_⟩⟩
        · have q : ¬ (tkK T n t.2.1 = 43 ∨ ¬ ¬ tkK T n t.2.1 = 45) := i0 z
          rw [if_neg (fun y => q (Or.inl y)), if_neg (fun y => q (Or.inr (fun w => w y)))] at H
          rw [z]
          apply w_Reader_readSum_167
          rintro _ rfl
          apply w_Reader_readSum_42
          exact ⟨fun _ => ⟨by unfold in01; omega, H S2 M2 s2 (fun z => nh (n1 z)) (fun _ => o2)⟩, fun y => absurd (Or.inl rfl) y⟩
        · have q : tkK T n t.2.1 = 43 ∨ ¬ ¬ tkK T n t.2.1 = 45 := i1 z
          rw [if_pos q, w32_id (x := p - 1) (by omega) (by omega)]
          rintro _ rfl
          refine ⟨s2.1.1, s2.step (fun S3 m3 s3 => ⟨rfl, ?_⟩)⟩
          apply w_Reader_readSum_167
          rintro _ rfl
          rw [w32_id (by omega) (by omega), show 100 - ((f + 1 : Nat) : Int) + 1 = 100 - (f : Int) by omega]
          have M3 := M2.tr (m3.wide (N := fun x => x = R ∨ (R + 3 + 3 * (4 - (k : Int)) ≤ x ∧ x ≤ R + 19)) (fun x hx => Or.inl hx))
          by_cases q3 : tkK T n t.2.1 = 43
          · rw [if_pos q3] at H
            rw [if_neg (fun z => z q3)]
            exact s_sumLoop h2 hk NX tv f S3 _ _ _ _ (by omega) (Or.inl rfl) M3 s3 (fun z => nh (n1 z)) (o2.keep m3 (by omega)) H
          · have q4 : tkK T n t.2.1 = 45 := by
              rcases q with q | q
              · exact absurd q q3
              · exact Decidable.not_not.mp q
            rw [if_neg q3, if_pos q4] at H
            rw [if_pos q3]
            exact s_sumLoop h2 hk NX tv f S3 _ _ _ _ (by omega) (Or.inr rfl) M3 s3 (fun z => nh (n1 z)) (o2.keep m3 (by omega)) H
      · refine ⟨(o3 x x0 x1).1, fun z => ?_⟩
        rw [if_neg (by omega)]
        exact (o3 x x0 x1).2 z
    · generalize rdTm T n p (brk T n p k) i h = t at H s1 n1 y
      have y := Decidable.not_not.mp y
      rw [if_pos y] at H
      have := H S1 (m.tr (m1.wide (fun x hx => by omega))) s1 (fun z => nh (n1 z)) (fun z => absurd y z)
      rw [y] at this
      exact this
theorem s_readSum {R n p : Int} {T : Int → Int} (h2 : 2 ≤ p ∧ p ≤ 7) (tv : ∀ i, tkK T n i = 1 → 0 ≤ tkV T n i) : ∀ (k : Nat), k ≤ 4 → SPS R T n p k
  | k, hk, d, S, i, h, Q, r, H => by
    have NX : ∀ k', k = k' + 1 → SPS R T n p k' := fun k' e => s_readSum h2 tv k' (by omega)
    have w := r.1
    have hi0 := w.2.2.2.2.2.2.2.1 (3 * (4 - (k : Int))) (by omega) (by omega)
    have hr3 := w.row (a := R + 3 + 3 * (4 - (k : Int))) (by omega)
    have go : ∀ S1 s j, Md (fun x => x = R) S S1 → (s = 1 ∨ s = p - 1) → RS S1 R T n p j h → OUT R T n p (R + 3 + 3 * (4 - (k : Int))) h S (rdSl T n p (brk T n p k) 100 s j h (fun _ => 0)) Q → At (d + 4 * k + 5) 88 c88_22 [(0, (2, R)), (1, (0, 4 - (k : Int))), (2, (0, s))] [] S1 Q := fun S1 s j m1 hs s1 H => by
      have w1 := s1.1
      apply w_Reader_readSum_22
      rw [w1.2.2.1, w1.2.2.2.2.2.2.1.1, w1.2.2.2.2.2.2.1.2, w32_id (x := 3 * (4 - (k : Int))) (by omega) (by omega), (m1.G (a := R + 2) (by omega) _).trans hi0]
      refine ⟨w1.1, ⟨rfl, by omega, by omega⟩, ?_⟩
      rintro _ rfl
      refine s_setNumber ((m1.K _).trans hr3.1) ((m1.L _).trans hr3.2) (fun S2 m2 v2 => ⟨rfl, ?_⟩)
      refine s_sumLoop (h0 := h) (S0 := S) h2 hk NX tv 100 S2 s j h (fun _ => 0) (by omega) hs ((m1.wide (fun x hx => Or.inl hx)).tr (m2.wide (fun x hx => by omega))) (s1.keep m2 (by omega) (by omega) (by omega)) (fun z => z) (fun x x0 x1 => ?_) H
      have : (if x = 0 then (0 : Int) else 0) = 0 := by split <;> rfl
      rw [v2 x x0 x1, this]
      exact ⟨by omega, fun _ => rfl⟩
    unfold rdSm at H
    apply w_Reader_readSum_0
    rw [r.2.2.2.2.2.2.2.1, r.2.2.2.2.2.1, w32_id (x := p - 1) (by omega) (by omega)]
    refine ⟨w.1, fun q => ?_, fun q => ⟨w.1, ?_⟩⟩
    · rw [if_neg q] at H
      exact go S 1 i (Md.refl _ _) (Or.inl rfl) r H
    · rw [if_pos (Decidable.not_not.mp q)] at H
      rintro _ rfl
      exact ⟨w.1, r.step (fun S1 m1 s1 => ⟨rfl, go S1 (p - 1) (tkX T n i) m1 (Or.inr rfl) s1 H⟩)⟩
