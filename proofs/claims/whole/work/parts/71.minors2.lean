/-! Minors, second part. -/
theorem LN.more {S : Hp} {a n p q : Int} {P : Int → Int} (h : LN S a n p P) (hpq : p ≤ q) : LN S a n q P := by
  obtain ⟨t, h1, h2, h3⟩ := h
  exact ⟨t, h1, h2, fun i => by have := h3 i; omega⟩
theorem mnT_congr {E G G' : Int → Int → Int} {s d x j : Int} (h0 : 1 ≤ s) (h1 : s < 16) (j0 : 0 ≤ j) (j1 : j < 4) (d0 : 0 ≤ d) (d1 : d ≤ pcS s) (h : ∀ k, 0 ≤ k → k < zSt s → ∀ y, G k y = G' k y) : mnT E G s d x j = mnT E G' s d x j := by
  unfold mnT
  by_cases hb : bitS s j = 1
  · obtain ⟨r1, r2, r3, r4⟩ := sz_rest (by omega) h1 j0 j1 hb
    obtain ⟨y1, y2, y3, y4, -⟩ := sz_st (s := s - p2 j) r2 (by omega)
    rw [if_pos hb, if_pos hb]
    congr 1
    · by_cases q : d < pcS s
      · have e : G (zSt (s - p2 j) + d) = G' (zSt (s - p2 j) + d) := funext (h _ (by omega) (by omega))
        rw [if_pos q, if_pos q, e]
      · rw [if_neg q, if_neg q]
    · by_cases q : j = pcS s - 1 ∧ 1 ≤ d
      · rw [if_pos q, if_pos q, h _ (by omega) (by omega)]
      · rw [if_neg q, if_neg q]
  · rw [if_neg hb, if_neg hb]
def XR (S : Hp) (rb n p : Int) (E : Int → Int → Int) : Prop := zK S rb = 104 ∧ zL S rb = 16 ∧ ∀ i j, 0 ≤ i → i < n → 0 ≤ j → j < n → zG S rb (4 * i + j) = rb + 1 + 2 * (4 * i + j) ∧ LN S (rb + 1 + 2 * (4 * i + j)) 64 p (E (4 * i + j)) ∧ ∀ x, 30 + 6 * i < x → E (4 * i + j) x = 0
theorem XR.keep {M : Int → Prop} {S S' : Hp} {rb n p : Int} {E : Int → Int → Int} (h : XR S rb n p E) (hn : n ≤ 4) (hm : Md M S S') (hM : ∀ x, rb ≤ x → x ≤ rb + 32 → ¬ M x) : XR S' rb n p E := ⟨by rw [hm.K]; exact h.1, by rw [hm.L]; exact h.2.1, fun i j i0 i1 j0 j1 => ⟨by rw [hm.G (hM rb (by omega) (by omega))]; exact (h.2.2 i j i0 i1 j0 j1).1, (h.2.2 i j i0 i1 j0 j1).2.1.keep hm (hM _ (by omega) (by omega)) (hM _ (by omega) (by omega)), (h.2.2 i j i0 i1 j0 j1).2.2⟩⟩
set_option maxHeartbeats 4000000 in
theorem s_workOut {d : Nat} {X rb n p : Int} {S : Hp} {E : Int → Int → Int} {Q : Vl → Hp → Prop} (hx : XW S X) (hn : 2 ≤ n ∧ n ≤ 4) (hp : 2 ≤ p ∧ p ≤ 7) (hr : XR S rb n p E) (d1 : rb + 32 < X ∨ X + 97 < rb)
    (H : ∀ S' G, Md (fun x => x = X ∨ MX X x) S S' → XW S' X → zG S' X 1 = n → zG S' X 2 = p → MN p n E G → (∀ s, 0 ≤ s → s < p2 n → ∀ e, 0 ≤ e → e ≤ pcS s → LN S' (X + 1 + 1 + 2 * (zSt s + e)) (rmM (zSt s + e)) p (G (zSt s + e)) ∧ ∀ x, hiM (pcS s) < x → G (zSt s + e) x = 0) → Q (3, 0) S') : Ev (d + 2) 58 [(2, X), (2, rb), (0, n), (0, p)] S Q := by
  have hp2 : p2 n ≤ 16 ∧ 4 ≤ p2 n := by
    rcases (show n = 2 ∨ n = 3 ∨ n = 4 by omega) with rfl | rfl | rfl <;> decide
  have hbs : bShl 1 n = p2 n := bsl_ok (by omega) (by omega)
  apply w_Minors_workOut_0
  refine ⟨hx.1, ?_⟩
  rintro _ rfl
  refine ⟨by rw [zK_zS]; exact hx.1, ?_⟩
  rintro _ rfl
  have m0 : Md (fun x => x = X) S (zS (zS S X 1 n) X 2 p) := (Md.zS _ _ _ _).tr (Md.zS _ _ _ _)
  have g1 : zG (zS (zS S X 1 n) X 2 p) X 1 = n := by rw [zG_zS_ne _ (Or.inr (by omega)), zG_zS_at]
  have g2 : zG (zS (zS S X 1 n) X 2 p) X 2 = p := zG_zS_at _ _ _ _
  have hx0 : XW (zS (zS S X 1 n) X 2 p) X := ⟨hx.1, by rw [zG_zS_ne _ (Or.inr (by omega)), zG_zS_ne _ (Or.inr (by omega))]; exact hx.2.1, hx.2.2.1.keep m0 (fun x x1 x2 => by omega) (by omega), hx.2.2.2.keep m0 (by omega) (by omega)⟩
  have hr0 := hr.keep hn.2 m0 (fun x x1 x2 => by omega)
  generalize hS0 : zS (zS S X 1 n) X 2 p = S0 at *
  have hst0 : zSt 0 = 0 := by decide
  have hpc0 : pcS 0 = 0 := by decide
  refine loopU2 (P := fun s (G : Int → Int → Int) S' => At (d + 2) 58 c58_13 [(0, (2, X)), (1, (2, rb)), (4, (0, s))] [] S' Q) (I := fun s G S' => 1 ≤ s ∧ Md (MX X) S0 S' ∧ XW S' X ∧ (∀ x, G 0 x = if x = 0 then 1 else 0) ∧ (∀ u, 1 ≤ u → u < s → ∀ e, 0 ≤ e → e ≤ pcS u → ∀ x, G (zSt u + e) x = sm n.toNat (mnT E G u e x) % p) ∧ ∀ u, 0 ≤ u → u < s → ∀ e, 0 ≤ e → e ≤ pcS u → LN S' (X + 1 + 1 + 2 * (zSt u + e)) (rmM (zSt u + e)) p (G (zSt u + e)) ∧ ∀ x, hiM (pcS u) < x → G (zSt u + e) x = 0) (p2 n) ?_ ?_ 1 (fun _ x => if x = 0 then 1 else 0) S0 (by omega) ⟨by omega, Md.refl _ _, hx0, fun x => rfl, fun u u0 u1 => by omega, fun u u0 u1 e e0 e1 => ?_⟩
  · rintro s G S1 hs ⟨s0, sm1, sw, sG0, sE, sL⟩ hnext
    obtain ⟨z1, z2, z3, z4, z5⟩ := sz_st (s := s) (by omega) (by omega)
    have z6 := z5 s0
    have z7 := sz_pc (s := s) (n := n) (by omega) (by omega) (by omega) (by omega) hs
    have z8 := sz_mono (s := 0) (u := s) (by omega) (by omega) (by omega)
    rw [hst0, hpc0] at z8
    have hhi := hi_ok (k := pcS s) (by omega) (by omega)
    have hhi0 := (hi_ok (k := pcS s - 1) (by omega) (by omega)).2.2.1
    have nX : ∀ {S' : Hp}, Md (MX X) S0 S' → zG S' X 1 = n ∧ zG S' X 2 = p := fun hm => ⟨by rw [hm.G (by unfold MX; omega)]; exact g1, by rw [hm.G (by unfold MX; omega)]; exact g2⟩
    have mrx : ∀ x, MR X (zSt s) (pcS s + 1) x → MX X x := fun x hx => by unfold MR at hx; unfold MX; omega
    apply w_Minors_workOut_13
    rw [(nX sm1).1, hbs]
    refine ⟨sw.1, fun hc => by omega, fun _ => s_bitCount (by omega) (by omega) ⟨_, rfl, ?_⟩⟩
    rintro _ rfl
    rw [w32_id (by omega) (by omega)]
    -- the settling of the set's minors
    have fin : ∀ S2, Md (MR X (zSt s) (pcS s + 1)) S1 S2 → XW S2 X → RLn S2 X (zSt s) (pcS s + 1) (fun q x => sm n.toNat (mnT E G s q x)) → At (d + 2) 58 c58_119 [(0, (2, X)), (1, (2, rb)), (4, (0, s)), (5, (0, pcS s - 1)), (6, (0, 0))] [] S2 Q := by
      intro S2 m2 w2 r2
      refine loopU (P := fun e S' => At (d + 2) 58 c58_119 [(0, (2, X)), (1, (2, rb)), (4, (0, s)), (5, (0, pcS s - 1)), (6, (0, e))] [] S' Q) (I := fun e S' => 0 ≤ e ∧ Md (MR X (zSt s) (pcS s + 1)) S1 S' ∧ XW S' X ∧ (∀ q, e ≤ q → q ≤ pcS s → ∃ t, LI S' (X + 1 + 1 + 2 * (zSt s + q)) (rmM (zSt s + q)) t (fun x => sm n.toNat (mnT E G s q x))) ∧ ∀ q, 0 ≤ q → q < e → LN S' (X + 1 + 1 + 2 * (zSt s + q)) (rmM (zSt s + q)) p (fun x => sm n.toNat (mnT E G s q x) % p)) (pcS s + 1) ?_ ?_ 0 S2 (by omega) ⟨by omega, m2, w2, fun q q0 q1 => r2 q q0 (by omega), fun q q0 q1 => by omega⟩
      · rintro e S3 he ⟨e0, em, ew, er, el⟩ hk
        have mm3 := sm1.tr (em.wide mrx)
        obtain ⟨t, t1⟩ := er e (by omega) (by omega)
        apply w_Minors_workOut_119
        rw [(nX mm3).2, ew.2.1]
        simp (disch := omega) only [w32_id]
        rw [ew.2.2.1.ptr (i := zSt s + e) (by omega) (by omega)]
        refine ⟨fun hc => by omega, fun _ => ⟨ew.1, ⟨trivial, by omega, by omega⟩, ⟨ew.2.2.1.1, by omega, by rw [ew.2.2.1.2.1]; omega⟩, ew.1, t1.1.1, n_settle t1 (by omega) (fun S4 m4 l4 => ⟨rfl, ?_⟩)⟩⟩
        rintro _ rfl
        refine hk _ ⟨by omega, em.tr (m4.wide (fun x hx => by unfold ML at hx; unfold MR; omega)), ew.set m4 (by omega) (by omega) l4.w, fun q q0 q1 => ?_, fun q q0 q1 => ?_⟩
        · obtain ⟨t9, t9l⟩ := er q (by omega) q1
          exact ⟨t9, t9l.keep m4 (by unfold ML; omega) (by unfold ML; omega)⟩
        · by_cases eq : q = e
          · rw [eq]
            exact l4
          · exact (el q q0 (by omega)).keep m4 (by unfold ML; omega) (by unfold ML; omega)
      · rintro S3 ⟨e0, em, ew, er, el⟩
        have mm3 := sm1.tr (em.wide mrx)
        apply w_Minors_workOut_119
        simp (disch := omega) only [w32_id]
        refine ⟨fun _ => ?_, fun hc => absurd (by omega) hc⟩
        rintro _ rfl
        have agree : ∀ k, 0 ≤ k → k < zSt s → ∀ y, (if zSt s ≤ k ∧ k ≤ zSt s + pcS s then fun x => sm n.toNat (mnT E G s (k - zSt s) x) % p else G k) y = G k y := fun k k0 k1 y => by rw [if_neg (by omega)]
        have eqT : ∀ u e x, 1 ≤ u → u ≤ s → 0 ≤ e → e ≤ pcS u → sm n.toNat (mnT E (fun k => if zSt s ≤ k ∧ k ≤ zSt s + pcS s then fun x => sm n.toNat (mnT E G s (k - zSt s) x) % p else G k) u e x) = sm n.toNat (mnT E G u e x) := by
          intro u e x u0 u1 e0 e1
          refine sm_congr fun j j0 j1 => mnT_congr u0 (by omega) j0 (by omega) e0 e1 (fun k k0 k1 y => agree k k0 ?_ y)
          by_cases q : u = s
          · rw [← q]
            exact k1
          · have := sz_mono (s := u) (u := s) (by omega) (by omega) (by omega)
            have := (sz_st (s := u) (by omega) (by omega)).2.2.1
            omega
        refine hnext (fun k => if zSt s ≤ k ∧ k ≤ zSt s + pcS s then fun x => sm n.toNat (mnT E G s (k - zSt s) x) % p else G k) _ ⟨by omega, mm3, ew, fun x => ?_, fun u u0 u1 e f0 f1 x => ?_, fun u u0 u1 e f0 f1 => ?_⟩
        · rw [if_neg (by omega)]
          exact sG0 x
        · rw [eqT u e x u0 (by omega) f0 f1]
          by_cases q : u = s
          · subst q
            rw [if_pos (by omega), show zSt u + e - zSt u = e by omega]
          · have := sz_mono (s := u) (u := s) (by omega) (by omega) (by omega)
            rw [if_neg (by omega)]
            exact sE u u0 (by omega) e f0 f1 x
        · by_cases q : u = s
          · subst q
            rw [if_pos (by omega), show zSt u + e - zSt u = e by omega]
            refine ⟨el e f0 (by omega), fun x hx9 => ?_⟩
            rw [sm_zeros (fun j j0 j1 => ?_)]
            · exact Int.zero_emod p
            · unfold mnT
              by_cases hb : bitS u j = 1
              · obtain ⟨r1, r2, r3, r4⟩ := sz_rest (by omega) (by omega) j0 (by omega) hb
                rw [if_pos hb]
                have t1 : (if e < pcS u then -sgS u j * cnv (E (4 * (pcS u - 1) + j)) (G (zSt (u - p2 j) + e)) x else 0) = 0 := by
                  by_cases q9 : e < pcS u
                  · rw [if_pos q9, cnv_top ((hr.2.2 (pcS u - 1) j (by omega) (by omega) j0 (by omega)).2.2) (fun y hy => (sL (u - p2 j) r2 (by omega) e f0 (by omega)).2 y (by rw [r1]; exact hy)) (by have := hhi.2.1 z6; omega), Int.mul_zero]
                  · rw [if_neg q9]
                have t2 : (if j = pcS u - 1 ∧ 1 ≤ e then sgS u j * G (zSt (u - p2 j) + (e - 1)) x else 0) = 0 := by
                  by_cases q9 : j = pcS u - 1 ∧ 1 ≤ e
                  · rw [if_pos q9, (sL (u - p2 j) r2 (by omega) (e - 1) (by omega) (by omega)).2 x (by rw [r1]; have := hhi.2.2.2 z6; omega), Int.mul_zero]
                  · rw [if_neg q9]
                rw [t1, t2]
                rfl
              · rw [if_neg hb]
          · have := sz_mono (s := u) (u := s) (by omega) (by omega) (by omega)
            rw [if_neg (by omega)]
            have hl := sL u u0 (by omega) e f0 f1
            exact ⟨hl.1.keep em (by unfold MR; omega) (by unfold MR; omega), hl.2⟩
    -- what is zeroed at first
    have z36 : ∀ S2, Md (MR X (zSt s) (pcS s + 1)) S1 S2 → XW S2 X → RLn S2 X (zSt s) (pcS s + 1) (fun _ _ => 0) → At (d + 2) 58 c58_71 [(0, (2, X)), (1, (2, rb)), (4, (0, s)), (5, (0, pcS s - 1)), (6, (0, 0))] [] S2 Q := by
      intro S2 m2 w2 r2
      have tb : ∀ q x j, 0 ≤ q → q ≤ pcS s → 0 ≤ j → j < n → -1000000 ≤ mnT E G s q x j ∧ mnT E G s q x j ≤ 1000000 := by
        intro q x j q0 q1 j0 j1
        unfold mnT
        by_cases hb : bitS s j = 1
        · obtain ⟨r1, r2', r3, r4⟩ := sz_rest (by omega) (by omega) j0 (by omega) hb
          rw [if_pos hb]
          have hsg := sg_or s j
          have hsx : ∀ y : Int, sgS s j * y = y ∨ sgS s j * y = -y := fun y => by
            rcases hsg with e | e
            · rw [e]
              exact Or.inl (Int.one_mul y)
            · rw [e]
              exact Or.inr (by omega)
          have t1 : -100000 ≤ (if q < pcS s then -sgS s j * cnv (E (4 * (pcS s - 1) + j)) (G (zSt (s - p2 j) + q)) x else 0) ∧ (if q < pcS s then -sgS s j * cnv (E (4 * (pcS s - 1) + j)) (G (zSt (s - p2 j) + q)) x else 0) ≤ 100000 := by
            by_cases q9 : q < pcS s
            · rw [if_pos q9]
              have hE9 := hr0.2.2 (pcS s - 1) j (by omega) (by omega) j0 (by omega)
              have hG9 := sL (s - p2 j) r2' (by omega) q q0 (by omega)
              by_cases hx9 : x < 800
              · have := cnv_b (A := E (4 * (pcS s - 1) + j)) (B := G (zSt (s - p2 j) + q)) (k := x) (fun i => by have := hE9.2.1.bd i; omega) (fun i => by have := hG9.1.bd i; omega) (by omega)
                have := hsx (cnv (E (4 * (pcS s - 1) + j)) (G (zSt (s - p2 j) + q)) x)
                rw [Int.neg_mul]
                omega
              · rw [cnv_top hE9.2.2 hG9.2 (by rw [r1]; have := hhi.2.1 z6; have := hhi.1; omega), Int.mul_zero]
                omega
            · rw [if_neg q9]
              omega
          have t2 : -100 ≤ (if j = pcS s - 1 ∧ 1 ≤ q then sgS s j * G (zSt (s - p2 j) + (q - 1)) x else 0) ∧ (if j = pcS s - 1 ∧ 1 ≤ q then sgS s j * G (zSt (s - p2 j) + (q - 1)) x else 0) ≤ 100 := by
            by_cases q9 : j = pcS s - 1 ∧ 1 ≤ q
            · rw [if_pos q9]
              have := (sL (s - p2 j) r2' (by omega) (q - 1) (by omega) (by omega)).1.bd x
              have := hsx (G (zSt (s - p2 j) + (q - 1)) x)
              omega
            · rw [if_neg q9]
              omega
          omega
        · rw [if_neg hb]
          omega
      refine loopU (P := fun j S' => At (d + 2) 58 c58_71 [(0, (2, X)), (1, (2, rb)), (4, (0, s)), (5, (0, pcS s - 1)), (6, (0, j))] [] S' Q) (I := fun j S' => 0 ≤ j ∧ Md (MR X (zSt s) (pcS s + 1)) S1 S' ∧ XW S' X ∧ RLn S' X (zSt s) (pcS s + 1) (fun q x => sm j.toNat (mnT E G s q x))) n ?_ ?_ 0 S2 (by omega) ⟨by omega, m2, w2, fun q q0 q1 => ?_⟩
      · rintro j S3 hj ⟨j0, jm, jw, jr⟩ hk
        have mm3 := sm1.tr (jm.wide mrx)
        have hr3 := hr0.keep hn.2 mm3 (fun x x1 x2 => by unfold MX; omega)
        have go : ∀ S4, Md (MR X (zSt s) (pcS s + 1)) S1 S4 → XW S4 X → RLn S4 X (zSt s) (pcS s + 1) (fun q x => sm (j + 1).toNat (mnT E G s q x)) → At (d + 2) 58 c58_110 [(0, (2, X)), (1, (2, rb)), (4, (0, s)), (5, (0, pcS s - 1)), (6, (0, j))] [] S4 Q := by
          intro S4 a1 a2 a3
          apply w_Minors_workOut_110
          rintro _ rfl
          rw [w32_id (by omega) (by omega)]
          exact hk _ ⟨by omega, a1, a2, a3⟩
        have sst : ∀ q x, sm (j + 1).toNat (mnT E G s q x) = sm j.toNat (mnT E G s q x) + mnT E G s q x j := fun q x => by
          rw [show (j + 1).toNat = j.toNat + 1 by omega, sm_succ, show ((j.toNat : Nat) : Int) = j by omega]
        have hdiv : 0 ≤ s / p2 j ∧ s / p2 j < 16 := by
          rcases (show j = 0 ∨ j = 1 ∨ j = 2 ∨ j = 3 by omega) with rfl | rfl | rfl | rfl
          · show 0 ≤ s / 1 ∧ s / 1 < 16
            omega
          · show 0 ≤ s / 2 ∧ s / 2 < 16
            omega
          · show 0 ≤ s / 4 ∧ s / 4 < 16
            omega
          · show 0 ≤ s / 8 ∧ s / 8 < 16
            omega
        apply w_Minors_workOut_71
        rw [(nX mm3).1, bsr_ok (by omega) (by omega) j0 (by omega), ba1_ok hdiv.1 hdiv.2]
        simp (disch := omega) only [w32_id]
        refine ⟨jw.1, fun hc => by omega, fun _ => ⟨fun hb => go S3 jm jw (fun q q0 q1 => ?_), fun hb => ?_⟩⟩
        · obtain ⟨t, t1⟩ := jr q q0 q1
          refine ⟨t, t1.congr fun x => ?_⟩
          (try dsimp only)
          rw [sst]
          have : mnT E G s q x j = 0 := by
            unfold mnT
            exact if_neg (show ¬ bitS s j = 1 from hb)
          omega
        · have hb : bitS s j = 1 := Decidable.not_not.mp hb
          obtain ⟨r1, r2', r3, r4⟩ := sz_rest (by omega) (by omega) j0 (by omega) hb
          have hE9 := hr3.2.2 (pcS s - 1) j (by omega) (by omega) j0 hj
          rw [hE9.1]
          refine ⟨⟨hr3.1, by omega, by rw [hr3.2.1]; omega⟩, jw.1, ?_⟩
          refine s_addPlace (p := p) (B := 4000000) (G := G) (V := fun q x => sm j.toNat (mnT E G s q x)) jw s0 (by omega) j0 (by omega) hb hp hE9.2.1 hE9.2.2 (by omega) (fun q q0 q1 => (sL (s - p2 j) r2' (by omega) q q0 (by omega)).1.keep jm (by unfold MR; omega) (by unfold MR; omega)) (fun q x q0 q1 hx9 => (sL (s - p2 j) r2' (by omega) q q0 (by omega)).2 x (by rw [r1]; exact hx9)) jr (fun q x q0 q1 => ?_) (by omega) (fun S4 m4 l4 => ⟨rfl, ?_⟩)
          · have b1 := sm_le (n := j.toNat) (f := mnT E G s q x) (B := 1000000) (fun i i0 i1 => (tb q x i q0 q1 i0 (by omega)).2)
            have b2 := sm_ge (n := j.toNat) (f := mnT E G s q x) (B := 1000000) (fun i i0 i1 => (tb q x i q0 q1 i0 (by omega)).1)
            omega
          · refine go S4 (jm.tr m4) ?_ (fun q q0 q1 => ?_)
            · refine ⟨by rw [m4.K]; exact jw.1, by rw [m4.G (by unfold MR; omega)]; exact jw.2.1, ⟨by rw [m4.K]; exact jw.2.2.1.1, by rw [m4.L]; exact jw.2.2.1.2.1, fun i i0 i1 => ⟨by rw [m4.G (by unfold MR; omega)]; exact jw.2.2.1.ptr i0 i1, ?_⟩⟩, jw.2.2.2.keep m4 (by unfold MR; omega) (by unfold MR; omega)⟩
              by_cases q9 : zSt s ≤ i ∧ i ≤ zSt s + pcS s
              · obtain ⟨t, t1⟩ := l4 (i - zSt s) (by omega) (by omega)
                rw [show zSt s + (i - zSt s) = i by omega] at t1
                exact ⟨_, _, t1⟩
              · exact (jw.2.2.1.2.2 i i0 i1).2.keep m4 (by unfold MR; omega) (by unfold MR; omega)
            · obtain ⟨t, t1⟩ := l4 q q0 q1
              refine ⟨t, t1.congr fun x => ?_⟩
              (try dsimp only)
              rw [sst]
              unfold mnT
              rw [if_pos hb]
      · rintro S3 ⟨j0, jm, jw, jr⟩
        have mm3 := sm1.tr (jm.wide mrx)
        apply w_Minors_workOut_71
        rw [(nX mm3).1]
        exact ⟨jw.1, fun _ => fin S3 jm jw jr, fun hc => absurd (by omega) hc⟩
      · obtain ⟨t, t1⟩ := r2 q q0 q1
        exact ⟨t, t1.congr fun x => rfl⟩
    refine loopU (P := fun e S' => At (d + 2) 58 c58_36 [(0, (2, X)), (1, (2, rb)), (4, (0, s)), (5, (0, pcS s - 1)), (6, (0, e))] [] S' Q) (I := fun e S' => 0 ≤ e ∧ Md (MR X (zSt s) (pcS s + 1)) S1 S' ∧ XW S' X ∧ ∀ q, 0 ≤ q → q < e → LN S' (X + 1 + 1 + 2 * (zSt s + q)) (rmM (zSt s + q)) p (fun _ => 0)) (pcS s + 1) ?_ ?_ 0 S1 (by omega) ⟨by omega, Md.refl _ _, sw, fun q q0 q1 => by omega⟩
    · rintro e S3 he ⟨e0, em, ew, el⟩ hk
      apply w_Minors_workOut_36
      rw [ew.2.1]
      simp (disch := omega) only [w32_id]
      rw [ew.2.2.1.ptr (i := zSt s + e) (by omega) (by omega)]
      have hlw := (ew.2.2.1.2.2 (zSt s + e) (by omega) (by omega)).2
      refine ⟨fun hc => by omega, fun _ => ⟨ew.1, ⟨trivial, by omega, by omega⟩, ⟨ew.2.2.1.1, by omega, by rw [ew.2.2.1.2.1]; omega⟩, hlw.ln.1, n_zero (p := p) hlw (by omega) (fun S4 m4 l4 => ⟨rfl, ?_⟩)⟩⟩
      rintro _ rfl
      refine hk _ ⟨by omega, em.tr (m4.wide (fun x hx => by unfold ML at hx; unfold MR; omega)), ew.set m4 (by omega) (by omega) l4.w, fun q q0 q1 => ?_⟩
      by_cases eq : q = e
      · rw [eq]
        exact l4
      · exact (el q q0 (by omega)).keep m4 (by unfold ML; omega) (by unfold ML; omega)
    · rintro S3 ⟨e0, em, ew, el⟩
      apply w_Minors_workOut_36
      simp (disch := omega) only [w32_id]
      exact ⟨fun _ => z36 S3 em ew (fun q q0 q1 => by obtain ⟨t, t1, -⟩ := el q q0 q1; exact ⟨t, t1⟩), fun hc => absurd (by omega) hc⟩
  · rintro G S1 ⟨s0, sm1, sw, sG0, sE, sL⟩
    have e1 : zG S1 X 1 = n := by rw [sm1.G (by unfold MX; omega)]; exact g1
    have e2 : zG S1 X 2 = p := by rw [sm1.G (by unfold MX; omega)]; exact g2
    apply w_Minors_workOut_13
    rw [e1, hbs]
    exact ⟨sw.1, fun _ => H S1 G (m0.trans sm1) sw e1 e2 ⟨sG0, sE⟩ sL, fun hc => absurd (by omega) hc⟩
  · have hu : u = 0 := by omega
    subst hu
    rw [hpc0] at e1
    have he : e = 0 := by omega
    subst he
    rw [hst0]
    refine ⟨hx0.2.2.2.more (by omega), fun x hx9 => ?_⟩
    rw [hpc0] at hx9
    have : hiM 0 = 0 := by decide
    (try dsimp only)
    rw [if_neg (by omega)]
