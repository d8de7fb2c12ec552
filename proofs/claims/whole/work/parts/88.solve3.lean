/-! Algebra: solve, as the class runs it. -/
abbrev MS (G : Int) : Int → Prop := fun x => x = G + 4 ∨ x = G + 5 ∨ x = G + 6 ∨ x = G + 13
set_option maxHeartbeats 2000000 in
theorem s_solve {d : Nat} {G n p c : Int} {S : Hp} {Q : Vl → Hp → Prop} (h : HW S G) (hu : Hu S G n p) (hn : 2 ≤ n ∧ n ≤ 4) (hp : isPr p) (hc : 0 ≤ c ∧ c ≤ 16) (hE : ∀ x, 0 ≤ x → x < 64 → 0 ≤ zG S (G + 4) x ∧ zG S (G + 4) x < 20) (hF : ∀ j, 0 ≤ j → j < 4 → in01 (zG S (G + 6) j)) (H : ∀ S' k, Md (MS G) S S' → solved p n c (zG S (G + 4)) (zG S' (G + 6)) (zG S' (G + 5)) k → (∀ j, 0 ≤ j → j < 4 → in01 (zG S' (G + 6) j)) → (∀ x, 0 ≤ x → x < 64 → 0 ≤ zG S' (G + 4) x ∧ zG S' (G + 4) x < 20) → Q (0, k) S') : Ev (d + 2) 12 [(2, G), (0, c)] S Q := by
  have hp7 : 2 ≤ p ∧ p ≤ 7 := by unfold isPr at hp; omega
  apply w_Algebra_solve_0
  refine loopU2 (P := fun j u S' => At (d + 2) 12 c12_4 [(0, (2, G)), (1, (0, c)), (2, (0, u)), (3, (0, j))] [] S' Q) (I := fun j u S' => 0 ≤ j ∧ Md (MS G) S S' ∧ (∀ j, 0 ≤ j → j < 4 → in01 (zG S' (G + 6) j)) ∧ SvI p n c (zG S (G + 4)) j u (zG S' (G + 4)) (zG S' (G + 6)) (zG S' (G + 13))) n ?_ ?_ 0 0 S (by omega) ⟨by omega, Md.refl _ _, hF, SvI.zero hc.1 hE⟩
  · rintro j u S1 hj ⟨j0, jm, jf, ji⟩ hk
    have h1 : HW S1 G := h.keep jm (by omega)
    have u1 : Hu S1 G n p := hu.keep jm (by omega)
    have iu := ji.1
    apply w_Algebra_solve_4
    rw [u1.1]
    refine ⟨h1.k, fun hc => by omega, fun _ => ⟨h1.k, ?_⟩⟩
    refine s_findEquation h1 u1 hp7 ⟨iu.1, iu.2.2⟩ hc.2 ⟨j0, by omega⟩ (fun x x0 x1 => (ji.2.2.1 x x0 x1).1) (fun r r0 r1 hr => ⟨_, rfl, h1.k, ?_⟩) (fun hz => ⟨_, rfl, h1.k, ?_⟩)
    · intro x3 hx3
      rw [if_pos (show 0 ≤ r by omega)] at hx3
      subst hx3
      rw [h1.f5]
      refine ⟨⟨h1.r5.1, j0, by rw [h1.r5.2]; omega, Or.inl rfl⟩, ?_⟩
      rintro _ rfl
      refine ⟨fun hc => by omega, fun _ => ?_⟩
      have m2 : Md (MS G) S1 (zS S1 (G + 6) j 0) := (Md.zS _ _ _ _).wide (fun x hx => Or.inr (Or.inr (Or.inl hx)))
      have h2 : HW (zS S1 (G + 6) j 0) G := h1.keep m2 (by omega)
      have u2 : Hu (zS S1 (G + 6) j 0) G n p := u1.keep m2 (by omega)
      have e2 : zG (zS S1 (G + 6) j 0) (G + 4) = zG S1 (G + 4) := funext fun x => zG_zS_ne _ (Or.inl (by omega))
      have p2 : zG (zS S1 (G + 6) j 0) (G + 13) = zG S1 (G + 13) := funext fun x => zG_zS_ne _ (Or.inl (by omega))
      refine ⟨h2.k, s_sweep h2 u2 hn hp ⟨iu.1, r0, r1⟩ hc.2 ⟨j0, hj⟩ (fun x x0 x1 => by rw [e2]; exact ji.2.2.1 x x0 x1) (by rw [e2]; exact hr) (fun v v0 v1 hv => ⟨rfl, ?_⟩)⟩
      rw [e2] at hv ⊢
      have m3 : Md (MS G) (zS S1 (G + 6) j 0) (zR (zS S1 (G + 6) j 0) (G + 4) (swB p n (swA p (zG S1 (G + 4)) u r v n) u j c 0)) := (Md.zR _ _ _).wide (fun x hx => Or.inl hx)
      have h3 : HW (zR (zS S1 (G + 6) j 0) (G + 4) (swB p n (swA p (zG S1 (G + 4)) u r v n) u j c 0)) G := h2.keep m3 (by omega)
      rw [h3.f12]
      refine ⟨h3.k, ⟨h3.r12.1, j0, by rw [h3.r12.2]; omega⟩, ?_⟩
      rintro _ rfl _ rfl
      rw [w32_id (by omega) (by omega)]
      apply w_Algebra_solve_61
      rintro _ rfl
      rw [w32_id (by omega) (by omega)]
      refine hk _ _ ⟨by omega, ((jm.tr m2).tr m3).tr ((Md.zS _ _ _ _).wide (fun x hx => Or.inr (Or.inr (Or.inr hx)))), fun k k0 k1 => ?_, ?_⟩
      · rw [zG_zS_ne _ (Or.inl (by omega)), zG_zR_ne _ (by omega), zG_zS]
        split
        · exact Or.inl rfl
        · exact jf k k0 k1
      · have e4 : zG (zS (zR (zS S1 (G + 6) j 0) (G + 4) (swB p n (swA p (zG S1 (G + 4)) u r v n) u j c 0)) (G + 13) j u) (G + 4) = swB p n (swA p (zG S1 (G + 4)) u r v n) u j c 0 := funext fun x => by
          rw [zG_zS_ne _ (Or.inl (by omega)), zG_zR_at]
        rw [e4]
        refine ji.piv hp7 hn hc.2 ⟨j0, hj⟩ ⟨r0, r1⟩ hv (fun k k0 k1 => ?_) ?_ (fun k k0 k1 => ?_) ?_
        · rw [zG_zS_ne _ (Or.inl (by omega)), zG_zR_ne _ (by omega), zG_zS_ne _ (Or.inr (by omega))]
        · rw [zG_zS_ne _ (Or.inl (by omega)), zG_zR_ne _ (by omega), zG_zS_at]
        · rw [zG_zS_ne _ (Or.inr (by omega)), zG_zR_ne _ (by omega), zG_zS_ne _ (Or.inl (by omega))]
        · rw [zG_zS_at]
    · intro x3 hx3
      rw [if_neg (show ¬ (0 : Int) ≤ -1 by omega)] at hx3
      subst hx3
      rw [h1.f5]
      refine ⟨⟨h1.r5.1, j0, by rw [h1.r5.2]; omega, Or.inr rfl⟩, ?_⟩
      rintro _ rfl
      refine ⟨fun _ => ?_, fun hc => absurd (show (-1 : Int) < 0 by omega) hc⟩
      apply w_Algebra_solve_61
      rintro _ rfl
      rw [w32_id (by omega) (by omega)]
      refine hk _ _ ⟨by omega, jm.tr ((Md.zS _ _ _ _).wide (fun x hx => Or.inr (Or.inr (Or.inl hx)))), fun k k0 k1 => ?_, ?_⟩
      · rw [zG_zS]
        split
        · exact Or.inr rfl
        · exact jf k k0 k1
      · have e4 : zG (zS S1 (G + 6) j 1) (G + 4) = zG S1 (G + 4) := funext fun x => zG_zS_ne _ (Or.inl (by omega))
        have e5 : zG (zS S1 (G + 6) j 1) (G + 13) = zG S1 (G + 13) := funext fun x => zG_zS_ne _ (Or.inl (by omega))
        rw [e4, e5]
        refine ji.free j0 (fun r r0 r1 => Int.dvd_of_emod_eq_zero (hz r r0 r1)) (fun k k0 k1 => ?_) ?_
        · rw [zG_zS_ne _ (Or.inr (by omega))]
        · rw [zG_zS_at]
  · rintro u S1 ⟨-, jm, jf, ji⟩
    have h1 : HW S1 G := h.keep jm (by omega)
    have u1 : Hu S1 G n p := hu.keep jm (by omega)
    have iu := ji.1
    apply w_Algebra_solve_4
    rw [u1.1]
    refine ⟨h1.k, fun _ => ?_, fun hc => absurd (Int.le_refl n) hc⟩
    generalize hG6 : zG S1 (G + 6) = fr at ji
    generalize hG4 : zG S1 (G + 4) = E at ji
    generalize hG13 : zG S1 (G + 13) = pt at ji
    refine loopU (P := fun j S' => At (d + 2) 12 c12_69 [(0, (2, G)), (2, (0, u)), (3, (0, j))] [] S' Q) (I := fun j S' => 0 ≤ j ∧ Md (fun x => x = G + 5) S1 S' ∧ ∀ k i, 0 ≤ k → k < j → 0 ≤ i → i < n → zG S' (G + 5) (4 * k + i) = soF p E fr pt k i) n ?_ ?_ 0 S1 (by omega) ⟨by omega, Md.refl _ _, fun k i k0 k1 => by omega⟩
    · rintro j S2 hj ⟨j0, m2, v2⟩ hk
      apply w_Algebra_solve_69
      rw [(u1.keep m2 (by omega)).1]
      refine ⟨(h1.keep m2 (by omega)).k, fun hc => by omega, fun _ => ?_⟩
      refine loopU (P := fun i S' => At (d + 2) 12 c12_80 [(0, (2, G)), (2, (0, u)), (3, (0, j)), (4, (0, i))] [] S' Q) (I := fun i S' => 0 ≤ i ∧ Md (fun x => x = G + 5) S1 S' ∧ ∀ k l, 0 ≤ k → 0 ≤ l → l < n → (k < j ∨ k = j ∧ l < i) → zG S' (G + 5) (4 * k + l) = soF p E fr pt k l) n ?_ ?_ 0 S2 (by omega) ⟨by omega, m2, fun k l k0 l0 l1 hq => v2 k l k0 (by omega) l0 l1⟩
      · rintro i S3 hi ⟨i0, m3, v3⟩ hk2
        have h3 : HW S3 G := h1.keep m3 (by omega)
        have u3 : Hu S3 G n p := u1.keep m3 (by omega)
        have e6 : ∀ x, zG S3 (G + 6) x = fr x := fun x => by rw [m3.G (by omega), hG6]
        have e4 : ∀ x, zG S3 (G + 4) x = E x := fun x => by rw [m3.G (by omega), hG4]
        have e13 : ∀ x, zG S3 (G + 13) x = pt x := fun x => by rw [m3.G (by omega), hG13]
        apply w_Algebra_solve_80
        rw [u3.1, u3.2, h3.f5, h3.f12, h3.f3, h3.f4, e6, e13, e4, w32_id (x := 4 * j) (by omega) (by omega), w32_id (x := 4 * j + i) (by omega) (by omega)]
        refine ⟨h3.k, fun hc => by omega, fun _ => ⟨h3.k, ⟨h3.r5.1, i0, by rw [h3.r5.2]; omega⟩, fun hf => ?_, ?_⟩⟩
        · have g := (ji.2.2.2.2.1 i i0 hi hf).1
          rw [w32_id (x := 4 * pt i) (by omega) (by omega), w32_id (x := 4 * pt i + j) (by omega) (by omega)]
          exact ⟨h3.k, h3.k, h3.k, ⟨h3.r12.1, i0, by rw [h3.r12.2]; omega⟩, ⟨h3.r3.1, by omega, by rw [h3.r3.2]; omega⟩, h3.k, by omega⟩
        · intro x2 hx2
          refine ⟨h3.k, ?_⟩
          intro x3 hx3
          have hv : x3 = soF p E fr pt j i := by
            rw [hx3]
            unfold soF
            by_cases q : i = j
            · rw [if_neg (fun z => z q), if_pos q]
            · rw [if_pos q, if_neg q, hx2]
              by_cases hf : fr i = 0
              · have g := (ji.2.2.2.2.1 i i0 hi hf).1
                have g8 := ji.2.2.2.2.2.2.2.1 (pt i) g.1 g.2 j j0 hj
                rw [if_pos hf, if_pos hf, w32_id (x := 4 * pt i) (by omega) (by omega), w32_id (x := 4 * pt i + j) (by omega) (by omega), w32_id (by omega) (by omega), Int.tmod_eq_emod_of_nonneg (by omega)]
              · rw [if_neg hf, if_neg hf]
          refine ⟨⟨h3.r4.1, by omega, by rw [h3.r4.2]; omega⟩, ?_⟩
          rintro _ rfl _ rfl
          rw [w32_id (by omega) (by omega)]
          refine hk2 _ ⟨by omega, m3.tr (Md.zS _ _ _ _), fun k l k0 l0 l1 hq => ?_⟩
          by_cases q : k = j ∧ l = i
          · rw [q.1, q.2, zG_zS_at, hv]
          · rw [zG_zS_ne _ (Or.inr (by omega))]
            exact v3 k l k0 l0 l1 (by omega)
      · rintro S3 ⟨i0, m3, v3⟩
        apply w_Algebra_solve_80
        rw [(u1.keep m3 (by omega)).1]
        refine ⟨(h1.keep m3 (by omega)).k, fun _ => ?_, fun hc => absurd (Int.le_refl n) hc⟩
        rintro _ rfl
        rw [w32_id (by omega) (by omega)]
        exact hk _ ⟨by omega, m3, fun k i k0 k1 i0 i1 => v3 k i k0 i0 i1 (by omega)⟩
    · rintro S2 ⟨j0, m2, v2⟩
      have e6 : zG S2 (G + 6) = fr := funext fun x => by rw [m2.G (by omega), hG6]
      apply w_Algebra_solve_69
      rw [(u1.keep m2 (by omega)).1, w32_id (x := n - u) (by omega) (by omega)]
      refine ⟨(h1.keep m2 (by omega)).k, fun _ => ⟨(h1.keep m2 (by omega)).k, H S2 _ (jm.tr (m2.wide (fun x hx => Or.inr (Or.inl hx)))) ?_ (fun j j0 j1 => ?_) (fun x x0 x1 => ?_)⟩, fun hc => absurd (Int.le_refl n) hc⟩
      · rw [e6]
        exact ji.solved hp7.1 hn (fun j i j0 j1 i0 i1 => v2 j i j0 j1 i0 i1)
      · rw [e6, ← hG6]
        exact jf j j0 j1
      · rw [m2.G (by omega), hG4]
        exact ji.2.2.1 x x0 x1
theorem ker_congr {p n c : Int} {E E' x : Int → Int} (h : ∀ r i, 0 ≤ r → r < c → 0 ≤ i → i < n → E (4 * r + i) = E' (4 * r + i)) (hn : 0 ≤ n) : ker p n c E x ↔ ker p n c E' x := by
  have e : ∀ r, 0 ≤ r → r < c → dot n E r x = dot n E' r x := fun r r0 r1 => dot_same hn fun i i0 i1 => h r i r0 r1 i0 i1
  constructor
  · intro hk r r0 r1
    rw [← e r r0 r1]
    exact hk r r0 r1
  · intro hk r r0 r1
    rw [e r r0 r1]
    exact hk r r0 r1
theorem solved.congr {p n c k : Int} {E E' fr fr' so so' : Int → Int} (h : solved p n c E fr so k) (hn : 0 ≤ n) (hE : ∀ r i, 0 ≤ r → r < c → 0 ≤ i → i < n → E (4 * r + i) = E' (4 * r + i)) (hf : ∀ j, 0 ≤ j → j < n → fr j = fr' j) (hs : ∀ j i, 0 ≤ j → j < n → 0 ≤ i → i < n → so (4 * j + i) = so' (4 * j + i)) : solved p n c E' fr' so' k := by
  obtain ⟨h1, h2, h3, h4, h5, h6, h7, h8⟩ := h
  refine ⟨fun j j0 j1 => by rw [← hf j j0 j1]; exact h1 j j0 j1, fun j i j0 j1 i0 i1 => by rw [← hs j i j0 j1 i0 i1]; exact h2 j i j0 j1 i0 i1, fun j j0 j1 hj => ?_, fun j j0 j1 => by rw [← hs j j j0 j1 j0 j1]; exact h4 j j0 j1, fun j i j0 j1 i0 i1 hij hi => by rw [← hs j i j0 j1 i0 i1]; exact h5 j i j0 j1 i0 i1 hij (by rw [hf i i0 i1]; exact hi), fun j i j0 ji i1 => by rw [← hs j i j0 (by omega) (by omega) i1]; exact h6 j i j0 ji i1, fun x hx i i0 i1 hi => ?_, ?_⟩
  · have g := (ker_congr hE hn).1 (h3 j j0 j1 (by rw [hf j j0 j1]; exact hj))
    intro r r0 r1
    have e : dot n E' r (fun i => so (4 * j + i)) = dot n E' r (fun i => so' (4 * j + i)) := sm_congr fun i i0 i1 => by dsimp only; rw [hs j i j0 j1 i0 (by omega)]
    rw [← e]
    exact g r r0 r1
  · have g := h7 x ((ker_congr hE hn).2 hx) i i0 i1 (by rw [hf i i0 i1]; exact hi)
    rw [sm_congr (g := fun j => if fr' j = 1 then x j * so' (4 * j + i) else 0) (fun j j0 j1 => by rw [hf j j0 (by omega), hs j i j0 (by omega) i0 i1])] at g
    exact g
  · rw [h8]
    exact sm_congr fun i i0 i1 => hf i i0 (by omega)
