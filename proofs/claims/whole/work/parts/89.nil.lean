/-! Algebra: nil classes, points, gain. -/
def nilE (p n : Int) (pw : Int → Int) : Int → Int := fun x => if p < n then sqM p n pw pw (fun _ => 0) x else pw x
abbrev MNl (G : Int) : Int → Prop := fun x => x = G + 4 ∨ x = G + 5 ∨ x = G + 6 ∨ x = G + 7 ∨ x = G + 8 ∨ x = G + 11 ∨ x = G + 13
theorem sqM_bd {p n : Int} {f g : Int → Int} (hp : 2 ≤ p) {o : Int → Int} (x : Int) (ho : 0 ≤ o x ∧ o x < 10) (hp7 : p ≤ 7) : 0 ≤ sqM p n f g o x ∧ sqM p n f g o x < 10 := by
  unfold sqM
  split
  · have a1 := Int.emod_nonneg (sm n.toNat (fun l => f (4 * (x / 4) + l) * g (4 * l + x % 4))) (show p ≠ 0 by omega)
    have a2 := Int.emod_lt_of_pos (sm n.toNat (fun l => f (4 * (x / 4) + l) * g (4 * l + x % 4))) (show 0 < p by omega)
    omega
  · exact ho
set_option maxHeartbeats 1000000 in
theorem s_findNil {d : Nat} {G n p : Int} {S : Hp} {Q : Vl → Hp → Prop} (h : HW S G) (hu : Hu S G n p) (hn : 2 ≤ n ∧ n ≤ 4) (hp : isPr p) (hE : ∀ x, 0 ≤ x → x < 64 → 0 ≤ zG S (G + 4) x ∧ zG S (G + 4) x < 20) (hF : ∀ j, 0 ≤ j → j < 4 → in01 (zG S (G + 6) j)) (hP : ∀ x, 0 ≤ x → x < 16 → 0 ≤ zG S (G + 3) x ∧ zG S (G + 3) x < 10) (hQ : ∀ x, 0 ≤ x → x < 16 → 0 ≤ zG S (G + 11) x ∧ zG S (G + 11) x < 10) (H : ∀ S' k, Md (MNl G) S S' → solved p n n (nilE p n (zG S (G + 3))) (zG S' (G + 8)) (zG S' (G + 7)) k → (∀ j, 0 ≤ j → j < 4 → in01 (zG S' (G + 6) j)) → (∀ j, 0 ≤ j → j < 4 → in01 (zG S' (G + 8) j)) → (∀ x, 0 ≤ x → x < 64 → 0 ≤ zG S' (G + 4) x ∧ zG S' (G + 4) x < 20) → (∀ x, 0 ≤ x → x < 16 → 0 ≤ zG S' (G + 11) x ∧ zG S' (G + 11) x < 10) → Q (0, k) S') : Ev (d + 3) 6 [(2, G)] S Q := by
  have hp7 : 2 ≤ p ∧ p ≤ 7 := by unfold isPr at hp; omega
  have tail : ∀ S1, Md (fun x => x = G + 4 ∨ x = G + 11) S S1 → (∀ x, 0 ≤ x → x < 64 → 0 ≤ zG S1 (G + 4) x ∧ zG S1 (G + 4) x < 20) → (∀ r i, 0 ≤ r → r < n → 0 ≤ i → i < n → zG S1 (G + 4) (4 * r + i) = nilE p n (zG S (G + 3)) (4 * r + i)) → (∀ x, 0 ≤ x → x < 16 → 0 ≤ zG S1 (G + 11) x ∧ zG S1 (G + 11) x < 10) → At (d + 3) 6 c6_53 [(0, (2, G))] [] S1 Q := fun S1 m1 b1 e1 q1 => by
    have h1 : HW S1 G := h.keep m1 (by omega)
    have u1 : Hu S1 G n p := hu.keep m1 (by omega)
    apply w_Algebra_findNil_53
    rw [u1.1]
    refine ⟨h1.k, h1.k, s_solve h1 u1 hn hp ⟨by omega, by omega⟩ b1 (fun j j0 j1 => by rw [m1.G (by omega)]; exact hF j j0 j1) (fun S2 k m2 s2 f2 b2 => ⟨_, rfl, ?_⟩)⟩
    have h2 : HW S2 G := h1.keep m2 (by omega)
    rw [h2.f4, h2.f6]
    refine ⟨h2.k, h2.k, ⟨⟨h2.r4.1, h2.r6.1⟩, ⟨by omega, by omega, by omega⟩, by rw [h2.r4.2]; omega, by rw [h2.r6.2]; omega⟩, ?_⟩
    rintro _ rfl
    generalize hS3 : zC S2 (G + 5) 0 (G + 7) 0 16 = S3
    have m3 : Md (fun x => x = G + 7) S2 S3 := by
      rw [← hS3]
      exact ⟨rfl, rfl, fun a i ha => by rw [zG_zC, if_neg (fun z => ha z.1)]⟩
    have v3 : ∀ x, 0 ≤ x → x < 16 → zG S3 (G + 7) x = zG S2 (G + 5) x := fun x x0 x1 => by
      rw [← hS3, zG_zC, if_pos ⟨rfl, x0, by omega⟩, show 0 + (x - 0) = x by omega]
    refine loopU (P := fun j S' => At (d + 3) 6 c6_79 [(0, (2, G)), (1, (0, k)), (2, (0, j))] [] S' Q) (I := fun j S' => 0 ≤ j ∧ Md (fun x => x = G + 8) S3 S' ∧ ∀ l, 0 ≤ l → l < j → zG S' (G + 8) l = zG S2 (G + 6) l) 4 ?_ ?_ 0 S3 (by omega) ⟨by omega, Md.refl _ _, fun l l0 l1 => by omega⟩
    · rintro j S4 hj ⟨j0, m4, v4⟩ hk
      have h4 : HW S4 G := (h2.keep m3 (by omega)).keep m4 (by omega)
      have e4 : ∀ x, zG S4 (G + 6) x = zG S2 (G + 6) x := fun x => by rw [m4.G (by omega), m3.G (by omega)]
      apply w_Algebra_findNil_79
      rw [h4.f5, h4.f7, e4]
      refine ⟨fun hc => by omega, fun _ => ⟨h4.k, h4.k, ⟨h4.r5.1, j0, by rw [h4.r5.2]; omega⟩, ⟨h4.r7.1, j0, by rw [h4.r7.2]; omega, f2 j j0 hj⟩, ?_⟩⟩
      rintro _ rfl _ rfl
      rw [w32_id (by omega) (by omega)]
      refine hk _ ⟨by omega, m4.tr (Md.zS _ _ _ _), fun l l0 l1 => ?_⟩
      by_cases q : l = j
      · rw [q, zG_zS_at]
      · rw [zG_zS_ne _ (Or.inr q)]
        exact v4 l l0 (by omega)
    · rintro S4 ⟨-, m4, v4⟩
      apply w_Algebra_findNil_79
      refine ⟨fun _ => H S4 k ?_ ?_ (fun j j0 j1 => ?_) (fun j j0 j1 => ?_) (fun x x0 x1 => ?_) (fun x x0 x1 => ?_), fun hc => absurd (Int.le_refl 4) hc⟩
      · exact (((m1.wide (fun x hx => by omega)).tr (m2.wide (fun x hx => by omega))).tr (m3.wide (fun x hx => by omega))).tr (m4.wide (fun x hx => by omega))
      · exact s2.congr (by omega) e1 (fun j j0 j1 => (v4 j j0 (by omega)).symm) (fun j i j0 j1 i0 i1 => by rw [m4.G (by omega), v3 _ (by omega) (by omega)])
      · rw [m4.G (by omega), m3.G (by omega)]
        exact f2 j j0 j1
      · rw [v4 j j0 j1]
        exact f2 j j0 j1
      · rw [m4.G (by omega), m3.G (by omega)]
        exact b2 x x0 x1
      · rw [m4.G (by omega), m3.G (by omega), m2.G (by omega)]
        exact q1 x x0 x1
  apply w_Algebra_findNil_0
  rw [h.f2, h.f3]
  refine ⟨h.k, h.k, ⟨⟨h.r2.1, h.r3.1⟩, ⟨by omega, by omega, by omega⟩, by rw [h.r2.2]; omega, by rw [h.r3.2]; omega⟩, ?_⟩
  rintro _ rfl
  generalize hS1 : zC S (G + 3) 0 (G + 4) 0 16 = S1
  have m1 : Md (fun x => x = G + 4) S S1 := by
    rw [← hS1]
    exact ⟨rfl, rfl, fun a i ha => by rw [zG_zC, if_neg (fun z => ha z.1)]⟩
  have v1 : ∀ x, 0 ≤ x → x < 16 → zG S1 (G + 4) x = zG S (G + 3) x := fun x x0 x1 => by
    rw [← hS1, zG_zC, if_pos ⟨rfl, x0, by omega⟩, show 0 + (x - 0) = x by omega]
  have o1 : ∀ x, ¬ (0 ≤ x ∧ x < 16) → zG S1 (G + 4) x = zG S (G + 4) x := fun x hx => by
    rw [← hS1, zG_zC, if_neg (fun z => hx ⟨z.2.1, by omega⟩)]
  have b1 : ∀ x, 0 ≤ x → x < 64 → 0 ≤ zG S1 (G + 4) x ∧ zG S1 (G + 4) x < 20 := fun x x0 x1 => by
    by_cases q : x < 16
    · rw [v1 x x0 q]
      have := hP x x0 q
      omega
    · rw [o1 x (by omega)]
      exact hE x x0 x1
  have h1 : HW S1 G := h.keep m1 (by omega)
  have u1 : Hu S1 G n p := hu.keep m1 (by omega)
  have q1 : ∀ x, zG S1 (G + 11) x = zG S (G + 11) x := fun x => m1.G (by omega) x
  have p1 : zG S1 (G + 3) = zG S (G + 3) := funext fun x => m1.G (by omega) x
  rw [u1.1, u1.2, h1.f2]
  refine ⟨h1.k, h1.k, fun hq => ?_, fun hq => ⟨h1.k, h1.k, h1.k, ?_⟩⟩
  · refine tail S1 (m1.wide (fun x hx => Or.inl hx)) b1 (fun r i r0 r1 i0 i1 => ?_) (fun x x0 x1 => by rw [q1]; exact hQ x x0 x1)
    unfold nilE
    rw [if_neg (by omega), v1 _ (by omega) (by omega)]
  · refine s_multiplySquares h1 u1 hn hp7 h1.r2 (by omega) h1.r2 (by omega) (by omega) (by omega) (fun i i0 i1 => by rw [p1]; exact hP i i0 i1) (fun i i0 i1 => by rw [p1]; exact hP i i0 i1) ⟨rfl, ?_⟩
    have h2 : HW (zR S1 (G + 11) (sqM p n (zG S1 (G + 3)) (zG S1 (G + 3)) (zG S1 (G + 11)))) G := h1.zR (by omega)
    rw [h2.f10, h2.f3]
    refine ⟨h2.k, h2.k, ⟨⟨h2.r10.1, h2.r3.1⟩, ⟨by omega, by omega, by omega⟩, by rw [h2.r10.2]; omega, by rw [h2.r3.2]; omega⟩, ?_⟩
    have m2 : Md (fun x => x = G + 11) S1 (zR S1 (G + 11) (sqM p n (zG S1 (G + 3)) (zG S1 (G + 3)) (zG S1 (G + 11)))) := Md.zR _ _ _
    have v2 : ∀ x, zG (zR S1 (G + 11) (sqM p n (zG S1 (G + 3)) (zG S1 (G + 3)) (zG S1 (G + 11)))) (G + 11) x = sqM p n (zG S (G + 3)) (zG S (G + 3)) (zG S1 (G + 11)) x := fun x => by rw [zG_zR_at, p1]
    generalize zR S1 (G + 11) (sqM p n (zG S1 (G + 3)) (zG S1 (G + 3)) (zG S1 (G + 11))) = S2 at *
    have q2 : ∀ x, 0 ≤ x → x < 16 → 0 ≤ zG S2 (G + 11) x ∧ zG S2 (G + 11) x < 10 := fun x x0 x1 => by
      rw [v2]
      exact sqM_bd hp7.1 x (by rw [q1]; exact hQ x x0 x1) hp7.2
    rintro _ rfl
    refine tail _ ?_ (fun x x0 x1 => ?_) (fun r i r0 r1 i0 i1 => ?_) (fun x x0 x1 => ?_)
    · refine ((m1.wide (fun x hx => Or.inl hx)).tr (m2.wide (fun x hx => Or.inr hx))).tr ⟨rfl, rfl, fun a i ha => ?_⟩
      rw [zG_zC, if_neg (fun z => ha (Or.inl z.1))]
    · rw [zG_zC]
      split
      · have := q2 (0 + (x - 0)) (by omega) (by omega)
        omega
      · rw [m2.G (by omega)]
        exact b1 x x0 x1
    · rw [zG_zC, if_pos ⟨rfl, by omega, by omega⟩, v2]
      unfold nilE
      rw [if_pos (by omega), show 0 + (4 * r + i - 0) = 4 * r + i by omega]
      unfold sqM
      rw [if_pos ⟨by omega, by omega, by omega⟩, if_pos ⟨by omega, by omega, by omega⟩]
    · rw [zG_zC, if_neg (by omega)]
      exact q2 x x0 x1
def ptE (p : Int) (pw : Int → Int) : Int → Int := fun x => pw x + (if x / 4 = x % 4 then p - 1 else 0)
theorem s_countPoints {d : Nat} {G n p : Int} {S : Hp} {Q : Vl → Hp → Prop} (h : HW S G) (hu : Hu S G n p) (hn : 2 ≤ n ∧ n ≤ 4) (hp : isPr p) (hE : ∀ x, 0 ≤ x → x < 64 → 0 ≤ zG S (G + 4) x ∧ zG S (G + 4) x < 20) (hF : ∀ j, 0 ≤ j → j < 4 → in01 (zG S (G + 6) j)) (hP : ∀ x, 0 ≤ x → x < 16 → 0 ≤ zG S (G + 3) x ∧ zG S (G + 3) x < 10) (H : ∀ S' k, Md (MS G) S S' → solved p n n (ptE p (zG S (G + 3))) (zG S' (G + 6)) (zG S' (G + 5)) k → (∀ j, 0 ≤ j → j < 4 → in01 (zG S' (G + 6) j)) → (∀ x, 0 ≤ x → x < 64 → 0 ≤ zG S' (G + 4) x ∧ zG S' (G + 4) x < 20) → Q (0, k) S') : Ev (d + 3) 7 [(2, G)] S Q := by
  have hp7 : 2 ≤ p ∧ p ≤ 7 := by unfold isPr at hp; omega
  apply w_Algebra_countPoints_0
  refine ⟨h.k, s_askPowersSame h hu hn hp7 hP (fun S1 m1 v1 o1 => ⟨rfl, ?_⟩)⟩
  have h1 : HW S1 G := h.keep m1 (by omega)
  have u1 : Hu S1 G n p := hu.keep m1 (by omega)
  rw [u1.1]
  refine ⟨h1.k, h1.k, s_solve h1 u1 hn hp ⟨by omega, by omega⟩ (fun x x0 x1 => ?_) (fun j j0 j1 => by rw [m1.G (by omega)]; exact hF j j0 j1) (fun S2 k m2 s2 f2 b2 => ⟨_, rfl, H S2 k ((m1.wide (fun x hx => Or.inl hx)).tr m2) (s2.congr (by omega) (fun r i r0 r1 i0 i1 => ?_) (fun _ _ _ => rfl) (fun _ _ _ _ _ _ => rfl)) f2 b2⟩)⟩
  · by_cases q : sqI n x
    · have := v1 (x / 4) (x % 4) (by omega) q.2.1 (by omega) q.2.2
      have e : 4 * (x / 4) + x % 4 = x := by omega
      rw [e] at this
      rw [this]
      have b := hP x x0 (by have := q.2.1; omega)
      split <;> omega
    · rw [o1 x q]
      exact hE x x0 x1
  · rw [v1 r i r0 r1 i0 i1]
    unfold ptE
    rw [show (4 * r + i) / 4 = r by omega, show (4 * r + i) % 4 = i by omega]
theorem s_gainOf {d : Nat} {G j : Int} {S : Hp} {Q : Vl → Hp → Prop} (h : HW S G) (hj : 0 ≤ j ∧ j < 4) (hF : in01 (zG S (G + 6) j)) (hN : in01 (zG S (G + 8) j)) (H : Q (0, zG S (G + 6) j - (1 - zG S (G + 8) j)) S) : Ev d 17 [(2, G), (0, j)] S Q := by
  apply w_Algebra_gainOf_0
  rw [h.f5, h.f7]
  refine ⟨h.k, ⟨h.r5.1, hj.1, by rw [h.r5.2]; omega⟩, ?_⟩
  intro x1 hx1
  refine ⟨h.k, ⟨h.r7.1, hj.1, by rw [h.r7.2]; omega⟩, ?_⟩
  intro x2 hx2
  have e1 : x1 = zG S (G + 6) j := by
    rw [hx1]
    rcases hF with q | q
    · rw [if_pos q, q]
    · rw [if_neg (by omega), q]
  have e2 : x2 = 1 - zG S (G + 8) j := by
    rw [hx2]
    rcases hN with q | q
    · rw [if_pos q, q]
      rfl
    · rw [if_neg (by omega), q]
      rfl
  rw [e1, e2, w32_id (by rcases hF with q | q <;> rcases hN with q2 | q2 <;> omega) (by rcases hF with q | q <;> rcases hN with q2 | q2 <;> omega)]
  exact H
