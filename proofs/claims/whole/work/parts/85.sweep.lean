/-! Algebra: one step of the solving of equations. -/
abbrev isPr (p : Int) : Prop := p = 2 ∨ p = 3 ∨ p = 5 ∨ p = 7
theorem inv_ex {p r : Int} (hp : isPr p) (h0 : 1 ≤ r) (h1 : r < p) : ∃ v, 1 ≤ v ∧ v < p ∧ r * v % p = 1 := by
  have : r = 1 ∨ r = 2 ∨ r = 3 ∨ r = 4 ∨ r = 5 ∨ r = 6 := by unfold isPr at hp; omega
  rcases hp with rfl | rfl | rfl | rfl
  · exact ⟨1, by omega, by omega, by omega⟩
  · rcases this with rfl | rfl | rfl | rfl | rfl | rfl
    · exact ⟨1, by omega⟩
    · exact ⟨2, by omega⟩
    all_goals omega
  · rcases this with rfl | rfl | rfl | rfl | rfl | rfl
    · exact ⟨1, by omega⟩
    · exact ⟨3, by omega⟩
    · exact ⟨2, by omega⟩
    · exact ⟨4, by omega⟩
    all_goals omega
  · rcases this with rfl | rfl | rfl | rfl | rfl | rfl
    · exact ⟨1, by omega⟩
    · exact ⟨4, by omega⟩
    · exact ⟨5, by omega⟩
    · exact ⟨2, by omega⟩
    · exact ⟨3, by omega⟩
    · exact ⟨6, by omega⟩
theorem s_inverted {d : Nat} {r p : Int} {S : Hp} {Q : Vl → Hp → Prop} (hp : isPr p) (h0 : 1 ≤ r) (h1 : r < p) (H : ∀ v, 1 ≤ v → v < p → r * v % p = 1 → Q (0, v) S) : Ev d 159 [(0, r), (0, p)] S Q := by
  have hp7 : 2 ≤ p ∧ p ≤ 7 := by unfold isPr at hp; omega
  apply w_Crc_inverted_0
  refine loopU (α := Unit) (P := fun v _ => At d 159 c159_2 [(0, (0, r)), (1, (0, p)), (2, (0, v))] [] S Q) (I := fun v _ => 1 ≤ v ∧ ∀ w, 1 ≤ w → w < v → ¬ r * w % p = 1) p ?_ ?_ 1 () (by omega) ⟨by omega, fun w w0 w1 => by omega⟩
  · rintro v _ hv ⟨v0, vn⟩ hk
    have b := mul_b (x := r) (y := v) (by omega) (by omega)
    apply w_Crc_inverted_2
    rw [w32_id (x := r * v) (by omega) (by omega), Int.tmod_eq_emod_of_nonneg b.1]
    refine ⟨fun hc => by omega, fun _ => ⟨by omega, fun hq => ?_, fun hq => H v v0 hv (Classical.not_not.mp hq)⟩⟩
    rintro _ rfl
    rw [w32_id (by omega) (by omega)]
    refine hk () ⟨by omega, fun w w0 w1 => ?_⟩
    by_cases q : w = v
    · rw [q]
      exact hq
    · exact vn w w0 (by omega)
  · rintro _ ⟨-, vn⟩
    obtain ⟨v, v0, v1, v2⟩ := inv_ex hp h0 h1
    exact absurd v2 (vn v v0 v1)
theorem s_findEquation {d : Nat} {G n p u c j : Int} {S : Hp} {Q : Vl → Hp → Prop} (h : HW S G) (hu : Hu S G n p) (hp : 2 ≤ p ∧ p ≤ 7) (hu0 : 0 ≤ u ∧ u ≤ c) (hc : c ≤ 16) (hj : 0 ≤ j ∧ j < 4) (hb : ∀ x, 0 ≤ x → x < 64 → 0 ≤ zG S (G + 4) x) (H1 : ∀ r, u ≤ r → r < c → ¬ zG S (G + 4) (4 * r + j) % p = 0 → Q (0, r) S) (H0 : (∀ r, u ≤ r → r < c → zG S (G + 4) (4 * r + j) % p = 0) → Q (0, -1) S) : Ev d 13 [(2, G), (0, u), (0, c), (0, j)] S Q := by
  apply w_Algebra_findEquation_0
  refine loopU (α := Unit) (P := fun r _ => At d 13 c13_3 [(0, (2, G)), (2, (0, c)), (3, (0, j)), (4, (0, r))] [] S Q) (I := fun r _ => u ≤ r ∧ ∀ w, u ≤ w → w < r → zG S (G + 4) (4 * w + j) % p = 0) c ?_ ?_ u () (by omega) ⟨by omega, fun w w0 w1 => by omega⟩
  · rintro r _ hr ⟨r0, rn⟩ hk
    apply w_Algebra_findEquation_3
    rw [h.f3, hu.2, w32_id (x := 4 * r) (by omega) (by omega), w32_id (x := 4 * r + j) (by omega) (by omega), Int.tmod_eq_emod_of_nonneg (hb _ (by omega) (by omega))]
    refine ⟨fun hc => by omega, fun _ => ⟨h.k, ⟨h.r3.1, by omega, by rw [h.r3.2]; omega⟩, h.k, by omega, fun hq => ?_, fun hq => H1 r r0 hr hq⟩⟩
    rintro _ rfl
    rw [w32_id (by omega) (by omega)]
    refine hk () ⟨by omega, fun w w0 w1 => ?_⟩
    by_cases q : w = r
    · rw [q]
      exact hq
    · exact rn w w0 (by omega)
  · rintro _ ⟨-, rn⟩
    apply w_Algebra_findEquation_3
    exact ⟨fun _ => H0 rn, fun hc => absurd (Int.le_refl c) hc⟩
/-- equation f goes to row at, times by; what stood there goes to f; as far as unknown I -/
def swA (p : Int) (E : Int → Int) (at' f by' I : Int) : Int → Int := fun x => if 0 ≤ x ∧ x % 4 < I ∧ x / 4 = at' then E (4 * f + x % 4) * by' % p else if 0 ≤ x ∧ x % 4 < I ∧ x / 4 = f then E (4 * at' + x % 4) else E x
theorem swA_1 {p at' f by' I x : Int} {E : Int → Int} (h : 0 ≤ x ∧ x % 4 < I ∧ x / 4 = at') : swA p E at' f by' I x = E (4 * f + x % 4) * by' % p := if_pos h
theorem swA_2 {p at' f by' I x : Int} {E : Int → Int} (h : 0 ≤ x ∧ x % 4 < I ∧ x / 4 = f) (h1 : f ≠ at') : swA p E at' f by' I x = E (4 * at' + x % 4) := (if_neg (by omega)).trans (if_pos h)
theorem swA_3 {p at' f by' I x : Int} {E : Int → Int} (h1 : ¬ (0 ≤ x ∧ x % 4 < I ∧ x / 4 = at')) (h2 : ¬ (0 ≤ x ∧ x % 4 < I ∧ x / 4 = f)) : swA p E at' f by' I x = E x := (if_neg h1).trans (if_neg h2)
theorem swA_bd {p at' f by' I : Int} {E : Int → Int} (hp : 2 ≤ p ∧ p ≤ 7) (ha : 0 ≤ at' ∧ at' < 16) (hf : 0 ≤ f ∧ f < 16) (hE : ∀ x, 0 ≤ x → x < 64 → 0 ≤ E x ∧ E x < 20) (x : Int) (x0 : 0 ≤ x) (x1 : x < 64) : 0 ≤ swA p E at' f by' I x ∧ swA p E at' f by' I x < 20 := by
  unfold swA
  split
  · have a1 := Int.emod_nonneg (E (4 * f + x % 4) * by') (show p ≠ 0 by omega)
    have a2 := Int.emod_lt_of_pos (E (4 * f + x % 4) * by') (show 0 < p by omega)
    omega
  · split
    · exact hE _ (by omega) (by omega)
    · exact hE x x0 x1
abbrev swC (p n : Int) (A : Int → Int) (at' j R I x : Int) : Prop := 0 ≤ x ∧ x % 4 < n ∧ x / 4 ≠ at' ∧ A (4 * (x / 4) + j) % p ≠ 0 ∧ (x / 4 < R ∨ (x / 4 = R ∧ x % 4 < I))
/-- unknown j leaves all rows but at -/
def swB (p n : Int) (A : Int → Int) (at' j R I : Int) : Int → Int := fun x => if swC p n A at' j R I x then (A x + (p - A (4 * (x / 4) + j) % p) * A (4 * at' + x % 4)) % p else A x
theorem swB_1 {p n at' j R I x : Int} {A : Int → Int} (h : swC p n A at' j R I x) : swB p n A at' j R I x = (A x + (p - A (4 * (x / 4) + j) % p) * A (4 * at' + x % 4)) % p := if_pos h
theorem swB_0 {p n at' j R I x : Int} {A : Int → Int} (h : ¬ swC p n A at' j R I x) : swB p n A at' j R I x = A x := if_neg h
theorem swB_bd {p n at' j R I : Int} {A : Int → Int} (hp : 2 ≤ p ∧ p ≤ 7) (hE : ∀ x, 0 ≤ x → x < 64 → 0 ≤ A x ∧ A x < 20) (x : Int) (x0 : 0 ≤ x) (x1 : x < 64) : 0 ≤ swB p n A at' j R I x ∧ swB p n A at' j R I x < 20 := by
  by_cases q : swC p n A at' j R I x
  · rw [swB_1 q]
    have a1 := Int.emod_nonneg (A x + (p - A (4 * (x / 4) + j) % p) * A (4 * at' + x % 4)) (show p ≠ 0 by omega)
    have a2 := Int.emod_lt_of_pos (A x + (p - A (4 * (x / 4) + j) % p) * A (4 * at' + x % 4)) (show 0 < p by omega)
    omega
  · rw [swB_0 q]
    exact hE x x0 x1
theorem mul_b2 {x y : Int} (hx : 0 ≤ x ∧ x < 20) (hy : 0 ≤ y ∧ y < 10) : 0 ≤ x * y ∧ x * y ≤ 200 := by
  refine ⟨Int.mul_nonneg hx.1 hy.1, ?_⟩
  have := Int.mul_le_mul (show x ≤ 20 by omega) (show y ≤ 10 by omega) hy.1 (by omega)
  omega
set_option maxHeartbeats 2000000 in
theorem s_sweep {d : Nat} {G n p u f c j : Int} {S : Hp} {Q : Vl → Hp → Prop} (h : HW S G) (hu : Hu S G n p) (hn : 2 ≤ n ∧ n ≤ 4) (hp : isPr p) (hu0 : 0 ≤ u ∧ u ≤ f ∧ f < c) (hc : c ≤ 16) (hj : 0 ≤ j ∧ j < n) (hb : ∀ x, 0 ≤ x → x < 64 → 0 ≤ zG S (G + 4) x ∧ zG S (G + 4) x < 20) (hf : ¬ zG S (G + 4) (4 * f + j) % p = 0) (H : ∀ v, 1 ≤ v → v < p → zG S (G + 4) (4 * f + j) * v % p = 1 → Q (3, 0) (zR S (G + 4) (swB p n (swA p (zG S (G + 4)) u f v n) u j c 0))) : Ev (d + 1) 14 [(2, G), (0, u), (0, f), (0, c), (0, j)] S Q := by
  have hp7 : 2 ≤ p ∧ p ≤ 7 := by unfold isPr at hp; omega
  have e0 := hb (4 * f + j) (by omega) (by omega)
  have m0 := Int.emod_nonneg (zG S (G + 4) (4 * f + j)) (show p ≠ 0 by omega)
  have m1 := Int.emod_lt_of_pos (zG S (G + 4) (4 * f + j)) (show 0 < p by omega)
  apply w_Algebra_sweep_0
  rw [h.f3, hu.2, w32_id (x := 4 * f) (by omega) (by omega), w32_id (x := 4 * f + j) (by omega) (by omega), Int.tmod_eq_emod_of_nonneg e0.1]
  refine ⟨h.k, ⟨h.r3.1, by omega, by rw [h.r3.2]; omega⟩, h.k, by omega, h.k, s_inverted hp (by omega) m1 (fun v v0 v1 v2 => ⟨_, rfl, ?_⟩)⟩
  have hv : zG S (G + 4) (4 * f + j) * v % p = 1 := by
    rw [← v2, Int.mul_emod, Int.mul_emod (zG S (G + 4) (4 * f + j) % p) v, Int.emod_emod_of_dvd _ (Int.dvd_refl p)]
  have H := H v v0 v1 hv
  generalize hE : zG S (G + 4) = E at *
  have e1 : S = zR S (G + 4) (swA p E u f v 0) := by
    conv => lhs; rw [← zR_self S (G + 4)]
    refine zR_congr _ _ fun x => ?_
    rw [hE, swA_3 (by omega) (by omega)]
  rw [e1]
  clear e1
  refine loopU (α := Unit) (P := fun i _ => At (d + 1) 14 c14_28 [(0, (2, G)), (1, (0, u)), (2, (0, f)), (3, (0, c)), (4, (0, j)), (5, (0, v)), (6, (0, i))] [] (zR S (G + 4) (swA p E u f v i)) Q) (I := fun i _ => 0 ≤ i) n ?_ ?_ 0 () (by omega) (by omega)
  · rintro i _ hi i0 hk
    have hi0 : 0 ≤ i := i0
    have h1 : HW (zR S (G + 4) (swA p E u f v i)) G := h.zR (by omega)
    have u1 : Hu (zR S (G + 4) (swA p E u f v i)) G n p := hu.zR (by omega)
    have eu : swA p E u f v i (4 * u + i) = E (4 * u + i) := swA_3 (by omega) (by omega)
    have ef : swA p E u f v i (4 * f + i) = E (4 * f + i) := swA_3 (by omega) (by omega)
    have bf := mul_b2 (hb (4 * f + i) (by omega) (by omega)) (show 0 ≤ v ∧ v < 10 by omega)
    apply w_Algebra_sweep_28
    rw [u1.1, u1.2, h1.f3, zG_zR_at, w32_id (x := 4 * f) (by omega) (by omega), w32_id (x := 4 * f + i) (by omega) (by omega), w32_id (x := 4 * u) (by omega) (by omega), w32_id (x := 4 * u + i) (by omega) (by omega), eu, zG_zR_at, ef, w32_id (x := E (4 * f + i) * v) (by omega) (by omega), Int.tmod_eq_emod_of_nonneg bf.1]
    refine ⟨h1.k, fun hc => by omega, fun _ => ⟨h1.k, ⟨h1.r3.1, by omega, by rw [h1.r3.2]; omega⟩, ?_⟩⟩
    rintro x1 hx1
    refine ⟨h1.k, h1.k, ⟨h1.r3.1, by omega, by rw [h1.r3.2]; omega⟩, h1.k, by omega, ⟨h1.r3.1, by omega, by rw [h1.r3.2]; omega⟩, ?_⟩
    rintro _ rfl
    rw [zS_zR]
    refine ⟨fun hq => ?_, fun hq => ?_⟩
    · have e : ∀ x, (if x = 4 * u + i then E (4 * f + i) * v % p else swA p E u f v i x) = swA p E u f v (i + 1) x := fun x => by
        by_cases q : x = 4 * u + i
        · rw [if_pos q, swA_1 (by omega), show x % 4 = i by omega]
        · rw [if_neg q]
          by_cases q1 : 0 ≤ x ∧ x % 4 < i ∧ x / 4 = u
          · rw [swA_1 q1, swA_1 (by omega)]
          · rw [swA_3 q1 (by omega), swA_3 (by omega) (by omega)]
      rw [zR_congr _ _ e]
      apply w_Algebra_sweep_98
      rintro _ rfl
      rw [w32_id (by omega) (by omega)]
      exact hk () (by omega)
    · have h2 : HW (zR S (G + 4) (fun x => if x = 4 * u + i then E (4 * f + i) * v % p else swA p E u f v i x)) G := h.zR (by omega)
      rw [h2.f3]
      refine ⟨h2.k, ⟨h2.r3.1, by omega, by rw [h2.r3.2]; omega⟩, ?_⟩
      rintro _ rfl
      rw [zS_zR]
      have e : ∀ x, (if x = 4 * f + i then x1 else if x = 4 * u + i then E (4 * f + i) * v % p else swA p E u f v i x) = swA p E u f v (i + 1) x := fun x => by
        by_cases q0 : x = 4 * f + i
        · rw [if_pos q0, swA_2 (by omega) (by omega), hx1, show x % 4 = i by omega]
        · rw [if_neg q0]
          by_cases q : x = 4 * u + i
          · rw [if_pos q, swA_1 (by omega), show x % 4 = i by omega]
          · rw [if_neg q]
            by_cases q1 : 0 ≤ x ∧ x % 4 < i ∧ x / 4 = u
            · rw [swA_1 q1, swA_1 (by omega)]
            · by_cases q2 : 0 ≤ x ∧ x % 4 < i ∧ x / 4 = f
              · rw [swA_2 q2 (by omega), swA_2 (by omega) (by omega)]
              · rw [swA_3 q1 q2, swA_3 (by omega) (by omega)]
      rw [zR_congr _ _ e]
      apply w_Algebra_sweep_98
      rintro _ rfl
      rw [w32_id (by omega) (by omega)]
      exact hk () (by omega)
  · rintro _ -
    have bA := swA_bd (I := n) (by' := v) (f := f) (at' := u) hp7 (by omega) (by omega) hb
    generalize swA p E u f v n = A at *
    have h1 : HW (zR S (G + 4) A) G := h.zR (by omega)
    have u1 : Hu (zR S (G + 4) A) G n p := hu.zR (by omega)
    apply w_Algebra_sweep_28
    rw [u1.1]
    refine ⟨h1.k, fun _ => ?_, fun hc => absurd (Int.le_refl n) hc⟩
    have e1 : zR S (G + 4) A = zR S (G + 4) (swB p n A u j 0 0) := zR_congr _ _ fun x => (swB_0 (by omega)).symm
    rw [e1]
    clear e1
    refine loopU (α := Unit) (P := fun r _ => At (d + 1) 14 c14_107 [(0, (2, G)), (1, (0, u)), (3, (0, c)), (4, (0, j)), (6, (0, r))] [] (zR S (G + 4) (swB p n A u j r 0)) Q) (I := fun r _ => 0 ≤ r) c ?_ ?_ 0 () (by omega) (by omega)
    · rintro r _ hr r0 hk
      have hr0 : 0 ≤ r := r0
      have h2 : HW (zR S (G + 4) (swB p n A u j r 0)) G := h.zR (by omega)
      have u2 : Hu (zR S (G + 4) (swB p n A u j r 0)) G n p := hu.zR (by omega)
      have er : swB p n A u j r 0 (4 * r + j) = A (4 * r + j) := swB_0 (by omega)
      have br := bA (4 * r + j) (by omega) (by omega)
      have t0 := Int.emod_nonneg (A (4 * r + j)) (show p ≠ 0 by omega)
      have t1 := Int.emod_lt_of_pos (A (4 * r + j)) (show 0 < p by omega)
      apply w_Algebra_sweep_107
      rw [u2.2, h2.f3, zG_zR_at, w32_id (x := 4 * r) (by omega) (by omega), w32_id (x := 4 * r + j) (by omega) (by omega), er, Int.tmod_eq_emod_of_nonneg br.1]
      refine ⟨fun hc => by omega, fun _ => ⟨h2.k, ⟨h2.r3.1, by omega, by rw [h2.r3.2]; omega⟩, h2.k, by omega, ?_⟩⟩
      intro x1 hx1
      rw [hx1]
      clear hx1 x1
      have fin : zR S (G + 4) (swB p n A u j r n) = zR S (G + 4) (swB p n A u j (r + 1) 0) := zR_congr _ _ fun x => by
        by_cases q : swC p n A u j r n x
        · rw [swB_1 q, swB_1 ⟨q.1, q.2.1, q.2.2.1, q.2.2.2.1, by have := q.2.2.2.2; omega⟩]
        · rw [swB_0 q, swB_0 (fun z => q ⟨z.1, z.2.1, z.2.2.1, z.2.2.2.1, by have := z.2.2.2.2; have := z.2.1; omega⟩)]
      have next : At (d + 1) 14 c14_214 [(0, (2, G)), (1, (0, u)), (3, (0, c)), (4, (0, j)), (6, (0, r))] [] (zR S (G + 4) (swB p n A u j (r + 1) 0)) Q := by
        apply w_Algebra_sweep_214
        rintro _ rfl
        rw [w32_id (by omega) (by omega)]
        exact hk () (by omega)
      by_cases hq : r = u ∨ A (4 * r + j) % p = 0
      · have e2 : zR S (G + 4) (swB p n A u j r 0) = zR S (G + 4) (swB p n A u j (r + 1) 0) := zR_congr _ _ fun x => by
          by_cases q : swC p n A u j r 0 x
          · rw [swB_1 q, swB_1 ⟨q.1, q.2.1, q.2.2.1, q.2.2.2.1, by have := q.2.2.2.2; omega⟩]
          · rw [swB_0 q, swB_0 (fun z => q ⟨z.1, z.2.1, z.2.2.1, z.2.2.2.1, ?_⟩)]
            have z5 := z.2.2.2.2
            by_cases q5 : x / 4 = r
            · rcases hq with hq | hq
              · exact absurd (q5.trans hq) z.2.2.1
              · exact absurd (by rw [q5]; exact hq) z.2.2.2.1
            · omega
        apply w_Algebra_sweep_135
        refine ⟨fun _ _ => h2.k, fun _ => ?_, fun hc => absurd (hq.imp id Or.inl) hc⟩
        rw [e2]
        exact next
      · have hq1 : ¬ r = u := fun z => hq (Or.inl z)
        have hq2 : ¬ A (4 * r + j) % p = 0 := fun z => hq (Or.inr z)
        refine loopU (α := Unit) (P := fun i _ => At (d + 1) 14 c14_135 [(0, (2, G)), (1, (0, u)), (3, (0, c)), (4, (0, j)), (6, (0, r)), (7, (0, A (4 * r + j) % p)), (8, (0, i))] [] (zR S (G + 4) (swB p n A u j r i)) Q) (I := fun i _ => 0 ≤ i) n ?_ ?_ 0 () (by omega) (by omega)
        · rintro i _ hi i0 hk2
          have hi0 : 0 ≤ i := i0
          have h3 : HW (zR S (G + 4) (swB p n A u j r i)) G := h.zR (by omega)
          have u3 : Hu (zR S (G + 4) (swB p n A u j r i)) G n p := hu.zR (by omega)
          have e3 : swB p n A u j r i (4 * u + i) = A (4 * u + i) := swB_0 (fun z => z.2.2.1 (by omega))
          have e4 : swB p n A u j r i (4 * r + i) = A (4 * r + i) := swB_0 (fun z => by have := z.2.2.2.2; omega)
          have b3 := bA (4 * u + i) (by omega) (by omega)
          have b4 := bA (4 * r + i) (by omega) (by omega)
          have b5 := mul_b2 b3 (show 0 ≤ p - A (4 * r + j) % p ∧ p - A (4 * r + j) % p < 10 by omega)
          rw [Int.mul_comm] at b5
          apply w_Algebra_sweep_135
          rw [u3.1, u3.2, h3.f3, zG_zR_at, w32_id (x := 4 * r) (by omega) (by omega), w32_id (x := 4 * r + i) (by omega) (by omega), w32_id (x := 4 * u) (by omega) (by omega), w32_id (x := 4 * u + i) (by omega) (by omega), e3, zG_zR_at, e4, w32_id (x := p - A (4 * r + j) % p) (by omega) (by omega), w32_id (x := (p - A (4 * r + j) % p) * A (4 * u + i)) (by omega) (by omega)]
          refine ⟨fun _ _ => h3.k, fun hc => by omega, fun _ => ⟨h3.k, h3.k, ⟨h3.r3.1, by omega, by rw [h3.r3.2]; omega⟩, ?_⟩⟩
          intro x1 hx1
          rw [hx1]
          clear hx1 x1
          refine ⟨h3.k, h3.k, ⟨h3.r3.1, by omega, by rw [h3.r3.2]; omega⟩, h3.k, by omega, ⟨h3.r3.1, by omega, by rw [h3.r3.2]; omega⟩, ?_⟩
          rintro _ rfl _ rfl
          rw [w32_id (x := i + 1) (by omega) (by omega), w32_id (by omega) (by omega), Int.tmod_eq_emod_of_nonneg (by omega), zS_zR]
          have e : ∀ x, (if x = 4 * r + i then (A (4 * r + i) + (p - A (4 * r + j) % p) * A (4 * u + i)) % p else swB p n A u j r i x) = swB p n A u j r (i + 1) x := fun x => by
            by_cases q : x = 4 * r + i
            · have q1 : x / 4 = r := by omega
              have q2 : x % 4 = i := by omega
              rw [if_pos q, swB_1 ⟨by omega, by omega, by omega, by rw [q1]; exact hq2, by omega⟩, q1, q2, q]
            · rw [if_neg q]
              by_cases q1 : swC p n A u j r i x
              · rw [swB_1 q1, swB_1 ⟨q1.1, q1.2.1, q1.2.2.1, q1.2.2.2.1, by have := q1.2.2.2.2; omega⟩]
              · rw [swB_0 q1, swB_0 (fun z => q1 ⟨z.1, z.2.1, z.2.2.1, z.2.2.2.1, by have := z.2.2.2.2; omega⟩)]
          rw [zR_congr _ _ e]
          exact hk2 () (by omega)
        · rintro _ -
          have h3 : HW (zR S (G + 4) (swB p n A u j r n)) G := h.zR (by omega)
          have u3 : Hu (zR S (G + 4) (swB p n A u j r n)) G n p := hu.zR (by omega)
          apply w_Algebra_sweep_135
          rw [u3.1]
          refine ⟨fun _ _ => h3.k, fun _ => ?_, fun hc => absurd (Or.inr (Or.inr (Int.le_refl n))) hc⟩
          rw [fin]
          exact next
    · rintro _ -
      apply w_Algebra_sweep_107
      exact ⟨fun _ => H, fun hc => absurd (Int.le_refl c) hc⟩
