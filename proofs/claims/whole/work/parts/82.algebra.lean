/-! Algebra: the classes of one ring. Shape, tables, powers. -/
def rowB (S : Hp) (a n : Int) : Prop := zK S a = 103 ∧ zL S a = n
theorem rowB.keep {M : Int → Prop} {S S' : Hp} {a n : Int} (h : rowB S a n) (hm : Md M S S') : rowB S' a n := ⟨by rw [hm.K]; exact h.1, by rw [hm.L]; exact h.2⟩
def HW (S : Hp) (G : Int) : Prop := zK S G = 1 ∧ zG S G 0 = G + 1 ∧ zG S G 1 = G + 2 ∧ zG S G 2 = G + 3 ∧ zG S G 3 = G + 4 ∧ zG S G 4 = G + 5 ∧ zG S G 5 = G + 6 ∧ zG S G 6 = G + 7 ∧ zG S G 7 = G + 8 ∧ zG S G 8 = G + 9 ∧ zG S G 9 = G + 10 ∧ zG S G 10 = G + 11 ∧ zG S G 11 = G + 12 ∧ zG S G 12 = G + 13 ∧ zG S G 13 = G + 14 ∧ rowI S (G + 1) 64 ∧ rowI S (G + 2) 64 ∧ rowI S (G + 3) 16 ∧ rowI S (G + 4) 64 ∧ rowI S (G + 5) 16 ∧ rowB S (G + 6) 4 ∧ rowI S (G + 7) 16 ∧ rowB S (G + 8) 4 ∧ rowI S (G + 9) 4 ∧ rowI S (G + 10) 4 ∧ rowI S (G + 11) 16 ∧ rowI S (G + 12) 16 ∧ rowI S (G + 13) 4 ∧ rowI S (G + 14) 4
theorem HW.k {S : Hp} {G : Int} (h : HW S G) : zK S G = 1 := h.1
theorem HW.f0 {S : Hp} {G : Int} (h : HW S G) : zG S G 0 = G + 1 := h.2.1
theorem HW.f1 {S : Hp} {G : Int} (h : HW S G) : zG S G 1 = G + 2 := h.2.2.1
theorem HW.f2 {S : Hp} {G : Int} (h : HW S G) : zG S G 2 = G + 3 := h.2.2.2.1
theorem HW.f3 {S : Hp} {G : Int} (h : HW S G) : zG S G 3 = G + 4 := h.2.2.2.2.1
theorem HW.f4 {S : Hp} {G : Int} (h : HW S G) : zG S G 4 = G + 5 := h.2.2.2.2.2.1
theorem HW.f5 {S : Hp} {G : Int} (h : HW S G) : zG S G 5 = G + 6 := h.2.2.2.2.2.2.1
theorem HW.f6 {S : Hp} {G : Int} (h : HW S G) : zG S G 6 = G + 7 := h.2.2.2.2.2.2.2.1
theorem HW.f7 {S : Hp} {G : Int} (h : HW S G) : zG S G 7 = G + 8 := h.2.2.2.2.2.2.2.2.1
theorem HW.f8 {S : Hp} {G : Int} (h : HW S G) : zG S G 8 = G + 9 := h.2.2.2.2.2.2.2.2.2.1
theorem HW.f9 {S : Hp} {G : Int} (h : HW S G) : zG S G 9 = G + 10 := h.2.2.2.2.2.2.2.2.2.2.1
theorem HW.f10 {S : Hp} {G : Int} (h : HW S G) : zG S G 10 = G + 11 := h.2.2.2.2.2.2.2.2.2.2.2.1
theorem HW.f11 {S : Hp} {G : Int} (h : HW S G) : zG S G 11 = G + 12 := h.2.2.2.2.2.2.2.2.2.2.2.2.1
theorem HW.f12 {S : Hp} {G : Int} (h : HW S G) : zG S G 12 = G + 13 := h.2.2.2.2.2.2.2.2.2.2.2.2.2.1
theorem HW.f13 {S : Hp} {G : Int} (h : HW S G) : zG S G 13 = G + 14 := h.2.2.2.2.2.2.2.2.2.2.2.2.2.2.1
theorem HW.r0 {S : Hp} {G : Int} (h : HW S G) : rowI S (G + 1) 64 := h.2.2.2.2.2.2.2.2.2.2.2.2.2.2.2.1
theorem HW.r1 {S : Hp} {G : Int} (h : HW S G) : rowI S (G + 2) 64 := h.2.2.2.2.2.2.2.2.2.2.2.2.2.2.2.2.1
theorem HW.r2 {S : Hp} {G : Int} (h : HW S G) : rowI S (G + 3) 16 := h.2.2.2.2.2.2.2.2.2.2.2.2.2.2.2.2.2.1
theorem HW.r3 {S : Hp} {G : Int} (h : HW S G) : rowI S (G + 4) 64 := h.2.2.2.2.2.2.2.2.2.2.2.2.2.2.2.2.2.2.1
theorem HW.r4 {S : Hp} {G : Int} (h : HW S G) : rowI S (G + 5) 16 := h.2.2.2.2.2.2.2.2.2.2.2.2.2.2.2.2.2.2.2.1
theorem HW.r5 {S : Hp} {G : Int} (h : HW S G) : rowB S (G + 6) 4 := h.2.2.2.2.2.2.2.2.2.2.2.2.2.2.2.2.2.2.2.2.1
theorem HW.r6 {S : Hp} {G : Int} (h : HW S G) : rowI S (G + 7) 16 := h.2.2.2.2.2.2.2.2.2.2.2.2.2.2.2.2.2.2.2.2.2.1
theorem HW.r7 {S : Hp} {G : Int} (h : HW S G) : rowB S (G + 8) 4 := h.2.2.2.2.2.2.2.2.2.2.2.2.2.2.2.2.2.2.2.2.2.2.1
theorem HW.r8 {S : Hp} {G : Int} (h : HW S G) : rowI S (G + 9) 4 := h.2.2.2.2.2.2.2.2.2.2.2.2.2.2.2.2.2.2.2.2.2.2.2.1
theorem HW.r9 {S : Hp} {G : Int} (h : HW S G) : rowI S (G + 10) 4 := h.2.2.2.2.2.2.2.2.2.2.2.2.2.2.2.2.2.2.2.2.2.2.2.2.1
theorem HW.r10 {S : Hp} {G : Int} (h : HW S G) : rowI S (G + 11) 16 := h.2.2.2.2.2.2.2.2.2.2.2.2.2.2.2.2.2.2.2.2.2.2.2.2.2.1
theorem HW.r11 {S : Hp} {G : Int} (h : HW S G) : rowI S (G + 12) 16 := h.2.2.2.2.2.2.2.2.2.2.2.2.2.2.2.2.2.2.2.2.2.2.2.2.2.2.1
theorem HW.r12 {S : Hp} {G : Int} (h : HW S G) : rowI S (G + 13) 4 := h.2.2.2.2.2.2.2.2.2.2.2.2.2.2.2.2.2.2.2.2.2.2.2.2.2.2.2.1
theorem HW.r13 {S : Hp} {G : Int} (h : HW S G) : rowI S (G + 14) 4 := h.2.2.2.2.2.2.2.2.2.2.2.2.2.2.2.2.2.2.2.2.2.2.2.2.2.2.2.2
theorem HW.keep {M : Int → Prop} {S S' : Hp} {G : Int} (h : HW S G) (hm : Md M S S') (hM : ¬ M G) : HW S' G := ⟨by rw [hm.K]; exact h.k, by rw [hm.G hM]; exact h.f0, by rw [hm.G hM]; exact h.f1, by rw [hm.G hM]; exact h.f2, by rw [hm.G hM]; exact h.f3, by rw [hm.G hM]; exact h.f4, by rw [hm.G hM]; exact h.f5, by rw [hm.G hM]; exact h.f6, by rw [hm.G hM]; exact h.f7, by rw [hm.G hM]; exact h.f8, by rw [hm.G hM]; exact h.f9, by rw [hm.G hM]; exact h.f10, by rw [hm.G hM]; exact h.f11, by rw [hm.G hM]; exact h.f12, by rw [hm.G hM]; exact h.f13, h.r0.keep hm, h.r1.keep hm, h.r2.keep hm, h.r3.keep hm, h.r4.keep hm, h.r5.keep hm, h.r6.keep hm, h.r7.keep hm, h.r8.keep hm, h.r9.keep hm, h.r10.keep hm, h.r11.keep hm, h.r12.keep hm, h.r13.keep hm⟩
def Hu (S : Hp) (G n p : Int) : Prop := zG S G 14 = n ∧ zG S G 15 = p
theorem Hu.keep {M : Int → Prop} {S S' : Hp} {G n p : Int} (h : Hu S G n p) (hm : Md M S S') (hM : ¬ M G) : Hu S' G n p := ⟨by rw [hm.G hM]; exact h.1, by rw [hm.G hM]; exact h.2⟩
theorem HW.zR {S : Hp} {G a : Int} {f : Int → Int} (h : HW S G) (ha : a ≠ G) : HW (zR S a f) G := h.keep (Md.zR S a f) (fun e => ha e.symm)
theorem Hu.zR {S : Hp} {G a n p : Int} {f : Int → Int} (h : Hu S G n p) (ha : a ≠ G) : Hu (zR S a f) G n p := h.keep (Md.zR S a f) (fun e => ha e.symm)
theorem s_algEnter {d : Nat} {G n p : Int} {S : Hp} {Q : Vl → Hp → Prop} (h : HW S G) (H : ∀ S', Md (fun x => x = G) S S' → HW S' G → Hu S' G n p → Q (3, 0) S') : Ev d 1 [(2, G), (0, n), (0, p)] S Q := by
  apply w_Algebra_enter_0
  refine ⟨h.k, ?_⟩
  rintro _ rfl
  refine ⟨h.k, ?_⟩
  rintro _ rfl
  have m1 : Md (fun x => x = G) S (zS (zS S G 14 n) G 15 p) := (Md.zS _ _ _ _).tr (Md.zS _ _ _ _)
  have e : ∀ i, i ≠ 14 → i ≠ 15 → zG (zS (zS S G 14 n) G 15 p) G i = zG S G i := fun i i0 i1 => by
    rw [zG_zS_ne _ (Or.inr i1), zG_zS_ne _ (Or.inr i0)]
  refine H _ m1 ⟨h.k, by rw [e _ (by omega) (by omega)]; exact h.f0, by rw [e _ (by omega) (by omega)]; exact h.f1, by rw [e _ (by omega) (by omega)]; exact h.f2, by rw [e _ (by omega) (by omega)]; exact h.f3, by rw [e _ (by omega) (by omega)]; exact h.f4, by rw [e _ (by omega) (by omega)]; exact h.f5, by rw [e _ (by omega) (by omega)]; exact h.f6, by rw [e _ (by omega) (by omega)]; exact h.f7, by rw [e _ (by omega) (by omega)]; exact h.f8, by rw [e _ (by omega) (by omega)]; exact h.f9, by rw [e _ (by omega) (by omega)]; exact h.f10, by rw [e _ (by omega) (by omega)]; exact h.f11, by rw [e _ (by omega) (by omega)]; exact h.f12, by rw [e _ (by omega) (by omega)]; exact h.f13, h.r0, h.r1, h.r2, h.r3, h.r4, h.r5, h.r6, h.r7, h.r8, h.r9, h.r10, h.r11, h.r12, h.r13⟩ ⟨?_, ?_⟩
  · rw [zG_zS_ne _ (Or.inr (by omega)), zG_zS_at]
  · rw [zG_zS_at]
/-- in a square of side n, in rows of 4 -/
abbrev sqI (n x : Int) : Prop := 0 ≤ x ∧ x / 4 < n ∧ x % 4 < n
def sqM (p n : Int) (f g o : Int → Int) : Int → Int := fun x => if sqI n x then sm n.toNat (fun l => f (4 * (x / 4) + l) * g (4 * l + x % 4)) % p else o x
def sqP (p n : Int) (f g o : Int → Int) (i j : Int) : Int → Int := fun x => if sqI n x ∧ (x / 4 < i ∨ x / 4 = i ∧ x % 4 < j) then sqM p n f g o x else o x
set_option maxHeartbeats 1000000 in
theorem s_multiplySquares {d : Nat} {G a b n p wa wb : Int} {S : Hp} {Q : Vl → Hp → Prop} (h : HW S G) (hu : Hu S G n p) (hn : 2 ≤ n ∧ n ≤ 4) (hp : 2 ≤ p ∧ p ≤ 7) (ha : rowI S a wa) (hwa : 16 ≤ wa) (hb : rowI S b wb) (hwb : 16 ≤ wb) (na : a ≠ G + 11) (nb : b ≠ G + 11) (ba : ∀ i, 0 ≤ i → i < 16 → 0 ≤ zG S a i ∧ zG S a i < 10) (bb : ∀ i, 0 ≤ i → i < 16 → 0 ≤ zG S b i ∧ zG S b i < 10) (H : Q (3, 0) (zR S (G + 11) (sqM p n (zG S a) (zG S b) (zG S (G + 11))))) : Ev d 9 [(2, G), (2, a), (2, b)] S Q := by
  apply w_Algebra_multiplySquares_0
  have e0 : S = zR S (G + 11) (sqP p n (zG S a) (zG S b) (zG S (G + 11)) 0 0) := by
    conv => lhs; rw [← zR_self S (G + 11)]
    refine zR_congr _ _ fun x => ?_
    unfold sqP
    by_cases q : sqI n x ∧ (x / 4 < 0 ∨ x / 4 = 0 ∧ x % 4 < 0)
    · obtain ⟨⟨q1, -, -⟩, q2⟩ := q
      omega
    · rw [if_neg q]
  rw [e0]
  clear e0
  refine loopU (α := Unit) (P := fun i _ => At d 9 c9_2 [(0, (2, G)), (1, (2, a)), (2, (2, b)), (3, (0, i))] [] (zR S (G + 11) (sqP p n (zG S a) (zG S b) (zG S (G + 11)) i 0)) Q) (I := fun i _ => 0 ≤ i) n ?_ ?_ 0 () (by omega) (by omega)
  · rintro i _ hi i0 hk
    have hi0 : 0 ≤ i := i0
    have h1 : HW (zR S (G + 11) (sqP p n (zG S a) (zG S b) (zG S (G + 11)) i 0)) G := h.zR (by omega)
    have u1 : Hu (zR S (G + 11) (sqP p n (zG S a) (zG S b) (zG S (G + 11)) i 0)) G n p := hu.zR (by omega)
    apply w_Algebra_multiplySquares_2
    rw [u1.1]
    refine ⟨h1.k, fun hc => by omega, fun _ => ?_⟩
    refine loopU (α := Unit) (P := fun j _ => At d 9 c9_13 [(0, (2, G)), (1, (2, a)), (2, (2, b)), (3, (0, i)), (4, (0, j))] [] (zR S (G + 11) (sqP p n (zG S a) (zG S b) (zG S (G + 11)) i j)) Q) (I := fun j _ => 0 ≤ j) n ?_ ?_ 0 () (by omega) (by omega)
    · rintro j _ hj j0 hk2
      have hj0 : 0 ≤ j := j0
      have h2 : HW (zR S (G + 11) (sqP p n (zG S a) (zG S b) (zG S (G + 11)) i j)) G := h.zR (by omega)
      have u2 : Hu (zR S (G + 11) (sqP p n (zG S a) (zG S b) (zG S (G + 11)) i j)) G n p := hu.zR (by omega)
      apply w_Algebra_multiplySquares_13
      rw [u2.1]
      refine ⟨h2.k, fun hc => by omega, fun _ => ?_⟩
      refine loopU (α := Int) (P := fun l v => At d 9 c9_28 [(0, (2, G)), (1, (2, a)), (2, (2, b)), (3, (0, i)), (4, (0, j)), (5, (0, v)), (6, (0, l))] [] (zR S (G + 11) (sqP p n (zG S a) (zG S b) (zG S (G + 11)) i j)) Q) (I := fun l v => 0 ≤ l ∧ 0 ≤ v ∧ v ≤ 100 * l ∧ v = sm l.toNat (fun l => zG S a (4 * i + l) * zG S b (4 * l + j))) n ?_ ?_ 0 0 (by omega) ⟨by omega, by omega, by omega, rfl⟩
      · rintro l v hl ⟨l0, v0, v1, ve⟩ hk3
        have b0 := mul_b (ba (4 * i + l) (by omega) (by omega)) (bb (4 * l + j) (by omega) (by omega))
        apply w_Algebra_multiplySquares_28
        rw [u2.1, zG_zR_ne _ na, zG_zR_ne _ nb, w32_id (x := 4 * i) (by omega) (by omega), w32_id (x := 4 * l) (by omega) (by omega), w32_id (x := 4 * i + l) (by omega) (by omega), w32_id (x := 4 * l + j) (by omega) (by omega), w32_id (x := zG S a (4 * i + l) * zG S b (4 * l + j)) (by omega) (by omega)]
        refine ⟨h.k, fun hc => by omega, fun _ => ⟨⟨ha.1, by omega, by rw [zL_zR, ha.2]; omega⟩, ⟨hb.1, by omega, by rw [zL_zR, hb.2]; omega⟩, ?_⟩⟩
        rintro _ rfl _ rfl
        rw [w32_id (by omega) (by omega), w32_id (by omega) (by omega)]
        refine hk3 _ ⟨by omega, by omega, by omega, ?_⟩
        rw [show (l + 1).toNat = l.toNat + 1 by omega, sm_succ, show ((l.toNat : Nat) : Int) = l by omega, ve]
      · rintro v ⟨-, v0, v1, ve⟩
        apply w_Algebra_multiplySquares_28
        rw [u2.1, u2.2, h2.f10, w32_id (x := 4 * i) (by omega) (by omega), w32_id (x := 4 * i + j) (by omega) (by omega)]
        refine ⟨h2.k, fun _ => ⟨h2.k, h2.k, by omega, ⟨h2.r10.1, by omega, by rw [h2.r10.2]; omega⟩, ?_⟩, fun hc => absurd (Int.le_refl n) hc⟩
        rintro _ rfl _ rfl
        rw [w32_id (by omega) (by omega), zS_zR]
        have e : ∀ x, (if x = 4 * i + j then v.tmod p else sqP p n (zG S a) (zG S b) (zG S (G + 11)) i j x) = sqP p n (zG S a) (zG S b) (zG S (G + 11)) i (j + 1) x := fun x => by
          by_cases q : x = 4 * i + j
          · have q1 : x / 4 = i := by omega
            have q2 : x % 4 = j := by omega
            rw [if_pos q]
            unfold sqP sqM
            rw [if_pos ⟨⟨by omega, by omega, by omega⟩, by omega⟩, if_pos ⟨by omega, by omega, by omega⟩, q1, q2, ← ve]
            exact Int.tmod_eq_emod_of_nonneg v0
          · rw [if_neg q]
            unfold sqP
            by_cases q3 : sqI n x ∧ (x / 4 < i ∨ x / 4 = i ∧ x % 4 < j)
            · rw [if_pos q3, if_pos ⟨q3.1, by omega⟩]
            · rw [if_neg q3, if_neg (fun z => q3 ⟨z.1, by have := z.2; omega⟩)]
        rw [zR_congr _ _ e]
        exact hk2 () (by omega)
    · rintro _ -
      have h2 : HW (zR S (G + 11) (sqP p n (zG S a) (zG S b) (zG S (G + 11)) i n)) G := h.zR (by omega)
      have u2 : Hu (zR S (G + 11) (sqP p n (zG S a) (zG S b) (zG S (G + 11)) i n)) G n p := hu.zR (by omega)
      apply w_Algebra_multiplySquares_13
      rw [u2.1]
      refine ⟨h2.k, fun _ => ?_, fun hc => absurd (Int.le_refl n) hc⟩
      rintro _ rfl
      rw [w32_id (by omega) (by omega)]
      have e : ∀ x, sqP p n (zG S a) (zG S b) (zG S (G + 11)) i n x = sqP p n (zG S a) (zG S b) (zG S (G + 11)) (i + 1) 0 x := fun x => by
        unfold sqP
        by_cases q3 : sqI n x ∧ (x / 4 < i ∨ x / 4 = i ∧ x % 4 < n)
        · rw [if_pos q3, if_pos ⟨q3.1, by have := q3.2; omega⟩]
        · rw [if_neg q3, if_neg (fun z => q3 ⟨z.1, by have := z.2; have := z.1.2.2; omega⟩)]
      rw [zR_congr _ _ e]
      exact hk () (by omega)
  · rintro _ -
    have h2 : HW (zR S (G + 11) (sqP p n (zG S a) (zG S b) (zG S (G + 11)) n 0)) G := h.zR (by omega)
    have u2 : Hu (zR S (G + 11) (sqP p n (zG S a) (zG S b) (zG S (G + 11)) n 0)) G n p := hu.zR (by omega)
    apply w_Algebra_multiplySquares_2
    rw [u2.1]
    refine ⟨h2.k, fun _ => ?_, fun hc => absurd (Int.le_refl n) hc⟩
    have e : ∀ x, sqP p n (zG S a) (zG S b) (zG S (G + 11)) n 0 x = sqM p n (zG S a) (zG S b) (zG S (G + 11)) x := fun x => by
      unfold sqP
      by_cases q3 : sqI n x
      · rw [if_pos ⟨q3, Or.inl q3.2.1⟩]
      · rw [if_neg (fun z => q3 z.1)]
        unfold sqM
        rw [if_neg q3]
    rw [zR_congr _ _ e]
    exact H
