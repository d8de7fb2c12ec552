/-! Algebra: products laid down, powers, what countPoints asks. -/
theorem s_setProduct {d : Nat} {G i j l a b : Int} {S : Hp} {Q : Vl → Hp → Prop} (h : HW S G) (hi : 0 ≤ i ∧ i < 4) (hj : 0 ≤ j ∧ j < 4) (hl : 0 ≤ l ∧ l < 4) (H : ∀ S', Md (fun x => x = G + 1 ∨ x = G + 2) S S' → (∀ x, zG S' (G + 1) x = if x = (4 * i + j) * 4 + l ∨ x = (4 * j + i) * 4 + l then a else zG S (G + 1) x) → (∀ x, zG S' (G + 2) x = if x = (4 * i + j) * 4 + l ∨ x = (4 * j + i) * 4 + l then b else zG S (G + 2) x) → Q (3, 0) S') : Ev d 3 [(2, G), (0, i), (0, j), (0, l), (0, a), (0, b)] S Q := by
  apply w_Algebra_setProduct_0
  rw [w32_id (x := 4 * i) (by omega) (by omega), w32_id (x := 4 * j) (by omega) (by omega), w32_id (x := 4 * i + j) (by omega) (by omega), w32_id (x := 4 * j + i) (by omega) (by omega), w32_id (x := (4 * i + j) * 4) (by omega) (by omega), w32_id (x := (4 * j + i) * 4) (by omega) (by omega), w32_id (x := (4 * i + j) * 4 + l) (by omega) (by omega), w32_id (x := (4 * j + i) * 4 + l) (by omega) (by omega), h.f0]
  refine ⟨h.k, ⟨h.r0.1, by omega, by rw [h.r0.2]; omega⟩, ?_⟩
  rintro _ rfl
  have h1 : HW (zS S (G + 1) ((4 * i + j) * 4 + l) a) G := h.keep (Md.zS _ _ _ _) (by omega)
  rw [h1.f0]
  refine ⟨h1.k, ⟨h1.r0.1, by omega, by rw [h1.r0.2]; omega⟩, ?_⟩
  rintro _ rfl
  have h2 : HW (zS (zS S (G + 1) ((4 * i + j) * 4 + l) a) (G + 1) ((4 * j + i) * 4 + l) a) G := h1.keep (Md.zS _ _ _ _) (by omega)
  rw [h2.f1]
  refine ⟨h2.k, ⟨h2.r1.1, by omega, by rw [h2.r1.2]; omega⟩, ?_⟩
  rintro _ rfl
  have h3 : HW (zS (zS (zS S (G + 1) ((4 * i + j) * 4 + l) a) (G + 1) ((4 * j + i) * 4 + l) a) (G + 2) ((4 * i + j) * 4 + l) b) G := h2.keep (Md.zS _ _ _ _) (by omega)
  rw [h3.f1]
  refine ⟨h3.k, ⟨h3.r1.1, by omega, by rw [h3.r1.2]; omega⟩, ?_⟩
  rintro _ rfl
  refine H _ (((((Md.zS _ _ _ _).wide (fun x hx => Or.inl hx)).tr ((Md.zS _ _ _ _).wide (fun x hx => Or.inl hx))).tr ((Md.zS _ _ _ _).wide (fun x hx => Or.inr hx))).tr ((Md.zS _ _ _ _).wide (fun x hx => Or.inr hx))) (fun x => ?_) (fun x => ?_)
  · rw [zG_zS_ne _ (Or.inl (by omega)), zG_zS_ne _ (Or.inl (by omega)), zG_zS, zG_zS]
    by_cases q1 : x = (4 * j + i) * 4 + l
    · rw [if_pos ⟨rfl, q1⟩, if_pos (Or.inr q1)]
    · rw [if_neg (fun z => q1 z.2)]
      by_cases q2 : x = (4 * i + j) * 4 + l
      · rw [if_pos ⟨rfl, q2⟩, if_pos (Or.inl q2)]
      · rw [if_neg (fun z => q2 z.2), if_neg (fun z => z.elim q2 q1)]
  · rw [zG_zS, zG_zS, zG_zS_ne _ (Or.inl (by omega)), zG_zS_ne _ (Or.inl (by omega))]
    by_cases q1 : x = (4 * j + i) * 4 + l
    · rw [if_pos ⟨rfl, q1⟩, if_pos (Or.inr q1)]
    · rw [if_neg (fun z => q1 z.2)]
      by_cases q2 : x = (4 * i + j) * 4 + l
      · rw [if_pos ⟨rfl, q2⟩, if_pos (Or.inl q2)]
      · rw [if_neg (fun z => q2 z.2), if_neg (fun z => z.elim q2 q1)]
/-- the products with b_0, as far as J, L -/
abbrev oneC (n J L x : Int) : Prop := 0 ≤ x ∧ x < 64 ∧ x % 4 < n ∧ ((x / 16 = 0 ∧ (x / 4 % 4 < J ∨ (x / 4 % 4 = J ∧ x % 4 < L))) ∨ (x / 4 % 4 = 0 ∧ (x / 16 < J ∨ (x / 16 = J ∧ x % 4 < L))))
def oneP (n v : Int) (o : Int → Int) (J L : Int) : Int → Int := fun x => if oneC n J L x then (if x % 4 = x / 16 + x / 4 % 4 then v else 0) else o x
theorem oneP_pos {n v J L x : Int} {o : Int → Int} (h : oneC n J L x) : oneP n v o J L x = if x % 4 = x / 16 + x / 4 % 4 then v else 0 := if_pos h
theorem oneP_neg {n v J L x : Int} {o : Int → Int} (h : ¬ oneC n J L x) : oneP n v o J L x = o x := if_neg h
theorem oneP_next {n v J L : Int} {o : Int → Int} (hJ : 0 ≤ J ∧ J < 4) (hL : 0 ≤ L ∧ L < n) (hn : n ≤ 4) (x : Int) : (if x = (4 * 0 + J) * 4 + L ∨ x = (4 * J + 0) * 4 + L then (if L = J then v else 0) else oneP n v o J L x) = oneP n v o J (L + 1) x := by
  by_cases q : x = (4 * 0 + J) * 4 + L ∨ x = (4 * J + 0) * 4 + L
  · rw [if_pos q, oneP_pos (show oneC n J (L + 1) x by unfold oneC; omega)]
    have e1 : x % 4 = L := by omega
    have e2 : x / 16 + x / 4 % 4 = J := by
      rcases q with q | q
      · have a1 : x / 4 = J := by omega
        have a2 : x / 16 = 0 := by omega
        rw [a1, a2]
        omega
      · have a1 : x / 4 = 4 * J := by omega
        have a2 : x / 16 = J := by omega
        rw [a1, a2]
        omega
    rw [e1, e2]
  · rw [if_neg q]
    by_cases q2 : oneC n J L x
    · rw [oneP_pos q2, oneP_pos (show oneC n J (L + 1) x by unfold oneC at *; omega)]
    · rw [oneP_neg q2, oneP_neg (show ¬ oneC n J (L + 1) x by unfold oneC at *; omega)]
theorem oneP_row {n v J : Int} {o : Int → Int} (x : Int) : oneP n v o J n x = oneP n v o (J + 1) 0 x := by
  by_cases q2 : oneC n J n x
  · rw [oneP_pos q2, oneP_pos (show oneC n (J + 1) 0 x by unfold oneC at *; omega)]
  · rw [oneP_neg q2, oneP_neg (show ¬ oneC n (J + 1) 0 x by unfold oneC at *; omega)]
theorem oneP_0 {n v : Int} {o : Int → Int} (x : Int) : oneP n v o 0 0 x = o x := oneP_neg (by unfold oneC; omega)
set_option maxHeartbeats 1000000 in
theorem s_setOne {d : Nat} {G n p : Int} {S : Hp} {Q : Vl → Hp → Prop} (h : HW S G) (hu : Hu S G n p) (hn : 2 ≤ n ∧ n ≤ 4) (H : ∀ S', Md (fun x => x = G + 1 ∨ x = G + 2) S S' → (∀ x, zG S' (G + 1) x = oneP n 1 (zG S (G + 1)) n 0 x) → (∀ x, zG S' (G + 2) x = oneP n 0 (zG S (G + 2)) n 0 x) → Q (3, 0) S') : Ev (d + 1) 2 [(2, G)] S Q := by
  apply w_Algebra_setOne_0
  refine loopU (P := fun j S' => At (d + 1) 2 c2_2 [(0, (2, G)), (1, (0, j))] [] S' Q) (I := fun j S' => 0 ≤ j ∧ Md (fun x => x = G + 1 ∨ x = G + 2) S S' ∧ (∀ x, zG S' (G + 1) x = oneP n 1 (zG S (G + 1)) j 0 x) ∧ (∀ x, zG S' (G + 2) x = oneP n 0 (zG S (G + 2)) j 0 x)) n ?_ ?_ 0 S (by omega) ⟨by omega, Md.refl _ _, fun x => (oneP_0 x).symm, fun x => (oneP_0 x).symm⟩
  · rintro j S1 hj ⟨j0, jm, jl, jh⟩ hk
    apply w_Algebra_setOne_2
    rw [(hu.keep jm (by omega)).1]
    refine ⟨(h.keep jm (by omega)).k, fun hc => by omega, fun _ => ?_⟩
    refine loopU (P := fun l S' => At (d + 1) 2 c2_12 [(0, (2, G)), (1, (0, j)), (2, (0, l))] [] S' Q) (I := fun l S' => 0 ≤ l ∧ Md (fun x => x = G + 1 ∨ x = G + 2) S S' ∧ (∀ x, zG S' (G + 1) x = oneP n 1 (zG S (G + 1)) j l x) ∧ (∀ x, zG S' (G + 2) x = oneP n 0 (zG S (G + 2)) j l x)) n ?_ ?_ 0 S1 (by omega) ⟨by omega, jm, jl, jh⟩
    · rintro l S2 hl ⟨l0, lm, ll, lh⟩ hk2
      apply w_Algebra_setOne_12
      rw [(hu.keep lm (by omega)).1]
      refine ⟨(h.keep lm (by omega)).k, fun hc => by omega, fun _ => ?_⟩
      rintro x2 hx2
      refine ⟨(h.keep lm (by omega)).k, s_setProduct (h.keep lm (by omega)) (by omega) ⟨j0, by omega⟩ ⟨l0, by omega⟩ (fun S3 m3 a3 b3 => ⟨rfl, ?_⟩)⟩
      rintro _ rfl
      rw [w32_id (by omega) (by omega)]
      have hx : x2 = if l = j then 1 else 0 := by
        rw [hx2]
        by_cases q : l = j
        · rw [if_neg (fun z => z q), if_pos q]
        · rw [if_pos q, if_neg q]
      refine hk2 _ ⟨by omega, lm.tr m3, fun x => ?_, fun x => ?_⟩
      · rw [a3, ll, hx]
        exact oneP_next ⟨j0, by omega⟩ ⟨l0, hl⟩ hn.2 x
      · rw [b3, lh, ← oneP_next ⟨j0, by omega⟩ ⟨l0, hl⟩ hn.2 x]
        by_cases q : l = j
        · rw [if_pos q]
        · rw [if_neg q]
    · rintro S2 ⟨l0, lm, ll, lh⟩
      apply w_Algebra_setOne_12
      rw [(hu.keep lm (by omega)).1]
      refine ⟨(h.keep lm (by omega)).k, fun _ => ?_, fun hc => absurd (Int.le_refl n) hc⟩
      rintro _ rfl
      rw [w32_id (by omega) (by omega)]
      exact hk _ ⟨by omega, lm, fun x => (ll x).trans (oneP_row x), fun x => (lh x).trans (oneP_row x)⟩
  · rintro S1 ⟨j0, jm, jl, jh⟩
    apply w_Algebra_setOne_2
    rw [(hu.keep jm (by omega)).1]
    exact ⟨(h.keep jm (by omega)).k, fun _ => H S1 jm jl jh, fun hc => absurd (Int.le_refl n) hc⟩
/-- a class times b_j -/
def tmC (p n : Int) (low part : Int → Int) (j : Int) : Int → Int := fun l => if 0 ≤ l ∧ l < n then sm n.toNat (fun i => part i * low ((4 * i + j) * 4 + l)) % p else 0
theorem tmC_bd {p n j : Int} {low part : Int → Int} (hp : 2 ≤ p) (l : Int) : 0 ≤ tmC p n low part j l ∧ tmC p n low part j l < p := by
  unfold tmC
  split
  · exact ⟨Int.emod_nonneg _ (by omega), Int.emod_lt_of_pos _ (by omega)⟩
  · omega
theorem tmC_congr {p n j : Int} {low low' part part' : Int → Int} (h : ∀ i, 0 ≤ i → i < n → part i = part' i) (h2 : ∀ i l, 0 ≤ i → i < n → 0 ≤ l → l < n → low ((4 * i + j) * 4 + l) = low' ((4 * i + j) * 4 + l)) (l : Int) : tmC p n low part j l = tmC p n low' part' j l := by
  unfold tmC
  split
  · rw [sm_congr (fun i i0 i1 => by rw [h i i0 (by omega), h2 i l i0 (by omega) (by omega) (by omega)])]
  · rfl
set_option maxHeartbeats 1000000 in
theorem s_timesClass {d : Nat} {G n p j : Int} {S : Hp} {Q : Vl → Hp → Prop} (h : HW S G) (hu : Hu S G n p) (hn : 2 ≤ n ∧ n ≤ 4) (hp : 2 ≤ p ∧ p ≤ 7) (hj : 0 ≤ j ∧ j < n) (hl : ∀ x, 0 ≤ x → x < 64 → 0 ≤ zG S (G + 1) x ∧ zG S (G + 1) x < 10) (hP : ∀ i, 0 ≤ i → i < n → 0 ≤ zG S (G + 13) i ∧ zG S (G + 13) i < 10) (H : ∀ S', Md (fun x => x = G + 13 ∨ x = G + 14) S S' → (∀ l, 0 ≤ l → l < n → zG S' (G + 13) l = tmC p n (zG S (G + 1)) (zG S (G + 13)) j l) → Q (3, 0) S') : Ev d 5 [(2, G), (0, j)] S Q := by
  apply w_Algebra_timesClass_0
  refine loopU (P := fun l S' => At d 5 c5_2 [(0, (2, G)), (1, (0, j)), (2, (0, l))] [] S' Q) (I := fun l S' => 0 ≤ l ∧ Md (fun x => x = G + 14) S S' ∧ ∀ e, 0 ≤ e → e < l → zG S' (G + 14) e = tmC p n (zG S (G + 1)) (zG S (G + 13)) j e) n ?_ ?_ 0 S (by omega) ⟨by omega, Md.refl _ _, fun e e0 e1 => by omega⟩
  · rintro l S1 hl1 ⟨l0, lm, lv⟩ hk
    have h1 : HW S1 G := h.keep lm (by omega)
    have u1 : Hu S1 G n p := hu.keep lm (by omega)
    apply w_Algebra_timesClass_2
    rw [u1.1]
    refine ⟨h1.k, fun hc => by omega, fun _ => ?_⟩
    refine loopU (α := Int) (P := fun i v => At d 5 c5_15 [(0, (2, G)), (1, (0, j)), (2, (0, l)), (3, (0, v)), (4, (0, i))] [] S1 Q) (I := fun i v => 0 ≤ i ∧ 0 ≤ v ∧ v ≤ 100 * i ∧ v = sm i.toNat (fun i => zG S (G + 13) i * zG S (G + 1) ((4 * i + j) * 4 + l))) n ?_ ?_ 0 0 (by omega) ⟨by omega, by omega, by omega, rfl⟩
    · rintro i v hi ⟨i0, v0, v1, ve⟩ hk3
      have b0 := mul_b (hP i i0 hi) (hl ((4 * i + j) * 4 + l) (by omega) (by omega))
      apply w_Algebra_timesClass_15
      rw [u1.1, h1.f12, h1.f0, lm.G (a := G + 13) (by omega), lm.G (a := G + 1) (by omega), w32_id (x := 4 * i) (by omega) (by omega), w32_id (x := 4 * i + j) (by omega) (by omega), w32_id (x := (4 * i + j) * 4) (by omega) (by omega), w32_id (x := (4 * i + j) * 4 + l) (by omega) (by omega), w32_id (x := zG S (G + 13) i * zG S (G + 1) ((4 * i + j) * 4 + l)) (by omega) (by omega)]
      refine ⟨h1.k, fun hc => by omega, fun _ => ⟨h1.k, ⟨h1.r12.1, by omega, by rw [h1.r12.2]; omega⟩, h1.k, ⟨h1.r0.1, by omega, by rw [h1.r0.2]; omega⟩, ?_⟩⟩
      rintro _ rfl _ rfl
      rw [w32_id (by omega) (by omega), w32_id (by omega) (by omega)]
      refine hk3 _ ⟨by omega, by omega, by omega, ?_⟩
      rw [show (i + 1).toNat = i.toNat + 1 by omega, sm_succ, show ((i.toNat : Nat) : Int) = i by omega, ve]
    · rintro v ⟨-, v0, v1, ve⟩
      apply w_Algebra_timesClass_15
      rw [u1.1, u1.2, h1.f13]
      refine ⟨h1.k, fun _ => ⟨h1.k, h1.k, by omega, ⟨h1.r13.1, by omega, by rw [h1.r13.2]; omega⟩, ?_⟩, fun hc => absurd (Int.le_refl n) hc⟩
      rintro _ rfl _ rfl
      rw [w32_id (by omega) (by omega)]
      refine hk _ ⟨by omega, lm.tr (Md.zS _ _ _ _), fun e e0 e1 => ?_⟩
      by_cases q : e = l
      · rw [q, zG_zS_at]
        unfold tmC
        rw [if_pos ⟨l0, hl1⟩, ← ve]
        exact Int.tmod_eq_emod_of_nonneg v0
      · rw [zG_zS_ne _ (Or.inr q)]
        exact lv e e0 (by omega)
  · rintro S1 ⟨l0, lm, lv⟩
    have h1 : HW S1 G := h.keep lm (by omega)
    have u1 : Hu S1 G n p := hu.keep lm (by omega)
    apply w_Algebra_timesClass_2
    rw [u1.1, h1.f12, h1.f13]
    refine ⟨h1.k, fun _ => ⟨h1.k, h1.k, h1.k, ⟨⟨h1.r13.1, h1.r12.1⟩, ⟨by omega, by omega, by omega⟩, by rw [h1.r13.2]; omega, by rw [h1.r12.2]; omega⟩, ?_⟩, fun hc => absurd (Int.le_refl n) hc⟩
    rintro _ rfl
    refine H _ ⟨lm.1, lm.2.1, fun a i ha => ?_⟩ (fun l l0 l1 => ?_)
    · rw [zG_zC, if_neg (fun z => ha (Or.inl z.1))]
      exact lm.2.2 a i (fun z => ha (Or.inr z))
    · rw [zG_zC, if_pos ⟨rfl, l0, by omega⟩, show 0 + (l - 0) = l by omega]
      exact lv l l0 l1
