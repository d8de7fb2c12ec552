/-! Algebra: branches. -/
/-- y - d times b_i, in front of b_l -/
def dfV (p dp f e : Int) (low : Int → Int) (l i : Int) : Int := (if i = l then (if dp ≤ 0 then low ((4 + i) * 4 + l) else 0) + (2 * p - f - e) else (if dp ≤ 0 then low ((4 + i) * 4 + l) else 0)) % p
set_option maxHeartbeats 1000000 in
theorem s_findDifference {d : Nat} {G L n p e : Int} {S : Hp} {Q : Vl → Hp → Prop} (h : HW S G) (hu : Hu S G n p) (hn : 2 ≤ n ∧ n ≤ 4) (hp : 2 ≤ p ∧ p ≤ 7) (he : 0 ≤ e ∧ e < p) (hL : PW S L) (hR : PR S L) (ht : 0 ≤ zG S L 2 ∧ zG S L 2 < 19) (hf : figS S L (zG S L 2) 1 0 (zG S (L + 2) (zG S L 2 * 4 + 1)) < p) (hlo : ∀ x, 0 ≤ x → x < 64 → 0 ≤ zG S (G + 1) x ∧ zG S (G + 1) x < 10) (H : ∀ S', Md (fun x => x = G + 12) S S' → (∀ l i, 0 ≤ l → l < n → 0 ≤ i → i < n → zG S' (G + 12) (4 * l + i) = dfV p (zG S (L + 2) (zG S L 2 * 4 + 1)) (figS S L (zG S L 2) 1 0 (zG S (L + 2) (zG S L 2 * 4 + 1))) e (zG S (G + 1)) l i) → (∀ x, ¬ sqI n x → zG S' (G + 12) x = zG S (G + 12) x) → Q (3, 0) S') : Ev (d + 1) 11 [(2, G), (2, L), (0, e)] S Q := by
  apply w_Algebra_findDifference_0
  refine ⟨hL.1, hL.1, s_deep hL ht (by omega) ⟨_, rfl, h.k, hL.1, hL.1, s_figure hL hR ht (by omega) (by omega) ⟨_, rfl, ?_⟩⟩⟩
  have fb := (figS_bd S L (zG S L 2) 1 0 (zG S (L + 2) (zG S L 2 * 4 + 1))).1
  generalize zG S (L + 2) (zG S L 2 * 4 + 1) = dp at *
  generalize figS S L (zG S L 2) 1 0 dp = f at *
  rw [hu.2, w32_id (x := 2 * p) (by omega) (by omega), w32_id (x := 2 * p - f) (by omega) (by omega)]
  rintro _ rfl
  rw [w32_id (by omega) (by omega)]
  refine loopU (P := fun i S' => At (d + 1) 11 c11_35 [(0, (2, G)), (3, (0, dp)), (4, (0, 2 * p - f - e)), (5, (0, i))] [] S' Q) (I := fun i S' => 0 ≤ i ∧ Md (fun x => x = G + 12) S S' ∧ (∀ l k, 0 ≤ l → l < n → 0 ≤ k → k < i → zG S' (G + 12) (4 * l + k) = dfV p dp f e (zG S (G + 1)) l k) ∧ ∀ x, ¬ sqI n x → zG S' (G + 12) x = zG S (G + 12) x) n ?_ ?_ 0 S (by omega) ⟨by omega, Md.refl _ _, fun l k l0 l1 k0 k1 => by omega, fun x hx => rfl⟩
  · rintro i S1 hi ⟨i0, m1, v1, o1⟩ hk
    apply w_Algebra_findDifference_35
    rw [(hu.keep m1 (by omega)).1]
    refine ⟨(h.keep m1 (by omega)).k, fun hc => by omega, fun _ => ?_⟩
    refine loopU (P := fun l S' => At (d + 1) 11 c11_47 [(0, (2, G)), (3, (0, dp)), (4, (0, 2 * p - f - e)), (5, (0, i)), (6, (0, l))] [] S' Q) (I := fun l S' => 0 ≤ l ∧ Md (fun x => x = G + 12) S S' ∧ (∀ k m, 0 ≤ k → k < n → 0 ≤ m → (m < i ∨ m = i ∧ k < l) → zG S' (G + 12) (4 * k + m) = dfV p dp f e (zG S (G + 1)) k m) ∧ ∀ x, ¬ sqI n x → zG S' (G + 12) x = zG S (G + 12) x) n ?_ ?_ 0 S1 (by omega) ⟨by omega, m1, fun k m k0 k1 m0 hq => v1 k m k0 k1 m0 (by omega), o1⟩
    · rintro l S2 hl ⟨l0, m2, v2, o2⟩ hk2
      have h2 : HW S2 G := h.keep m2 (by omega)
      have u2 : Hu S2 G n p := hu.keep m2 (by omega)
      have b := hlo ((4 + i) * 4 + l) (by omega) (by omega)
      apply w_Algebra_findDifference_47
      rw [u2.1, u2.2, h2.f0, h2.f11, m2.G (a := G + 1) (by omega), w32_id (x := 4 + i) (by omega) (by omega), w32_id (x := (4 + i) * 4) (by omega) (by omega), w32_id (x := (4 + i) * 4 + l) (by omega) (by omega), w32_id (x := 4 * l) (by omega) (by omega), w32_id (x := 4 * l + i) (by omega) (by omega)]
      refine ⟨h2.k, fun hc => by omega, fun _ => ⟨fun _ => ⟨h2.k, h2.r0.1, by omega, by rw [h2.r0.2]; omega⟩, ?_⟩⟩
      intro x2 hx2
      have b2 : 0 ≤ x2 ∧ x2 < 10 := by
        rw [hx2]
        split <;> omega
      refine ⟨h2.k, ?_⟩
      intro x3 hx3
      rw [w32_id (by omega) (by omega)] at hx3
      have b3 : 0 ≤ x3 := by
        rw [hx3]
        split <;> omega
      refine ⟨h2.k, by omega, ⟨h2.r11.1, by omega, by rw [h2.r11.2]; omega⟩, ?_⟩
      rintro _ rfl _ rfl
      rw [w32_id (by omega) (by omega), Int.tmod_eq_emod_of_nonneg b3]
      refine hk2 _ ⟨by omega, m2.tr (Md.zS _ _ _ _), fun k m k0 k1 m0 hq => ?_, fun x hx => ?_⟩
      · by_cases q : k = l ∧ m = i
        · rw [q.1, q.2, zG_zS_at, hx3, hx2]
          unfold dfV
          by_cases q2 : i = l
          · rw [if_neg (fun z => z q2), if_pos q2]
          · rw [if_pos q2, if_neg q2]
        · rw [zG_zS_ne _ (Or.inr (by omega))]
          exact v2 k m k0 k1 m0 (by omega)
      · rw [zG_zS_ne _ (Or.inr (fun z => hx ⟨by omega, by omega, by omega⟩))]
        exact o2 x hx
    · rintro S2 ⟨-, m2, v2, o2⟩
      apply w_Algebra_findDifference_47
      rw [(hu.keep m2 (by omega)).1]
      refine ⟨(h.keep m2 (by omega)).k, fun _ => ?_, fun hc => absurd (Int.le_refl n) hc⟩
      rintro _ rfl
      rw [w32_id (by omega) (by omega)]
      exact hk _ ⟨by omega, m2, fun l k l0 l1 k0 k1 => v2 l k l0 l1 k0 (by omega), o2⟩
  · rintro S1 ⟨-, m1, v1, o1⟩
    apply w_Algebra_findDifference_35
    rw [(hu.keep m1 (by omega)).1]
    exact ⟨(h.keep m1 (by omega)).k, fun _ => H S1 m1 v1 o1, fun hc => absurd (Int.le_refl n) hc⟩
theorem zC_md {S : Hp} {a sp b dp n : Int} : Md (fun x => x = b) S (zC S a sp b dp n) := ⟨rfl, rfl, fun c i hc => by rw [zG_zC, if_neg (fun z => hc z.1)]⟩
/-- powers of a square, from the first on -/
def pwM (p n : Int) (D : Int → Int) : Nat → Int → Int
  | 0 => D
  | s + 1 => sqM p n (pwM p n D s) D (fun _ => 0)
theorem sqM_congr {p n : Int} {f f' g g' o o' : Int → Int} (hf : ∀ x, sqI n x → f x = f' x) (hg : ∀ x, sqI n x → g x = g' x) (hn : n ≤ 4) (x : Int) (hx : sqI n x) : sqM p n f g o x = sqM p n f' g' o' x := by
  unfold sqM
  rw [if_pos hx, if_pos hx]
  obtain ⟨x0, x1, x2⟩ := hx
  rw [sm_congr (g := fun l => f' (4 * (x / 4) + l) * g' (4 * l + x % 4)) (fun l l0 l1 => by rw [hf _ ⟨by omega, by omega, by omega⟩, hg _ ⟨by omega, by omega, by omega⟩])]
/-- the equations of countBranches -/
def brE (p n : Int) (pw D : Int → Int) : Int → Int := fun x => if x / 4 < n then ptE p pw x else pwM p n D (n - 1).toNat (x - 4 * n)
abbrev MBr (G : Int) : Int → Prop := fun x => x = G + 1 ∨ x = G + 3 ∨ x = G + 4 ∨ x = G + 5 ∨ x = G + 6 ∨ x = G + 11 ∨ x = G + 12 ∨ x = G + 13 ∨ x = G + 14
set_option maxHeartbeats 2000000 in
theorem s_countBranches {d : Nat} {G L n p e : Int} {S : Hp} {Q : Vl → Hp → Prop} (h : HW S G) (hu : Hu S G n p) (hn : 2 ≤ n ∧ n ≤ 4) (hp : isPr p) (he : 0 ≤ e ∧ e < p) (hL : PW S L) (hR : PR S L) (dL : L + 5 < G ∨ G + 14 < L) (ht : 0 ≤ zG S L 2 ∧ zG S L 2 < 19) (hf : figS S L (zG S L 2) 1 0 (zG S (L + 2) (zG S L 2 * 4 + 1)) < p) (hlo : ∀ x, 0 ≤ x → x < 64 → 0 ≤ zG S (L + 5) x ∧ zG S (L + 5) x < 10) (hE : ∀ x, 0 ≤ x → x < 64 → 0 ≤ zG S (G + 4) x ∧ zG S (G + 4) x < 20) (hF : ∀ j, 0 ≤ j → j < 4 → in01 (zG S (G + 6) j)) (hP : ∀ x, 0 ≤ x → x < 16 → 0 ≤ zG S (G + 3) x ∧ zG S (G + 3) x < 10) (hQ : ∀ x, 0 ≤ x → x < 16 → 0 ≤ zG S (G + 11) x ∧ zG S (G + 11) x < 10) (hD : ∀ x, 0 ≤ x → x < 16 → 0 ≤ zG S (G + 12) x ∧ zG S (G + 12) x < 10) (H : ∀ S' k pw D fr so, Md (MBr G) S S' → (∀ l j, 0 ≤ l → l < n → 0 ≤ j → j < n → pw (4 * l + j) = pwC p n (zG S (L + 5)) j (p - 1).toNat l) → (∀ l i, 0 ≤ l → l < n → 0 ≤ i → i < n → D (4 * l + i) = dfV p (zG S (L + 2) (zG S L 2 * 4 + 1)) (figS S L (zG S L 2) 1 0 (zG S (L + 2) (zG S L 2 * 4 + 1))) e (zG S (L + 5)) l i) → solved p n (2 * n) (brE p n pw D) fr so k → (∀ j, 0 ≤ j → j < 4 → in01 (zG S' (G + 6) j)) → (∀ x, 0 ≤ x → x < 64 → 0 ≤ zG S' (G + 4) x ∧ zG S' (G + 4) x < 20) → (∀ x, 0 ≤ x → x < 16 → 0 ≤ zG S' (G + 3) x ∧ zG S' (G + 3) x < 10) → (∀ x, 0 ≤ x → x < 16 → 0 ≤ zG S' (G + 11) x ∧ zG S' (G + 11) x < 10) → (∀ x, 0 ≤ x → x < 16 → 0 ≤ zG S' (G + 12) x ∧ zG S' (G + 12) x < 10) → (∀ x, 0 ≤ x → x < 64 → zG S' (G + 1) x = zG S (L + 5) x) → Q (0, k) S') : Ev (d + 3) 10 [(2, G), (2, L), (0, e)] S Q := by
  have hp7 : 2 ≤ p ∧ p ≤ 7 := by unfold isPr at hp; omega
  apply w_Algebra_countBranches_0
  rw [h.f0, hL.2.2.2.2.2.1, h.r0.2]
  have hr5 : rowI S (L + 5) 64 := hL.2.2.2.2.2.2.2.2.2.2
  refine ⟨hL.1, h.k, h.k, h.r0.1, ⟨⟨hr5.1, h.r0.1⟩, ⟨by omega, by omega, by omega⟩, by rw [hr5.2]; omega, by omega⟩, ?_⟩
  rintro _ rfl
  have m1 : Md (fun x => x = G + 1) S (zC S (L + 5) 0 (G + 1) 0 64) := zC_md
  have l1 : ∀ x, 0 ≤ x → x < 64 → zG (zC S (L + 5) 0 (G + 1) 0 64) (G + 1) x = zG S (L + 5) x := fun x x0 x1 => by
    rw [zG_zC, if_pos ⟨rfl, x0, by omega⟩, show 0 + (x - 0) = x by omega]
  generalize zC S (L + 5) 0 (G + 1) 0 64 = S1 at *
  have h1 : HW S1 G := h.keep m1 (by omega)
  have u1 : Hu S1 G n p := hu.keep m1 (by omega)
  refine ⟨h1.k, s_findPowers h1 u1 hn hp7 (fun x x0 x1 => by rw [l1 x x0 x1]; exact hlo x x0 x1) (fun S2 m2 v2 o2 => ⟨rfl, ?_⟩)⟩
  have mm2 : Md (MBr G) S S2 := (m1.wide (fun x hx => by omega)).tr (m2.wide (fun x hx => by omega))
  have h2 : HW S2 G := h.keep mm2 (by omega)
  have u2 : Hu S2 G n p := hu.keep mm2 (by omega)
  have pw2 : ∀ l j, 0 ≤ l → l < n → 0 ≤ j → j < n → zG S2 (G + 3) (4 * l + j) = pwC p n (zG S (L + 5)) j (p - 1).toNat l := fun l j l0 l9 j0 j9 => by
    rw [v2 l j l0 l9 j0 j9]
    have : ∀ (s : Nat) (l : Int), pwC p n (zG S1 (G + 1)) j s l = pwC p n (zG S (L + 5)) j s l := fun s => by
      induction s with
      | zero => exact fun l => rfl
      | succ s ih => exact fun l => tmC_congr (fun i i0 i1 => ih i) (fun i l i0 i1 l0 l9 => l1 _ (by omega) (by omega)) l
    exact this _ _
  have pb2 : ∀ x, 0 ≤ x → x < 16 → 0 ≤ zG S2 (G + 3) x ∧ zG S2 (G + 3) x < 10 := fun x x0 x1 => by
    by_cases q : sqI n x
    · have := v2 (x / 4) (x % 4) (by omega) q.2.1 (by omega) q.2.2
      rw [show 4 * (x / 4) + x % 4 = x by omega] at this
      rw [this]
      have := pwC_bd (n := n) (j := x % 4) (low := zG S1 (G + 1)) hp7.1 (p - 1).toNat (x / 4)
      omega
    · rw [o2 x q, m1.G (by omega)]
      exact hP x x0 x1
  have lo2 : ∀ x, 0 ≤ x → x < 64 → zG S2 (G + 1) x = zG S (L + 5) x := fun x x0 x1 => by
    rw [m2.G (by omega)]
    exact l1 x x0 x1
  have nL : ∀ x, L ≤ x → x ≤ L + 5 → ¬ MBr G x := fun x x0 x1 => by unfold MBr; omega
  have eT : zG S2 L 2 = zG S L 2 := mm2.G (nL L (by omega) (by omega)) 2
  have eD : ∀ x, zG S2 (L + 2) x = zG S (L + 2) x := fun x => mm2.G (nL _ (by omega) (by omega)) x
  have eF : ∀ k j i m, figS S2 L k j i m = figS S L k j i m := fun k j i m => figS_keep mm2 (nL _ (by omega) (by omega)) k j i m
  refine ⟨h2.k, s_findDifference h2 u2 hn hp7 he (hL.keep mm2 (nL _ (by omega) (by omega))) (hR.keep mm2 (nL _ (by omega) (by omega))) (by rw [eT]; exact ht) (by rw [eT, eD, eF]; exact hf) (fun x x0 x1 => by rw [lo2 x x0 x1]; exact hlo x x0 x1) (fun S3 m3 v3 o3 => ⟨rfl, ?_⟩)⟩
  rw [eT, eD, eF] at v3
  have df3 : ∀ l i, 0 ≤ l → l < n → 0 ≤ i → i < n → zG S3 (G + 12) (4 * l + i) = dfV p (zG S (L + 2) (zG S L 2 * 4 + 1)) (figS S L (zG S L 2) 1 0 (zG S (L + 2) (zG S L 2 * 4 + 1))) e (zG S (L + 5)) l i := fun l i l0 l9 i0 i9 => by
    rw [v3 l i l0 l9 i0 i9]
    unfold dfV
    rw [lo2 _ (by omega) (by omega)]
  have mm3 : Md (MBr G) S S3 := mm2.tr (m3.wide (fun x hx => by omega))
  have h3 : HW S3 G := h.keep mm3 (by omega)
  have db3 : ∀ x, 0 ≤ x → x < 16 → 0 ≤ zG S3 (G + 12) x ∧ zG S3 (G + 12) x < 10 := fun x x0 x1 => by
    by_cases q : sqI n x
    · have := v3 (x / 4) (x % 4) (by omega) q.2.1 (by omega) q.2.2
      rw [show 4 * (x / 4) + x % 4 = x by omega] at this
      rw [this]
      unfold dfV
      refine ⟨Int.emod_nonneg _ (by omega), ?_⟩
      have := Int.emod_lt_of_pos (if x % 4 = x / 4 then (if zG S (L + 2) (zG S L 2 * 4 + 1) ≤ 0 then zG S2 (G + 1) ((4 + x % 4) * 4 + x / 4) else 0) + (2 * p - figS S L (zG S L 2) 1 0 (zG S (L + 2) (zG S L 2 * 4 + 1)) - e) else (if zG S (L + 2) (zG S L 2 * 4 + 1) ≤ 0 then zG S2 (G + 1) ((4 + x % 4) * 4 + x / 4) else 0)) (show 0 < p by omega)
      omega
    · rw [o3 x q, m2.G (by omega), m1.G (by omega)]
      exact hD x x0 x1
  generalize hDD : zG S3 (G + 12) = D at *
  have p3 : ∀ x, zG S3 (G + 3) x = zG S2 (G + 3) x := fun x => m3.G (by omega) x
  generalize hPW : zG S2 (G + 3) = pw at *
  rw [h3.f11, h3.f10]
  refine ⟨h3.k, h3.k, ⟨⟨h3.r11.1, h3.r10.1⟩, ⟨by omega, by omega, by omega⟩, by rw [h3.r11.2]; omega, by rw [h3.r10.2]; omega⟩, ?_⟩
  rintro _ rfl
  have m4 : Md (fun x => x = G + 11) S3 (zC S3 (G + 12) 0 (G + 11) 0 16) := zC_md
  have v4 : ∀ x, 0 ≤ x → x < 16 → zG (zC S3 (G + 12) 0 (G + 11) 0 16) (G + 11) x = D x := fun x x0 x1 => by
    rw [zG_zC, if_pos ⟨rfl, x0, by omega⟩, show 0 + (x - 0) = x by omega, hDD]
  generalize zC S3 (G + 12) 0 (G + 11) 0 16 = S4 at *
  have mm4 : Md (MBr G) S S4 := mm3.tr (m4.wide (fun x hx => by omega))
  refine loopU (P := fun s S' => At (d + 3) 10 c10_45 [(0, (2, G)), (3, (0, s))] [] S' Q) (I := fun s S' => 1 ≤ s ∧ Md (fun x => x = G + 4 ∨ x = G + 11) S3 S' ∧ (∀ x, 0 ≤ x → x < 64 → 0 ≤ zG S' (G + 4) x ∧ zG S' (G + 4) x < 20) ∧ (∀ x, 0 ≤ x → x < 16 → 0 ≤ zG S' (G + 11) x ∧ zG S' (G + 11) x < 10) ∧ ∀ x, sqI n x → zG S' (G + 11) x = pwM p n D (s - 1).toNat x) n ?_ ?_ 1 S4 (by omega) ⟨by omega, m4.wide (fun x hx => Or.inr hx), fun x x0 x1 => ?_, fun x x0 x1 => by rw [v4 x x0 x1]; exact db3 x x0 x1, fun x hx => ?_⟩
  · rintro s S5 hs ⟨s0, m5, b5, q5, v5⟩ hk
    have mm5 : Md (MBr G) S S5 := mm3.tr (m5.wide (fun x hx => by omega))
    have h5 : HW S5 G := h.keep mm5 (by omega)
    have u5 : Hu S5 G n p := hu.keep mm5 (by omega)
    apply w_Algebra_countBranches_45
    rw [u5.1, h5.f10, h5.f3]
    refine ⟨h5.k, fun hc => by omega, fun _ => ⟨h5.k, h5.k, ⟨⟨h5.r10.1, h5.r3.1⟩, ⟨by omega, by omega, by omega⟩, by rw [h5.r10.2]; omega, by rw [h5.r3.2]; omega⟩, ?_⟩⟩
    rintro _ rfl
    have m6 : Md (fun x => x = G + 4) S5 (zC S5 (G + 11) 0 (G + 4) 0 16) := zC_md
    have v6 : ∀ x, 0 ≤ x → x < 16 → zG (zC S5 (G + 11) 0 (G + 4) 0 16) (G + 4) x = zG S5 (G + 11) x := fun x x0 x1 => by
      rw [zG_zC, if_pos ⟨rfl, x0, by omega⟩, show 0 + (x - 0) = x by omega]
    have b6 : ∀ x, 0 ≤ x → x < 64 → 0 ≤ zG (zC S5 (G + 11) 0 (G + 4) 0 16) (G + 4) x ∧ zG (zC S5 (G + 11) 0 (G + 4) 0 16) (G + 4) x < 20 := fun x x0 x1 => by
      rw [zG_zC]
      split
      · have := q5 (0 + (x - 0)) (by omega) (by omega)
        omega
      · exact b5 x x0 x1
    generalize zC S5 (G + 11) 0 (G + 4) 0 16 = S6 at *
    have h6 : HW S6 G := h5.keep m6 (by omega)
    have u6 : Hu S6 G n p := u5.keep m6 (by omega)
    have d6 : zG S6 (G + 12) = D := funext fun x => by rw [m6.G (by omega), m5.G (by omega), hDD]
    rw [h6.f3, h6.f11]
    refine ⟨h6.k, h6.k, h6.k, s_multiplySquares h6 u6 hn hp7 h6.r3 (by omega) h6.r11 (by omega) (by omega) (by omega) (fun i i0 i1 => by rw [v6 i i0 i1]; exact q5 i i0 i1) (fun i i0 i1 => by rw [d6]; exact db3 i i0 i1) ⟨rfl, ?_⟩⟩
    rintro _ rfl
    rw [w32_id (by omega) (by omega)]
    refine hk _ ⟨by omega, (m5.tr (m6.wide (fun x hx => Or.inl hx))).tr ((Md.zR _ _ _).wide (fun x hx => Or.inr hx)), fun x x0 x1 => ?_, fun x x0 x1 => ?_, fun x hx => ?_⟩
    · rw [zG_zR_ne _ (by omega)]
      exact b6 x x0 x1
    · rw [zG_zR_at]
      exact sqM_bd hp7.1 x (by rw [m6.G (by omega)]; exact q5 x x0 x1) hp7.2
    · rw [zG_zR_at, d6, show (s + 1 - 1).toNat = (s - 1).toNat + 1 by omega]
      exact sqM_congr (fun y hy => by rw [v6 y hy.1 (by have := hy.2.1; omega)]; exact v5 y hy) (fun y hy => rfl) hn.2 x hx
  · rintro S5 ⟨-, m5, b5, q5, v5⟩
    have mm5 : Md (MBr G) S S5 := mm3.tr (m5.wide (fun x hx => by omega))
    have h5 : HW S5 G := h.keep mm5 (by omega)
    have u5 : Hu S5 G n p := hu.keep mm5 (by omega)
    have p5 : ∀ x, zG S5 (G + 3) x = pw x := fun x => by rw [m5.G (by omega), p3]
    apply w_Algebra_countBranches_45
    rw [u5.1]
    refine ⟨h5.k, fun _ => ⟨h5.k, s_askPowersSame h5 u5 hn hp7 (fun x x0 x1 => by rw [p5]; exact pb2 x x0 x1) (fun S6 m6 v6 o6 => ⟨rfl, ?_⟩)⟩, fun hc => absurd (Int.le_refl n) hc⟩
    have h6 : HW S6 G := h5.keep m6 (by omega)
    have u6 : Hu S6 G n p := u5.keep m6 (by omega)
    rw [u6.1, h6.f10, h6.f3, w32_id (x := 4 * n) (by omega) (by omega)]
    refine ⟨h6.k, h6.k, h6.k, h6.k, ⟨⟨h6.r10.1, h6.r3.1⟩, ⟨by omega, by omega, by omega⟩, by rw [h6.r10.2]; omega, by rw [h6.r3.2]; omega⟩, ?_⟩
    rintro _ rfl
    have m7 : Md (fun x => x = G + 4) S6 (zC S6 (G + 11) 0 (G + 4) (4 * n) (4 * n)) := zC_md
    have v7 : ∀ x, zG (zC S6 (G + 11) 0 (G + 4) (4 * n) (4 * n)) (G + 4) x = if 4 * n ≤ x ∧ x < 4 * n + 4 * n then zG S5 (G + 11) (x - 4 * n) else zG S6 (G + 4) x := fun x => by
      rw [zG_zC]
      by_cases q : 4 * n ≤ x ∧ x < 4 * n + 4 * n
      · rw [if_pos ⟨rfl, q⟩, if_pos q, m6.G (by omega), show 0 + (x - 4 * n) = x - 4 * n by omega]
      · rw [if_neg (fun z => q z.2), if_neg q]
    generalize zC S6 (G + 11) 0 (G + 4) (4 * n) (4 * n) = S7 at *
    have mm7 : Md (MBr G) S S7 := (mm5.tr (m6.wide (fun x hx => by omega))).tr (m7.wide (fun x hx => by omega))
    have h7 : HW S7 G := h.keep mm7 (by omega)
    have u7 : Hu S7 G n p := hu.keep mm7 (by omega)
    have b6 : ∀ x, 0 ≤ x → x < 64 → 0 ≤ zG S6 (G + 4) x ∧ zG S6 (G + 4) x < 20 := fun x x0 x1 => by
      by_cases q : sqI n x
      · have := v6 (x / 4) (x % 4) (by omega) q.2.1 (by omega) q.2.2
        rw [show 4 * (x / 4) + x % 4 = x by omega] at this
        rw [this, p5]
        have b := pb2 x x0 (by have := q.2.1; omega)
        split <;> omega
      · rw [o6 x q]
        exact b5 x x0 x1
    rw [u7.1, w32_id (x := 2 * n) (by omega) (by omega)]
    refine ⟨h7.k, h7.k, s_solve h7 u7 hn hp ⟨by omega, by omega⟩ (fun x x0 x1 => ?_) (fun j j0 j1 => ?_) (fun S8 k m8 s8 f8 b8 => ⟨_, rfl, ?_⟩)⟩
    · rw [v7]
      split
      · have := q5 (x - 4 * n) (by omega) (by omega)
        omega
      · exact b6 x x0 x1
    · rw [m7.G (by omega), m6.G (by omega), m5.G (by omega), m3.G (by omega), m2.G (by omega), m1.G (by omega)]
      exact hF j j0 j1
    · refine H S8 k pw D _ _ (mm7.tr (m8.wide (fun x hx => by omega))) pw2 df3 (s8.congr (by omega) (fun r i r0 r1 i0 i1 => ?_) (fun _ _ _ => rfl) (fun _ _ _ _ _ _ => rfl)) f8 b8 (fun x x0 x1 => ?_) (fun x x0 x1 => ?_) (fun x x0 x1 => ?_) (fun x x0 x1 => ?_)
      · rw [v7]
        unfold brE
        by_cases q : r < n
        · rw [if_neg (by omega), if_pos (by omega), v6 r i r0 q i0 i1, p5]
          unfold ptE
          rw [show (4 * r + i) / 4 = r by omega, show (4 * r + i) % 4 = i by omega]
        · rw [if_pos (by omega), if_neg (by omega)]
          exact v5 _ ⟨by omega, by omega, by omega⟩
      · rw [m8.G (by omega), m7.G (by omega), m6.G (by omega), p5]
        exact pb2 x x0 x1
      · rw [m8.G (by omega), m7.G (by omega), m6.G (by omega)]
        exact q5 x x0 x1
      · rw [m8.G (by omega), m7.G (by omega), m6.G (by omega), m5.G (by omega), hDD]
        exact db3 x x0 x1
      · rw [m8.G (by omega), m7.G (by omega), m6.G (by omega), m5.G (by omega), m3.G (by omega)]
        exact lo2 x x0 x1
  · rw [m4.G (by omega), m3.G (by omega), m2.G (by omega), m1.G (by omega)]
    exact hE x x0 x1
  · rw [v4 x hx.1 (by have := hx.2.1; omega), show ((1 : Int) - 1).toNat = 0 by omega]
    rfl
