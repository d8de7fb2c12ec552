/-! Algebra: what multiplies the radical into itself, and how a new basis comes of the old. -/
def muV (p n : Int) (nb nil low high : Int → Int) (j l i : Int) : Int := if nil j = 0 ∨ nil l = 0 then 0 else rcF p n nb nil low high j l i
theorem ix_bd {n l i : Int} (hn : 2 ≤ n ∧ n ≤ 4) (hl : 0 ≤ l ∧ l < n) (hi : 0 ≤ i ∧ i < n) : 0 ≤ n * l + i ∧ n * l + i < n * n ∧ n * n ≤ 16 ∧ 4 ≤ n * n ∧ 0 ≤ n * l ∧ n * l ≤ 12 := by
  have : n = 2 ∨ n = 3 ∨ n = 4 := by omega
  rcases this with rfl | rfl | rfl <;> omega
theorem ix_inj {n l i l' i' : Int} (hn : 2 ≤ n ∧ n ≤ 4) (hi : 0 ≤ i ∧ i < n) (hi' : 0 ≤ i' ∧ i' < n) (h : n * l + i = n * l' + i') : l = l' ∧ i = i' := by
  have : n = 2 ∨ n = 3 ∨ n = 4 := by omega
  rcases this with rfl | rfl | rfl <;> omega
set_option maxHeartbeats 2000000 in
theorem s_findMultipliers {d : Nat} {G n p : Int} {S : Hp} {Q : Vl → Hp → Prop} (h : HW S G) (hu : Hu S G n p) (hn : 2 ≤ n ∧ n ≤ 4) (hp : isPr p) (hlo : ∀ x, 0 ≤ x → x < 64 → 0 ≤ zG S (G + 1) x ∧ zG S (G + 1) x < 10) (hhi : ∀ x, 0 ≤ x → x < 64 → 0 ≤ zG S (G + 2) x ∧ zG S (G + 2) x < 10) (hnb : ∀ r i, 0 ≤ r → r < n → 0 ≤ i → i < n → 0 ≤ zG S (G + 7) (4 * r + i) ∧ zG S (G + 7) (4 * r + i) < p) (hE : ∀ x, 0 ≤ x → x < 64 → 0 ≤ zG S (G + 4) x ∧ zG S (G + 4) x < 20) (hF : ∀ j, 0 ≤ j → j < 4 → in01 (zG S (G + 6) j)) (H : ∀ S' k E, Md (fun x => x = G + 4 ∨ x = G + 5 ∨ x = G + 6 ∨ x = G + 13 ∨ x = G + 14) S S' → (∀ l i j, 0 ≤ l → l < n → 0 ≤ i → i < n → 0 ≤ j → j < n → E (4 * (n * l + i) + j) = muV p n (zG S (G + 7)) (zG S (G + 8)) (zG S (G + 1)) (zG S (G + 2)) j l i) → solved p n (n * n) E (zG S' (G + 6)) (zG S' (G + 5)) k → (∀ j, 0 ≤ j → j < 4 → in01 (zG S' (G + 6) j)) → (∀ x, 0 ≤ x → x < 64 → 0 ≤ zG S' (G + 4) x ∧ zG S' (G + 4) x < 20) → Q (3, 0) S') : Ev (d + 3) 15 [(2, G)] S Q := by
  have hp7 : 2 ≤ p ∧ p ≤ 7 := by unfold isPr at hp; omega
  generalize hNB : zG S (G + 7) = nb at *
  generalize hLO : zG S (G + 1) = lo at *
  generalize hHI : zG S (G + 2) = hg at *
  generalize hNI : zG S (G + 8) = nil at *
  have mb : ∀ j l i, 0 ≤ muV p n nb nil lo hg j l i ∧ muV p n nb nil lo hg j l i < 20 := fun j l i => by
    unfold muV
    split
    · omega
    · have := rcF_bd (p := p) (n := n) (nb := nb) (nil := nil) (low := lo) (high := hg) (j := j) (l := l) (i := i) hp7.1
      omega
  apply w_Algebra_findMultipliers_0
  refine loopU (P := fun j S' => At (d + 3) 15 c15_2 [(0, (2, G)), (1, (0, j))] [] S' Q) (I := fun j S' => 0 ≤ j ∧ Md (fun x => x = G + 4 ∨ x = G + 13 ∨ x = G + 14) S S' ∧ (∀ x, 0 ≤ x → x < 64 → 0 ≤ zG S' (G + 4) x ∧ zG S' (G + 4) x < 20) ∧ ∀ l i e, 0 ≤ l → l < n → 0 ≤ i → i < n → 0 ≤ e → e < j → zG S' (G + 4) (4 * (n * l + i) + e) = muV p n nb nil lo hg e l i) n ?_ ?_ 0 S (by omega) ⟨by omega, Md.refl _ _, hE, fun l i e l0 l1 i0 i1 e0 e1 => by omega⟩
  · rintro j S1 hj ⟨j0, m1, b1, v1⟩ hk
    apply w_Algebra_findMultipliers_2
    rw [(hu.keep m1 (by omega)).1]
    refine ⟨(h.keep m1 (by omega)).k, fun hc => by omega, fun _ => ?_⟩
    refine loopU (P := fun l S' => At (d + 3) 15 c15_12 [(0, (2, G)), (1, (0, j)), (2, (0, l))] [] S' Q) (I := fun l S' => 0 ≤ l ∧ Md (fun x => x = G + 4 ∨ x = G + 13 ∨ x = G + 14) S S' ∧ (∀ x, 0 ≤ x → x < 64 → 0 ≤ zG S' (G + 4) x ∧ zG S' (G + 4) x < 20) ∧ ∀ e i k, 0 ≤ e → e < n → 0 ≤ i → i < n → 0 ≤ k → k < n → (k < j ∨ k = j ∧ e < l) → zG S' (G + 4) (4 * (n * e + i) + k) = muV p n nb nil lo hg k e i) n ?_ ?_ 0 S1 (by omega) ⟨by omega, m1, b1, fun e i k e0 e1 i0 i1 k0 k1 hq => v1 e i k e0 e1 i0 i1 k0 (by omega)⟩
    · rintro l S2 hl ⟨l0, m2, b2, v2⟩ hk2
      have h2 : HW S2 G := h.keep m2 (by omega)
      have u2 : Hu S2 G n p := hu.keep m2 (by omega)
      have e8 : ∀ x, zG S2 (G + 8) x = nil x := fun x => by rw [m2.G (by omega), hNI]
      -- the inner loop, whatever it starts from
      have inner : ∀ S3 cc, Md (fun x => x = G + 13 ∨ x = G + 14) S2 S3 → cc = (if nil j = 0 ∨ nil l = 0 then 0 else 1) → (cc ≠ 0 → ∀ i, 0 ≤ i → i < n → zG S3 (G + 13) i = rcF p n nb nil lo hg j l i) → At (d + 3) 15 c15_54 [(0, (2, G)), (1, (0, j)), (2, (0, l)), (3, (0, cc))] [] S3 Q := fun S3 cc m3 hcc hv => by
        have hx : ∀ i, 0 ≤ i → i < n → (if cc = 0 then 0 else zG S3 (G + 13) i) = muV p n nb nil lo hg j l i := fun i i0 i1 => by
          unfold muV
          by_cases q : nil j = 0 ∨ nil l = 0
          · rw [if_pos q] at hcc
            rw [if_pos hcc, if_pos q]
          · rw [if_neg q] at hcc
            rw [if_neg (by omega), if_neg q]
            exact hv (by omega) i i0 i1
        have e4 : ∀ x, zG S3 (G + 4) x = zG S2 (G + 4) x := fun x => m3.G (by omega) x
        apply w_Algebra_findMultipliers_54
        refine loopU (P := fun i S' => At (d + 3) 15 c15_57 [(0, (2, G)), (1, (0, j)), (2, (0, l)), (3, (0, cc)), (4, (0, i))] [] S' Q) (I := fun i S' => 0 ≤ i ∧ Md (fun x => x = G + 4) S3 S' ∧ (∀ x, 0 ≤ x → x < 64 → 0 ≤ zG S' (G + 4) x ∧ zG S' (G + 4) x < 20) ∧ ∀ e f k, 0 ≤ e → e < n → 0 ≤ f → f < n → 0 ≤ k → k < n → (k < j ∨ k = j ∧ (e < l ∨ e = l ∧ f < i)) → zG S' (G + 4) (4 * (n * e + f) + k) = muV p n nb nil lo hg k e f) n ?_ ?_ 0 S3 (by omega) ⟨by omega, Md.refl _ _, fun x x0 x1 => by rw [e4]; exact b2 x x0 x1, fun e f k e0 e1 f0 f1 k0 k1 hq => by rw [e4]; exact v2 e f k e0 e1 f0 f1 k0 k1 (by omega)⟩
        · rintro i S4 hi ⟨i0, m4, b4, v4⟩ hk3
          have h4 : HW S4 G := (h2.keep m3 (by omega)).keep m4 (by omega)
          have u4 : Hu S4 G n p := (u2.keep m3 (by omega)).keep m4 (by omega)
          have ib := ix_bd hn ⟨l0, hl⟩ ⟨i0, hi⟩
          apply w_Algebra_findMultipliers_57
          rw [u4.1, h4.f12, h4.f3, m4.G (a := G + 13) (by omega), hx i i0 hi, w32_id (x := n * l) (by omega) (by omega), w32_id (x := n * l + i) (by omega) (by omega), w32_id (x := 4 * (n * l + i)) (by omega) (by omega), w32_id (x := 4 * (n * l + i) + j) (by omega) (by omega)]
          refine ⟨h4.k, fun hc => by omega, fun _ => ⟨h4.k, h4.k, fun _ => ⟨h4.k, h4.r12.1, i0, by rw [h4.r12.2]; omega⟩, ?_⟩⟩
          intro x2 hx2
          rw [hx2]
          clear hx2 x2
          refine ⟨⟨h4.r3.1, by omega, by rw [h4.r3.2]; omega⟩, ?_⟩
          rintro _ rfl _ rfl
          rw [w32_id (by omega) (by omega)]
          refine hk3 _ ⟨by omega, m4.tr (Md.zS _ _ _ _), fun x x0 x1 => ?_, fun e f k e0 e1 f0 f1 k0 k1 hq => ?_⟩
          · rw [zG_zS]
            split
            · exact mb j l i
            · exact b4 x x0 x1
          · by_cases q : e = l ∧ f = i ∧ k = j
            · rw [q.1, q.2.1, q.2.2, zG_zS_at]
            · rw [zG_zS_ne _ (Or.inr (fun z => ?_))]
              · exact v4 e f k e0 e1 f0 f1 k0 k1 (by omega)
              · have z1 : n * e + f = n * l + i ∧ k = j := by omega
                have z2 := ix_inj hn ⟨f0, f1⟩ ⟨i0, hi⟩ z1.1
                exact q ⟨z2.1, z2.2, z1.2⟩
        · rintro S4 ⟨-, m4, b4, v4⟩
          have h4 : HW S4 G := (h2.keep m3 (by omega)).keep m4 (by omega)
          have u4 : Hu S4 G n p := (u2.keep m3 (by omega)).keep m4 (by omega)
          apply w_Algebra_findMultipliers_57
          rw [u4.1]
          refine ⟨h4.k, fun _ => ?_, fun hc => absurd (Int.le_refl n) hc⟩
          rintro _ rfl
          rw [w32_id (by omega) (by omega)]
          exact hk2 _ ⟨by omega, (m2.tr (m3.wide (fun x hx => Or.inr hx))).tr (m4.wide (fun x hx => Or.inl hx)), b4, fun e i k e0 e1 i0 i1 k0 k1 hq => v4 e i k e0 e1 i0 i1 k0 k1 (by omega)⟩
      apply w_Algebra_findMultipliers_12
      rw [u2.1, h2.f7, e8, e8]
      refine ⟨h2.k, fun hc => by omega, fun _ => ⟨h2.k, ⟨h2.r7.1, j0, by rw [h2.r7.2]; omega⟩, fun _ => ⟨h2.k, h2.r7.1, l0, by rw [h2.r7.2]; omega⟩, ?_⟩⟩
      intro x2 hx2
      refine ⟨fun hq => inner S2 x2 (Md.refl _ _) hx2 (fun hn => absurd hq hn), fun hq => ⟨h2.k, ?_⟩⟩
      have e7 : zG S2 (G + 7) = nb := funext fun x => by rw [m2.G (by omega), hNB]
      have e1 : zG S2 (G + 1) = lo := funext fun x => by rw [m2.G (by omega), hLO]
      have e2 : zG S2 (G + 2) = hg := funext fun x => by rw [m2.G (by omega), hHI]
      have e8' : zG S2 (G + 8) = nil := funext e8
      refine s_multiplyRadical h2 u2 hn hp7 ⟨j0, hj⟩ ⟨l0, hl⟩ (by rw [e1]; exact hlo) (by rw [e2]; exact hhi) (by rw [e7]; exact hnb) (fun S3 m3 v3 => ⟨rfl, inner S3 x2 m3 hx2 (fun _ i i0 i1 => ?_)⟩)
      rw [v3 i i0 i1, e7, e8', e1, e2]
    · rintro S2 ⟨-, m2, b2, v2⟩
      apply w_Algebra_findMultipliers_12
      rw [(hu.keep m2 (by omega)).1]
      refine ⟨(h.keep m2 (by omega)).k, fun _ => ?_, fun hc => absurd (Int.le_refl n) hc⟩
      rintro _ rfl
      rw [w32_id (by omega) (by omega)]
      exact hk _ ⟨by omega, m2, b2, fun l i e l0 l1 i0 i1 e0 e1 => v2 l i e l0 l1 i0 i1 e0 (by omega) (by omega)⟩
  · rintro S1 ⟨-, m1, b1, v1⟩
    have h1 : HW S1 G := h.keep m1 (by omega)
    have u1 : Hu S1 G n p := hu.keep m1 (by omega)
    have ib := ix_bd hn (show 0 ≤ (0 : Int) ∧ 0 < n by omega) (show 0 ≤ (0 : Int) ∧ 0 < n by omega)
    apply w_Algebra_findMultipliers_2
    rw [u1.1, w32_id (x := n * n) (by omega) (by omega)]
    refine ⟨h1.k, fun _ => ⟨h1.k, h1.k, h1.k, ?_⟩, fun hc => absurd (Int.le_refl n) hc⟩
    exact s_solve h1 u1 hn hp ⟨by omega, by omega⟩ b1 (fun j j0 j1 => by rw [m1.G (by omega)]; exact hF j j0 j1) (fun S2 k m2 s2 f2 b2 => ⟨_, rfl, H S2 k (zG S1 (G + 4)) ((m1.wide (fun x hx => by omega)).tr (m2.wide (fun x hx => by omega))) (fun l i j l0 l1 i0 i1 j0 j1 => v1 l i j l0 l1 i0 i1 j0 j1) s2 f2 b2⟩)
/-- how often the old b_a by t comes in -/
def cbT (p n : Int) (so nb nil : Int → Int) (j : Int) : Nat → Int → Int
  | 0 => fun _ => 0
  | s + 1 => fun a => if 0 ≤ a ∧ a < n ∧ nil s ≠ 0 then (cbT p n so nb nil j s a + so (4 * j + s) * nb (4 * s + a)) % p else cbT p n so nb nil j s a
theorem cbT_bd {p n j : Int} {so nb nil : Int → Int} (hp : 2 ≤ p) : ∀ (s : Nat) (a : Int), 0 ≤ cbT p n so nb nil j s a ∧ cbT p n so nb nil j s a < p
  | 0, a => by show 0 ≤ (0 : Int) ∧ (0 : Int) < p; omega
  | s + 1, a => by
    show 0 ≤ (if 0 ≤ a ∧ a < n ∧ nil s ≠ 0 then (cbT p n so nb nil j s a + so (4 * j + s) * nb (4 * s + a)) % p else cbT p n so nb nil j s a) ∧ (if 0 ≤ a ∧ a < n ∧ nil s ≠ 0 then (cbT p n so nb nil j s a + so (4 * j + s) * nb (4 * s + a)) % p else cbT p n so nb nil j s a) < p
    split
    · exact ⟨Int.emod_nonneg _ (by omega), Int.emod_lt_of_pos _ (by omega)⟩
    · exact cbT_bd hp s a
def cbP (n : Int) (so nb nil fr : Int → Int) (j i : Int) : Int := if fr j = 0 then nb (4 * j + i) else if i < n ∧ nil i = 0 then so (4 * j + i) else 0
def cbB (p n : Int) (so nb nil fr : Int → Int) (j a : Int) : Int := if fr j = 0 then 0 else cbT p n so nb nil j n.toNat a
set_option maxHeartbeats 2000000 in
theorem s_combine {d : Nat} {G n p j : Int} {S : Hp} {Q : Vl → Hp → Prop} (h : HW S G) (hu : Hu S G n p) (hn : 2 ≤ n ∧ n ≤ 4) (hp : 2 ≤ p ∧ p ≤ 7) (hj : 0 ≤ j ∧ j < n) (hnb : ∀ r i, 0 ≤ r → r < n → 0 ≤ i → i < n → 0 ≤ zG S (G + 7) (4 * r + i) ∧ zG S (G + 7) (4 * r + i) < p) (hso : ∀ r i, 0 ≤ r → r < n → 0 ≤ i → i < n → 0 ≤ zG S (G + 5) (4 * r + i) ∧ zG S (G + 5) (4 * r + i) < p) (H : ∀ S', Md (fun x => x = G + 9 ∨ x = G + 10) S S' → (∀ a, 0 ≤ a → a < 4 → zG S' (G + 9) a = cbB p n (zG S (G + 5)) (zG S (G + 7)) (zG S (G + 8)) (zG S (G + 6)) j a ∧ zG S' (G + 10) a = cbP n (zG S (G + 5)) (zG S (G + 7)) (zG S (G + 8)) (zG S (G + 6)) j a) → Q (3, 0) S') : Ev d 18 [(2, G), (0, j)] S Q := by
  generalize hNB : zG S (G + 7) = nb at *
  generalize hSO : zG S (G + 5) = so at *
  generalize hFR : zG S (G + 6) = fr at *
  generalize hNI : zG S (G + 8) = nil at *
  apply w_Algebra_combine_0
  refine loopU (P := fun i S' => At d 18 c18_2 [(0, (2, G)), (1, (0, j)), (2, (0, i))] [] S' Q) (I := fun i S' => 0 ≤ i ∧ Md (fun x => x = G + 9 ∨ x = G + 10) S S' ∧ ∀ a, 0 ≤ a → a < i → zG S' (G + 9) a = 0 ∧ zG S' (G + 10) a = if fr j = 0 then nb (4 * j + a) else 0) 4 ?_ ?_ 0 S (by omega) ⟨by omega, Md.refl _ _, fun a a0 a1 => by omega⟩
  · rintro i S1 hi ⟨i0, m1, v1⟩ hk
    have h1 : HW S1 G := h.keep m1 (by omega)
    apply w_Algebra_combine_2
    rw [h1.f8]
    refine ⟨fun hc => by omega, fun _ => ⟨h1.k, ⟨h1.r8.1, i0, by rw [h1.r8.2]; omega⟩, ?_⟩⟩
    rintro _ rfl
    have m2 : Md (fun x => x = G + 9 ∨ x = G + 10) S (zS S1 (G + 9) i 0) := m1.tr ((Md.zS _ _ _ _).wide (fun x hx => Or.inl hx))
    have h2 : HW (zS S1 (G + 9) i 0) G := h.keep m2 (by omega)
    rw [h2.f5, h2.f6, h2.f9, m2.G (a := G + 6) (by omega), m2.G (a := G + 7) (by omega), hFR, hNB, w32_id (x := 4 * j) (by omega) (by omega), w32_id (x := 4 * j + i) (by omega) (by omega)]
    refine ⟨h2.k, h2.k, ⟨h2.r5.1, hj.1, by rw [h2.r5.2]; omega⟩, fun _ => ⟨h2.k, h2.r6.1, by omega, by rw [h2.r6.2]; omega⟩, ?_⟩
    intro x2 hx2
    rw [hx2]
    clear hx2 x2
    refine ⟨⟨h2.r9.1, i0, by rw [h2.r9.2]; omega⟩, ?_⟩
    rintro _ rfl _ rfl
    rw [w32_id (by omega) (by omega)]
    refine hk _ ⟨by omega, m2.tr ((Md.zS _ _ _ _).wide (fun x hx => Or.inr hx)), fun a a0 a1 => ?_⟩
    by_cases q : a = i
    · rw [q, zG_zS_ne _ (Or.inl (by omega)), zG_zS_at, zG_zS_at]
      exact ⟨rfl, rfl⟩
    · rw [zG_zS_ne _ (Or.inl (by omega)), zG_zS_ne _ (Or.inr q), zG_zS_ne _ (Or.inr q), zG_zS_ne _ (Or.inl (by omega))]
      exact v1 a a0 (by omega)
  · rintro S1 ⟨-, m1, v1⟩
    apply w_Algebra_combine_2
    refine ⟨fun _ => ?_, fun hc => absurd (Int.le_refl 4) hc⟩
    by_cases hf : fr j = 0
    · have h1 : HW S1 G := h.keep m1 (by omega)
      apply w_Algebra_combine_51
      rw [h1.f5, m1.G (a := G + 6) (by omega), hFR]
      refine ⟨h1.k, ⟨h1.r5.1, hj.1, by rw [h1.r5.2]; omega⟩, fun _ => h1.k, fun _ => H S1 m1 (fun a a0 a1 => ?_), fun hc => absurd (Or.inl hf) hc⟩
      unfold cbB cbP
      rw [if_pos hf, if_pos hf]
      have := v1 a a0 a1
      rw [if_pos hf] at this
      exact this
    · refine loopU (P := fun i S' => At d 18 c18_51 [(0, (2, G)), (1, (0, j)), (2, (0, i))] [] S' Q) (I := fun i S' => 0 ≤ i ∧ Md (fun x => x = G + 9 ∨ x = G + 10) S S' ∧ ∀ a, 0 ≤ a → a < 4 → zG S' (G + 9) a = cbT p n so nb nil j i.toNat a ∧ zG S' (G + 10) a = if a < i ∧ nil a = 0 then so (4 * j + a) else 0) n ?_ ?_ 0 S1 (by omega) ⟨by omega, m1, fun a a0 a1 => ?_⟩
      · rintro i S2 hi ⟨i0, m2, v2⟩ hk
        have h2 : HW S2 G := h.keep m2 (by omega)
        have u2 : Hu S2 G n p := hu.keep m2 (by omega)
        apply w_Algebra_combine_51
        rw [h2.f5, h2.f4, u2.1, m2.G (a := G + 6) (by omega), m2.G (a := G + 5) (by omega), hFR, hSO, w32_id (x := 4 * j) (by omega) (by omega), w32_id (x := 4 * j + i) (by omega) (by omega)]
        refine ⟨h2.k, ⟨h2.r5.1, hj.1, by rw [h2.r5.2]; omega⟩, fun _ => h2.k, fun hc => by omega, fun _ => ⟨h2.k, ⟨h2.r4.1, by omega, by rw [h2.r4.2]; omega⟩, ?_⟩⟩
        intro x1 hx1
        rw [hx1]
        clear hx1 x1
        have sb := hso j i hj.1 hj.2 i0 hi
        -- what follows the inner loop
        have after : ∀ S3, Md (fun x => x = G + 9 ∨ x = G + 10) S S3 → (∀ a, 0 ≤ a → a < 4 → zG S3 (G + 9) a = cbT p n so nb nil j (i + 1).toNat a) → (∀ a, zG S3 (G + 10) a = zG S2 (G + 10) a) → At d 18 c18_139 [(0, (2, G)), (1, (0, j)), (2, (0, i)), (3, (0, so (4 * j + i)))] [] S3 Q := fun S3 m3 v3 w3 => by
          have h3 : HW S3 G := h.keep m3 (by omega)
          apply w_Algebra_combine_139
          rw [h3.f7, h3.f9, m3.G (a := G + 8) (by omega), hNI]
          refine ⟨h3.k, h3.k, ⟨h3.r7.1, i0, by rw [h3.r7.2]; omega⟩, ?_⟩
          intro x1 hx1
          rw [hx1]
          clear hx1 x1
          refine ⟨⟨h3.r9.1, i0, by rw [h3.r9.2]; omega⟩, ?_⟩
          rintro _ rfl _ rfl
          rw [w32_id (by omega) (by omega)]
          refine hk _ ⟨by omega, m3.tr ((Md.zS _ _ _ _).wide (fun x hx => Or.inr hx)), fun a a0 a1 => ⟨?_, ?_⟩⟩
          · rw [zG_zS_ne _ (Or.inl (by omega))]
            exact v3 a a0 a1
          · by_cases q : a = i
            · rw [q, zG_zS_at]
              by_cases q2 : nil i = 0
              · rw [if_pos q2, if_pos ⟨by omega, q2⟩]
              · rw [if_neg q2, if_neg (fun z => q2 z.2)]
            · rw [zG_zS_ne _ (Or.inr q), w3, (v2 a a0 a1).2]
              by_cases q2 : a < i ∧ nil a = 0
              · rw [if_pos q2, if_pos ⟨by omega, q2.2⟩]
              · rw [if_neg q2, if_neg (fun z => q2 ⟨by omega, z.2⟩)]
        have nx : ∀ a, cbT p n so nb nil j (i + 1).toNat a = if 0 ≤ a ∧ a < n ∧ nil i ≠ 0 then (cbT p n so nb nil j i.toNat a + so (4 * j + i) * nb (4 * i + a)) % p else cbT p n so nb nil j i.toNat a := fun a => by
          rw [show (i + 1).toNat = i.toNat + 1 by omega]
          show (if 0 ≤ a ∧ a < n ∧ nil ((i.toNat : Nat) : Int) ≠ 0 then (cbT p n so nb nil j i.toNat a + so (4 * j + ((i.toNat : Nat) : Int)) * nb (4 * ((i.toNat : Nat) : Int) + a)) % p else cbT p n so nb nil j i.toNat a) = _
          rw [show ((i.toNat : Nat) : Int) = i by omega]
        by_cases hz : nil i = 0
        · apply w_Algebra_combine_82
          rw [h2.f7, m2.G (a := G + 8) (by omega), hNI]
          refine ⟨h2.k, ⟨h2.r7.1, i0, by rw [h2.r7.2]; omega⟩, fun _ => h2.k, fun _ => after S2 m2 (fun a a0 a1 => ?_) (fun _ => rfl), fun hc => absurd (Or.inl hz) hc⟩
          rw [(v2 a a0 a1).1, nx, if_neg (fun z => z.2.2 hz)]
        · refine loopU (P := fun a S' => At d 18 c18_82 [(0, (2, G)), (1, (0, j)), (2, (0, i)), (3, (0, so (4 * j + i))), (4, (0, a))] [] S' Q) (I := fun a S' => 0 ≤ a ∧ Md (fun x => x = G + 9) S2 S' ∧ ∀ e, 0 ≤ e → e < 4 → zG S' (G + 9) e = if e < a then cbT p n so nb nil j (i + 1).toNat e else cbT p n so nb nil j i.toNat e) n ?_ ?_ 0 S2 (by omega) ⟨by omega, Md.refl _ _, fun e e0 e1 => by rw [if_neg (by omega)]; exact (v2 e e0 e1).1⟩
          · rintro a S3 ha ⟨a0, m3, v3⟩ hk2
            have mm : Md (fun x => x = G + 9 ∨ x = G + 10) S S3 := m2.tr (m3.wide (fun x hx => Or.inl hx))
            have h3 : HW S3 G := h.keep mm (by omega)
            have u3 : Hu S3 G n p := hu.keep mm (by omega)
            have va := v3 a a0 (by omega)
            rw [if_neg (by omega)] at va
            have b1 := cbT_bd (p := p) (n := n) (so := so) (nb := nb) (nil := nil) (j := j) hp.1 i.toNat a
            have b2 := hnb i a i0 hi a0 ha
            have b3 := mul_b (x := so (4 * j + i)) (y := nb (4 * i + a)) (by omega) (by omega)
            apply w_Algebra_combine_82
            rw [h3.f7, h3.f8, h3.f6, u3.1, u3.2, mm.G (a := G + 8) (by omega), mm.G (a := G + 7) (by omega), hNI, hNB, w32_id (x := 4 * i) (by omega) (by omega), w32_id (x := 4 * i + a) (by omega) (by omega), va, w32_id (x := so (4 * j + i) * nb (4 * i + a)) (by omega) (by omega), w32_id (x := cbT p n so nb nil j i.toNat a + so (4 * j + i) * nb (4 * i + a)) (by omega) (by omega), Int.tmod_eq_emod_of_nonneg (by omega)]
            refine ⟨h3.k, ⟨h3.r7.1, i0, by rw [h3.r7.2]; omega⟩, fun _ => h3.k, fun hc => by omega, fun _ => ⟨h3.k, h3.k, ⟨h3.r8.1, a0, by rw [h3.r8.2]; omega⟩, h3.k, ⟨h3.r6.1, by omega, by rw [h3.r6.2]; omega⟩, h3.k, by omega, ⟨h3.r8.1, a0, by rw [h3.r8.2]; omega⟩, ?_⟩⟩
            rintro _ rfl _ rfl
            rw [w32_id (by omega) (by omega)]
            refine hk2 _ ⟨by omega, m3.tr (Md.zS _ _ _ _), fun e e0 e1 => ?_⟩
            by_cases q : e = a
            · rw [q, zG_zS_at, if_pos (by omega), nx, if_pos ⟨a0, ha, hz⟩]
            · rw [zG_zS_ne _ (Or.inr q), v3 e e0 e1]
              by_cases q2 : e < a
              · rw [if_pos q2, if_pos (by omega)]
              · rw [if_neg q2, if_neg (by omega)]
          · rintro S3 ⟨-, m3, v3⟩
            have mm : Md (fun x => x = G + 9 ∨ x = G + 10) S S3 := m2.tr (m3.wide (fun x hx => Or.inl hx))
            have h3 : HW S3 G := h.keep mm (by omega)
            have u3 : Hu S3 G n p := hu.keep mm (by omega)
            apply w_Algebra_combine_82
            rw [h3.f7, u3.1]
            refine ⟨h3.k, ⟨h3.r7.1, i0, by rw [h3.r7.2]; omega⟩, fun _ => h3.k, fun _ => after S3 mm (fun a a0 a1 => ?_) (fun a => m3.G (by omega) a), fun hc => absurd (Or.inr (Int.le_refl n)) hc⟩
            rw [v3 a a0 a1]
            by_cases q : a < n
            · rw [if_pos q]
            · rw [if_neg q, nx, if_neg (fun z => q z.2.1)]
      · rintro S2 ⟨-, m2, v2⟩
        have h2 : HW S2 G := h.keep m2 (by omega)
        have u2 : Hu S2 G n p := hu.keep m2 (by omega)
        apply w_Algebra_combine_51
        rw [h2.f5, u2.1]
        refine ⟨h2.k, ⟨h2.r5.1, hj.1, by rw [h2.r5.2]; omega⟩, fun _ => h2.k, fun _ => H S2 m2 (fun a a0 a1 => ?_), fun hc => absurd (Or.inr (Int.le_refl n)) hc⟩
        unfold cbB cbP
        rw [if_neg hf, if_neg hf]
        exact v2 a a0 a1
      · have := v1 a a0 a1
        rw [if_neg hf] at this
        rw [if_neg (by omega)]
        exact this
