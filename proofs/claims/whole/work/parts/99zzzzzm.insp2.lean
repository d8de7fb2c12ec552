/-! Grower.inspect once more: it leaves the row of differences as it is. -/
abbrev MIn2 (B A L : Int) : Int → Prop := fun x => MP B A x ∨ (B + 2 ≤ x ∧ x ≤ B + 15 ∧ x ≠ B + 13) ∨ x = L + 3 ∨ x = L + 4
set_option maxHeartbeats 4000000 in
theorem s_inspect2 {d : Nat} {B A L k n p : Int} {S : Hp} {C : Int → Int → Int} {Q : Vl → Hp → Prop} (h : GW S B A) (hu : Gu S B n p) (hA : MW S A) (hG : HW S (B + 1)) (hGu : Hu S (B + 1) n p) (hn : 2 ≤ n ∧ n ≤ 4) (hp : isPr p) (hL : PW S L) (hR : PR S L) (hk : 0 ≤ k ∧ k < 19) (dL : L + 5 < B ∨ B + 61 < L) (dA : A + 50 < B ∨ B + 61 < A) (dLA : L + 5 < A ∨ A + 50 < L) (hdp : ∀ l, 0 ≤ l → l < n → 0 ≤ zG S (L + 2) (k * 4 + l) ∧ zG S (L + 2) (k * 4 + l) ≤ 20) (hfg : ∀ l i m, 0 ≤ l → l < 4 → 0 ≤ i → i < 4 → figS S L k l i m < p) (hC : LAN S (B + 34) 4 (fun _ => 7) p C)
    (hlo : ∀ x, 0 ≤ x → x < 64 → 0 ≤ zG S (B + 2) x ∧ zG S (B + 2) x < 10) (hhi : ∀ x, 0 ≤ x → x < 64 → 0 ≤ zG S (B + 3) x ∧ zG S (B + 3) x < 10) (hPw : ∀ x, 0 ≤ x → x < 16 → 0 ≤ zG S (B + 4) x ∧ zG S (B + 4) x < 10) (hE : ∀ x, 0 ≤ x → x < 64 → 0 ≤ zG S (B + 5) x ∧ zG S (B + 5) x < 20) (hF : ∀ j, 0 ≤ j → j < 4 → in01 (zG S (B + 7) j)) (hSq : ∀ x, 0 ≤ x → x < 16 → 0 ≤ zG S (B + 12) x ∧ zG S (B + 12) x < 10)
    (hok : ∀ a c va vc, 1 ≤ a → a ≤ c → c < n → isDp (figS S L k a) a va → isDp (figS S L k c) c vc → okE p n (fun l => zG S (L + 2) (k * 4 + l)) (figS S L k) (spdF p n C (figS S L k) a va c vc 1))
    (H : ∀ S' kn kp fr so, Md (MIn2 B A L) S S' → GW S' B A → MW S' A → T0 n (zG S' (B + 2)) (zG S' (B + 3)) → T1 p n C (fun l => zG S (L + 2) (k * 4 + l)) (figS S L k) (zG S' (B + 2)) (zG S' (B + 3)) n n 0 → (∀ l j, 0 ≤ l → l < n → 0 ≤ j → j < n → zG S' (B + 4) (4 * l + j) = pwC p n (zG S' (B + 2)) j (p - 1).toNat l) → solved p n n (nilE p n (zG S' (B + 4))) (zG S' (B + 9)) (zG S' (B + 8)) kn → solved p n n (ptE p (zG S' (B + 4))) fr so kp → (∀ x, zG S' (L + 3) x = if x = k then kn else zG S (L + 3) x) → (∀ x, zG S' (L + 4) x = if x = k then kp else zG S (L + 4) x) → (∀ x, 0 ≤ x → x < 64 → 0 ≤ zG S' (B + 2) x ∧ zG S' (B + 2) x < 10) → (∀ x, 0 ≤ x → x < 64 → 0 ≤ zG S' (B + 3) x ∧ zG S' (B + 3) x < 10) → (∀ x, 0 ≤ x → x < 16 → 0 ≤ zG S' (B + 4) x ∧ zG S' (B + 4) x < 10) → (∀ x, 0 ≤ x → x < 64 → 0 ≤ zG S' (B + 5) x ∧ zG S' (B + 5) x < 20) → (∀ j, 0 ≤ j → j < 4 → in01 (zG S' (B + 7) j)) → (∀ j, 0 ≤ j → j < 4 → in01 (zG S' (B + 9) j)) → (∀ x, 0 ≤ x → x < 16 → 0 ≤ zG S' (B + 12) x ∧ zG S' (B + 12) x < 10) → Q (3, 0) S') : Ev (d + 4) 30 [(2, B), (2, L), (0, k)] S Q := by
  have hp7 : 2 ≤ p ∧ p ≤ 7 := by unfold isPr at hp; omega
  have k2 : B + 1 + 1 = B + 2 := by omega
  have k3 : B + 1 + 2 = B + 3 := by omega
  have k4 : B + 1 + 3 = B + 4 := by omega
  have k5 : B + 1 + 4 = B + 5 := by omega
  have k6 : B + 1 + 5 = B + 6 := by omega
  have k7 : B + 1 + 6 = B + 7 := by omega
  have k8 : B + 1 + 7 = B + 8 := by omega
  have k9 : B + 1 + 8 = B + 9 := by omega
  have k12 : B + 1 + 11 = B + 12 := by omega
  -- what the products write
  have nM : ∀ x, ((x ≤ B + 1 ∨ (B + 4 ≤ x ∧ x ≤ B + 15) ∨ (B + 33 < x ∧ x ≤ B + 43) ∨ B + 60 < x) ∧ (x < A ∨ A + 50 < x)) → ¬ (MP B A x ∨ x = B + 2 ∨ x = B + 3) := fun x hx => by unfold MP; omega
  generalize hDPe : (fun l => zG S (L + 2) (k * 4 + l)) = dp at *
  have dpe : ∀ l, zG S (L + 2) (k * 4 + l) = dp l := fun l => by rw [← hDPe]
  generalize hFGe : figS S L k = fig at *
  have hHW : ∀ {S' : Hp}, Md (fun x => MP B A x ∨ x = B + 2 ∨ x = B + 3) S S' → HW S' (B + 1) ∧ Hu S' (B + 1) n p ∧ Gu S' B n p ∧ PW S' L ∧ PR S' L ∧ (fun l => zG S' (L + 2) (k * 4 + l)) = dp ∧ figS S' L k = fig ∧ LAN S' (B + 34) 4 (fun _ => 7) p C := fun hm => ⟨hG.keep hm (nM _ (by omega)), hGu.keep hm (nM _ (by omega)), hu.keep hm (nM _ (by omega)), hL.keep hm (nM _ (by omega)), hR.keep hm (nM _ (by omega)), by rw [← hDPe]; exact funext fun l => hm.G (nM _ (by omega)) _, by rw [← hFGe]; exact funext fun a => funext fun b => funext fun m => figS_keep hm (nM _ (by omega)) k a b m, hC.keep hm (fun x x1 x2 => nM _ (by omega)) (by omega)⟩
  apply w_Grower_inspect_0
  rw [h.2.1]
  refine ⟨h.1, hG.k, s_setOne hG hGu hn (fun S1 m1 l1 g1 => ⟨rfl, ?_⟩)⟩
  rw [k2] at l1 m1
  rw [k3] at g1 m1
  have gw1 : GW S1 B A := h.keep m1 (fun x hx => by omega)
  have aw1 : MW S1 A := hA.keep m1 (fun x x1 x2 => by omega)
  have m1 : Md (fun x => MP B A x ∨ x = B + 2 ∨ x = B + 3) S S1 := m1.wide (fun x hx => Or.inr hx)
  refine loopU (P := fun i S' => At (d + 4) 30 c30_9 [(0, (2, B)), (1, (2, L)), (2, (0, k)), (3, (0, i))] [] S' Q) (I := fun i S' => 1 ≤ i ∧ Md (fun x => MP B A x ∨ x = B + 2 ∨ x = B + 3) S S' ∧ GW S' B A ∧ MW S' A ∧ T0 n (zG S' (B + 2)) (zG S' (B + 3)) ∧ T1 p n C dp fig (zG S' (B + 2)) (zG S' (B + 3)) i i 0 ∧ (∀ x, 0 ≤ x → x < 64 → 0 ≤ zG S' (B + 2) x ∧ zG S' (B + 2) x < 10) ∧ (∀ x, 0 ≤ x → x < 64 → 0 ≤ zG S' (B + 3) x ∧ zG S' (B + 3) x < 10)) n ?_ ?_ 1 S1 (by omega) ⟨by omega, m1, gw1, aw1, oneP_T0 hn l1 g1, fun a c l va vc a0 ac => by omega, fun x x0 x1 => by rw [l1]; exact oneP_bd (by omega) (hlo x x0 x1), fun x x0 x1 => by rw [g1]; exact oneP_bd (by omega) (hhi x x0 x1)⟩
  · rintro i S2 hi ⟨i0, m2, gw2, aw2, t02, t12, bl2, bh2⟩ hk1
    apply w_Grower_inspect_9
    rw [(hHW m2).2.2.1.1]
    refine ⟨gw2.1, fun hc => by omega, fun _ => ?_⟩
    refine loopU (P := fun j S' => At (d + 4) 30 c30_20 [(0, (2, B)), (1, (2, L)), (2, (0, k)), (3, (0, i)), (4, (0, j))] [] S' Q) (I := fun j S' => i ≤ j ∧ Md (fun x => MP B A x ∨ x = B + 2 ∨ x = B + 3) S S' ∧ GW S' B A ∧ MW S' A ∧ T0 n (zG S' (B + 2)) (zG S' (B + 3)) ∧ T1 p n C dp fig (zG S' (B + 2)) (zG S' (B + 3)) i j 0 ∧ (∀ x, 0 ≤ x → x < 64 → 0 ≤ zG S' (B + 2) x ∧ zG S' (B + 2) x < 10) ∧ (∀ x, 0 ≤ x → x < 64 → 0 ≤ zG S' (B + 3) x ∧ zG S' (B + 3) x < 10)) n ?_ ?_ i S2 (by omega) ⟨by omega, m2, gw2, aw2, t02, t12, bl2, bh2⟩
    · rintro j S3 hj ⟨j0, m3, gw3, aw3, t03, t13, bl3, bh3⟩ hk2
      have c4 : (4 * i + j) / 4 = i := by omega
      have cm : (4 * i + j) % 4 = j := by omega
      obtain ⟨hw3, hu3, gu3, pw3, pr3, dp3, fg3, cc3⟩ := hHW m3
      apply w_Grower_inspect_20
      rw [gu3.1, w32_id (x := 4 * i) (by omega) (by omega), w32_id (x := 4 * i + j) (by omega) (by omega)]
      refine ⟨gw3.1, fun hc => by omega, fun _ => ⟨gw3.1, ?_⟩⟩
      refine s_multiply (u := 1) (c := 4 * i + j) gw3 gu3 aw3 hn hp7 pw3 pr3 hk (by omega) (by omega) dL dA dLA (fun l l0 l1 => by rw [m3.G (nM _ (by omega))]; exact hdp l l0 l1) (fun l i m l0 l1 i0 i1 => by rw [fg3]; exact hfg l i m l0 l1 i0 i1) cc3 (fun S4 va vc hva hvc m4 gw4 aw4 sh4 => ⟨rfl, ?_⟩)
      rw [c4, cm, dp3, fg3] at sh4
      rw [c4, fg3] at hva
      rw [cm, fg3] at hvc
      have sh4 : LAN S4 (B + 16) 4 (fun _ => 128) p (pdF p n C dp fig i va j vc) := sh4 (hok i j va vc i0 j0 hj hva hvc)
      have m34 : Md (fun x => MP B A x ∨ x = B + 2 ∨ x = B + 3) S S4 := m3.tr (m4.wide (fun x hx => Or.inl hx))
      have lo4 : ∀ x, zG S4 (B + 2) x = zG S3 (B + 2) x := fun x => m4.G (by unfold MP; omega) x
      have hg4 : ∀ x, zG S4 (B + 3) x = zG S3 (B + 3) x := fun x => m4.G (by unfold MP; omega) x
      have lo4' : zG S4 (B + 2) = zG S3 (B + 2) := funext lo4
      have hg4' : zG S4 (B + 3) = zG S3 (B + 3) := funext hg4
      refine loopU (P := fun l S' => At (d + 4) 30 c30_45 [(0, (2, B)), (1, (2, L)), (2, (0, k)), (3, (0, i)), (4, (0, j)), (5, (0, l))] [] S' Q) (I := fun l S' => 0 ≤ l ∧ Md (fun x => x = B + 2 ∨ x = B + 3) S4 S' ∧ T0 n (zG S' (B + 2)) (zG S' (B + 3)) ∧ T1 p n C dp fig (zG S' (B + 2)) (zG S' (B + 3)) i j l ∧ (∀ x, 0 ≤ x → x < 64 → 0 ≤ zG S' (B + 2) x ∧ zG S' (B + 2) x < 10) ∧ (∀ x, 0 ≤ x → x < 64 → 0 ≤ zG S' (B + 3) x ∧ zG S' (B + 3) x < 10)) n ?_ ?_ 0 S4 (by omega) ⟨by omega, Md.refl _ _, by rw [lo4', hg4']; exact t03, by rw [lo4', hg4']; exact t13, by rw [lo4']; exact bl3, by rw [hg4']; exact bh3⟩
      · rintro l S5 hl ⟨l0, m5, t05, t15, bl5, bh5⟩ hk3
        have mm5 : Md (fun x => MP B A x ∨ x = B + 2 ∨ x = B + 3) S S5 := m34.tr (m5.wide (fun x hx => Or.inr hx))
        obtain ⟨hw5, hu5, gu5, pw5, pr5, dp5, fg5, cc5⟩ := hHW mm5
        have gw5 : GW S5 B A := gw4.keep m5 (fun x hx => by omega)
        have sh5 : LAN S5 (B + 16) 4 (fun _ => 128) p (pdF p n C dp fig i va j vc) := sh4.keep m5 (fun x x1 x2 => by omega) (by omega)
        have b0 := (sh5.at l0 (show l < 4 by omega)).bd 0
        have b1 := (sh5.at l0 (show l < 4 by omega)).bd 1
        apply w_Grower_inspect_45
        rw [gu5.1, gw5.2.2.1, gw5.2.1, sh5.ptr l0 (by omega)]
        refine ⟨gw5.1, fun hc => by omega, fun _ => ⟨gw5.1, gw5.1, ⟨sh5.1, l0, by rw [sh5.2.1]; omega⟩, (sh5.at l0 (by omega)).ln.1, n_number (sh5.at l0 (by omega)) ⟨_, rfl, gw5.1, ?_⟩⟩⟩
        rw [gw5.2.2.1, sh5.ptr l0 (by omega)]
        refine ⟨⟨sh5.1, l0, by rw [sh5.2.1]; omega⟩, (sh5.at l0 (by omega)).ln.1, n_number (sh5.at l0 (by omega)) ⟨_, rfl, hw5.k, ?_⟩⟩
        refine s_setProduct hw5 ⟨by omega, by omega⟩ ⟨by omega, by omega⟩ ⟨l0, by omega⟩ (fun S6 m6 a6 c6 => ⟨rfl, ?_⟩)
        rw [k2] at a6 m6
        rw [k3] at c6 m6
        rintro _ rfl
        rw [w32_id (by omega) (by omega)]
        refine hk3 _ ⟨by omega, m5.tr m6, fun c e c0 c1 e0 e1 => ?_, fun a c e wa wc a0 ac c1 e0 e1 hq ha hc => ?_, fun x x0 x1 => ?_, fun x x0 x1 => ?_⟩
        · have n1 : ¬ ((4 * 0 + c) * 4 + e = (4 * i + j) * 4 + l ∨ (4 * 0 + c) * 4 + e = (4 * j + i) * 4 + l) := by omega
          have n2 : ¬ ((4 * c + 0) * 4 + e = (4 * i + j) * 4 + l ∨ (4 * c + 0) * 4 + e = (4 * j + i) * 4 + l) := by omega
          rw [a6, a6, c6, c6, if_neg n1, if_neg n2, if_neg n1, if_neg n2]
          exact t05 c e c0 c1 e0 e1
        · by_cases q : a = i ∧ c = j ∧ e = l
          · obtain ⟨rfl, rfl, rfl⟩ := q
            rw [isDp_one ha hva, isDp_one hc hvc, a6, a6, c6, c6, if_pos (Or.inl rfl), if_pos (Or.inr rfl), if_pos (Or.inl rfl), if_pos (Or.inr rfl)]
            exact ⟨rfl, rfl, rfl, rfl⟩
          · rw [a6, a6, c6, c6, if_neg (by omega), if_neg (by omega), if_neg (by omega), if_neg (by omega)]
            exact t15 a c e wa wc a0 ac c1 e0 e1 (by omega) ha hc
        · rw [a6]
          split
          · omega
          · exact bl5 x x0 x1
        · rw [c6]
          split
          · omega
          · exact bh5 x x0 x1
      · rintro S5 ⟨-, m5, t05, t15, bl5, bh5⟩
        have mm5 : Md (fun x => MP B A x ∨ x = B + 2 ∨ x = B + 3) S S5 := m34.tr (m5.wide (fun x hx => Or.inr hx))
        have gw5 : GW S5 B A := gw4.keep m5 (fun x hx => by omega)
        apply w_Grower_inspect_45
        rw [(hHW mm5).2.2.1.1]
        refine ⟨gw5.1, fun _ => ?_, fun hc => absurd (Int.le_refl n) hc⟩
        rintro _ rfl
        rw [w32_id (by omega) (by omega)]
        exact hk2 _ ⟨by omega, mm5, gw5, aw4.keep m5 (fun x x1 x2 => by omega), t05, fun a c e wa wc a0 ac c1 e0 e1 hq ha hc => t15 a c e wa wc a0 ac c1 e0 e1 (by omega) ha hc, bl5, bh5⟩
    · rintro S3 ⟨-, m3, gw3, aw3, t03, t13, bl3, bh3⟩
      apply w_Grower_inspect_20
      rw [(hHW m3).2.2.1.1]
      refine ⟨gw3.1, fun _ => ?_, fun hc => absurd (Int.le_refl n) hc⟩
      rintro _ rfl
      rw [w32_id (by omega) (by omega)]
      exact hk1 _ ⟨by omega, m3, gw3, aw3, t03, fun a c e wa wc a0 ac c1 e0 e1 hq ha hc => t13 a c e wa wc a0 ac c1 e0 e1 (by omega) ha hc, bl3, bh3⟩
  · rintro S2 ⟨-, m2, gw2, aw2, t02, t12, bl2, bh2⟩
    obtain ⟨hw2, hu2, gu2, pw2, pr2, dp2, fg2, cc2⟩ := hHW m2
    apply w_Grower_inspect_9
    rw [gu2.1, gw2.2.1]
    refine ⟨gw2.1, fun _ => ⟨gw2.1, hw2.k, ?_⟩, fun hc => absurd (Int.le_refl n) hc⟩
    refine s_findPowers hw2 hu2 hn hp7 (by rw [k2]; exact bl2) (fun S3 m3 v3 o3 => ⟨rfl, ?_⟩)
    rw [k4, k2] at v3
    rw [k4] at o3
    have m3 : Md (fun x => B + 4 ≤ x ∧ x ≤ B + 15 ∧ x ≠ B + 13 ∧ x ≠ B + 5 ∧ x ≠ B + 7 ∧ x ≠ B + 12) S2 S3 := m3.wide (fun x hx => by omega)
    have gw3 : GW S3 B A := gw2.keep m3 (fun x hx => by omega)
    have hw3 : HW S3 (B + 1) := hw2.keep m3 (by omega)
    have hu3 : Hu S3 (B + 1) n p := hu2.keep m3 (by omega)
    have pw3 : PW S3 L := pw2.keep m3 (by omega)
    have pb3 : ∀ x, 0 ≤ x → x < 16 → 0 ≤ zG S3 (B + 4) x ∧ zG S3 (B + 4) x < 10 := fun x x0 x1 => by
      by_cases q : sqI n x
      · have e := v3 (x / 4) (x % 4) (by omega) q.2.1 (by omega) q.2.2
        rw [show 4 * (x / 4) + x % 4 = x by omega] at e
        rw [e]
        have := pwC_bd (n := n) (j := x % 4) (low := zG S2 (B + 2)) hp7.1 (p - 1).toNat (x / 4)
        omega
      · rw [o3 x q, m2.G (nM _ (by omega))]
        exact hPw x x0 x1
    rw [gw3.2.1, pw3.2.2.2.1]
    refine ⟨pw3.1, gw3.1, hw3.k, s_findNil hw3 hu3 hn hp (fun x x0 x1 => by rw [k5, m3.G (by omega), m2.G (nM _ (by omega))]; exact hE x x0 x1) (fun j j0 j1 => by rw [k7, m3.G (by omega), m2.G (nM _ (by omega))]; exact hF j j0 j1) (fun x x0 x1 => by rw [k4]; exact pb3 x x0 x1) (fun x x0 x1 => by rw [k12, m3.G (by omega), m2.G (nM _ (by omega))]; exact hSq x x0 x1) (fun S4 kn m4 s4 f4 n4 b4 q4 => ⟨_, rfl, ?_⟩)⟩
    rw [k4, k9, k8] at s4
    rw [k7] at f4
    rw [k9] at n4
    rw [k5] at b4
    rw [k12] at q4
    have m4 : Md (fun x => B + 5 ≤ x ∧ x ≤ B + 15 ∧ x ≠ B + 13) S3 S4 := m4.wide (fun x hx => by omega)
    have r3 := (pw3.keep m4 (by omega)).2.2.2.2.2.2.2.2.1
    refine ⟨⟨r3.1, hk.1, by rw [r3.2]; omega⟩, ?_⟩
    rintro _ rfl
    have m5 : Md (fun x => x = L + 3) S4 (zS S4 (L + 3) k kn) := Md.zS _ _ _ _
    have v5 : ∀ x, zG (zS S4 (L + 3) k kn) (L + 3) x = if x = k then kn else zG S4 (L + 3) x := fun x => by
      rw [zG_zS]
      by_cases q : x = k
      · rw [if_pos ⟨rfl, q⟩, if_pos q]
      · rw [if_neg (fun z => q z.2), if_neg q]
    generalize zS S4 (L + 3) k kn = S5 at *
    have gw5 : GW S5 B A := (gw3.keep m4 (fun x hx => by omega)).keep m5 (fun x hx => by omega)
    have hw5 : HW S5 (B + 1) := (hw3.keep m4 (by omega)).keep m5 (by omega)
    have hu5 : Hu S5 (B + 1) n p := (hu3.keep m4 (by omega)).keep m5 (by omega)
    have pw5 : PW S5 L := (pw3.keep m4 (by omega)).keep m5 (by omega)
    have e45 : zG S5 (B + 4) = zG S3 (B + 4) := funext fun x => by rw [m5.G (by omega), m4.G (by omega)]
    rw [gw5.2.1, pw5.2.2.2.2.1]
    refine ⟨pw5.1, gw5.1, hw5.k, s_countPoints hw5 hu5 hn hp (fun x x0 x1 => by rw [k5, m5.G (by omega)]; exact b4 x x0 x1) (fun j j0 j1 => by rw [k7, m5.G (by omega)]; exact f4 j j0 j1) (fun x x0 x1 => by rw [k4, e45]; exact pb3 x x0 x1) (fun S6 kp m6 s6 f6 b6 => ⟨_, rfl, ?_⟩)⟩
    rw [k4, e45] at s6
    rw [k7] at f6
    rw [k5] at b6
    have m6 : Md (fun x => x = B + 5 ∨ x = B + 6 ∨ x = B + 7 ∨ x = B + 14) S5 S6 := m6.wide (fun x hx => by omega)
    have r4 := (pw5.keep m6 (by omega)).2.2.2.2.2.2.2.2.2.1
    refine ⟨⟨r4.1, hk.1, by rw [r4.2]; omega⟩, ?_⟩
    rintro _ rfl
    have m7 : Md (fun x => x = L + 4) S6 (zS S6 (L + 4) k kp) := Md.zS _ _ _ _
    have v7 : ∀ x, zG (zS S6 (L + 4) k kp) (L + 4) x = if x = k then kp else zG S6 (L + 4) x := fun x => by
      rw [zG_zS]
      by_cases q : x = k
      · rw [if_pos ⟨rfl, q⟩, if_pos q]
      · rw [if_neg (fun z => q z.2), if_neg q]
    generalize zS S6 (L + 4) k kp = S7 at *
    have e2 : zG S7 (B + 2) = zG S2 (B + 2) := funext fun x => by rw [m7.G (by omega), m6.G (by omega), m5.G (by omega), m4.G (by omega), m3.G (by omega)]
    have e3 : zG S7 (B + 3) = zG S2 (B + 3) := funext fun x => by rw [m7.G (by omega), m6.G (by omega), m5.G (by omega), m4.G (by omega), m3.G (by omega)]
    have e4 : zG S7 (B + 4) = zG S3 (B + 4) := funext fun x => by rw [m7.G (by omega), m6.G (by omega), e45]
    have e8 : zG S7 (B + 8) = zG S4 (B + 8) := funext fun x => by rw [m7.G (by omega), m6.G (by omega), m5.G (by omega)]
    have e9 : zG S7 (B + 9) = zG S4 (B + 9) := funext fun x => by rw [m7.G (by omega), m6.G (by omega), m5.G (by omega)]
    refine H S7 kn kp _ _ ?_ ?_ ?_ (by rw [e2, e3]; exact t02) (by rw [e2, e3]; exact fun a c e wa wc a0 ac c1 e0 e1 hq ha hc => t12 a c e wa wc a0 ac c1 e0 e1 (by omega) ha hc) (by rw [e2, e4]; exact v3) (by rw [e4, e8, e9]; exact s4) (by rw [e4]; exact s6) (fun x => ?_) (fun x => ?_) (by rw [e2]; exact bl2) (by rw [e3]; exact bh2) (by rw [e4]; exact pb3) (fun x x0 x1 => ?_) (fun j j0 j1 => ?_) (by rw [e9]; exact n4) (fun x x0 x1 => ?_)
    · exact (((((m2.wide (fun x hx => hx.elim Or.inl (fun z => Or.inr (Or.inl (by omega))))).tr (m3.wide (fun x hx => by omega))).tr (m4.wide (fun x hx => by omega))).tr (m5.wide (fun x hx => by omega))).tr (m6.wide (fun x hx => by omega))).tr (m7.wide (fun x hx => by omega))
    · exact (gw5.keep m6 (fun x hx => by omega)).keep m7 (fun x hx => by omega)
    · exact ((((aw2.keep m3 (fun x x1 x2 => by omega)).keep m4 (fun x x1 x2 => by omega)).keep m5 (fun x x1 x2 => by omega)).keep m6 (fun x x1 x2 => by omega)).keep m7 (fun x x1 x2 => by omega)
    · rw [m7.G (by omega), m6.G (by omega), v5, m4.G (by omega), m3.G (by omega), m2.G (nM _ (by omega))]
    · rw [v7, m6.G (by omega), m5.G (by omega), m4.G (by omega), m3.G (by omega), m2.G (nM _ (by omega))]
    · rw [m7.G (by omega)]
      exact b6 x x0 x1
    · rw [m7.G (by omega)]
      exact f6 j j0 j1
    · rw [m7.G (by omega), m6.G (by omega), m5.G (by omega)]
      exact q4 x x0 x1
