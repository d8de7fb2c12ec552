/-! Grower.multiply once more: where the product is low enough nothing is cut off. -/
set_option maxHeartbeats 2000000 in
theorem s_multiply60 {d : Nat} {B A L k n p u c : Int} {S : Hp} {C : Int → Int → Int} {Q : Vl → Hp → Prop} (h : GW S B A) (hu : Gu S B n p) (hA : MW S A) (hn : 2 ≤ n ∧ n ≤ 4) (hp : 2 ≤ p ∧ p ≤ 7) (hL : PW S L) (hR : PR S L) (hk : 0 ≤ k ∧ k < 19) (hc : 0 ≤ c ∧ c < 16) (hu1 : 0 ≤ u ∧ u ≤ 60) (hW60 : ∀ va vc, isDp (fun i m => figS S L k (c / 4) i m) (c / 4) va → isDp (fun i m => figS S L k (c % 4) i m) (c % 4) vc → ∀ i x, 0 ≤ i → i < n → 60 < x → spdF p n C (figS S L k) (c / 4) va (c % 4) vc u i x = 0) (dL : L + 5 < B ∨ B + 61 < L) (dA : A + 50 < B ∨ B + 61 < A) (dLA : L + 5 < A ∨ A + 50 < L) (hdp : ∀ l, 0 ≤ l → l < n → 0 ≤ zG S (L + 2) (k * 4 + l) ∧ zG S (L + 2) (k * 4 + l) ≤ 20) (hfg : ∀ l i m, 0 ≤ l → l < 4 → 0 ≤ i → i < 4 → figS S L k l i m < p) (hC : LAN S (B + 34) 4 (fun _ => 7) p C)
    (H : ∀ S' va vc, isDp (fun i m => figS S L k (c / 4) i m) (c / 4) va → isDp (fun i m => figS S L k (c % 4) i m) (c % 4) vc → Md (MP B A) S S' → GW S' B A → MW S' A → (okE p n (fun l => zG S (L + 2) (k * 4 + l)) (figS S L k) (spdF p n C (figS S L k) (c / 4) va (c % 4) vc u) → LAN S' (B + 16) 4 (fun _ => 128) p (shN p n (fun l => zG S (L + 2) (k * 4 + l)) (figS S L k) (spdF p n C (figS S L k) (c / 4) va (c % 4) vc u))) → Q (3, 0) S') : Ev (d + 3) 31 [(2, B), (2, L), (0, k), (0, c), (0, u)] S Q := by
  have hB3 : ∀ {M : Int → Prop} {S' : Hp}, Md M S S' → ¬ M B → ∀ i, zG S' B i = zG S B i := fun hm hM i => hm.G hM i
  have e1 : w32 (c.tdiv 4) = c / 4 := by
    rw [Int.tdiv_eq_ediv_of_nonneg hc.1, w32_id (by omega) (by omega)]
  have e2 : c.tmod 4 = c % 4 := by
    rw [Int.tmod_eq_emod_of_nonneg hc.1]
  apply w_Grower_multiply_0
  rw [e1, e2, h.2.2.2.2.2.2.2.2.1, h.2.2.2.2.1, hu.1, hu.2]
  refine ⟨h.1, h.1, h.1, h.1, hA.1, s_use hA (fun S1 m1 w1 u1 => ⟨rfl, by omega, by rw [m1.K]; exact h.1, by rw [m1.K]; exact hL.1, ?_⟩)⟩
  have g1 : GW S1 B A := h.keep m1 (fun x hx => by omega)
  rw [g1.2.2.2.2.2.1]
  have mP1 : Md (MP B A) S S1 := m1.wide (fun x hx => by unfold MP; omega)
  refine s_unfold (p := p) (ro := 21) (hL.keep m1 (by omega)) (hR.keep m1 (by omega)) hk ⟨by omega, by omega⟩ hp (fun i m i0 i1 => by rw [figS_keep m1 (by omega)]; exact hfg _ _ _ (by omega) (by omega) i0 i1) g1.2.2.2.2.2.2.2.2.2.2.2.2.1 (by omega) (by omega) (fun S2 va hva m2 z2 => ⟨_, rfl, ?_⟩)
  have g2 : GW S2 B A := g1.r43 m2 z2.w
  have mP2 : Md (MP B A) S S2 := mP1.tr (m2.wide (fun x hx => by unfold MA at hx; unfold MP; omega))
  have hva : isDp (fun i m => figS S L k (c / 4) i m) (c / 4) va := by
    have e : (fun i m => figS S1 L k (c / 4) i m) = (fun i m => figS S L k (c / 4) i m) := funext fun i => funext fun m => figS_keep m1 (by omega) _ _ _ _
    rw [← e]
    exact hva
  have z2 : LAN S2 (B + 43) 4 (fun _ => 21) p (unfF (figS S L k) (c / 4) va) := z2.congr fun i i0 i1 e => by
    unfold unfF
    rw [figS_keep m1 (by omega)]
  have a2 : MW S2 A := w1.keep m2 (fun x x1 x2 => by unfold MA; omega)
  have u2 : Mu S2 A (B + 34) n p := u1.keep m2 (by unfold MA; omega)
  have c2 : LAN S2 (B + 34) 4 (fun _ => 7) p C := hC.keep (m1.trans m2) (fun x x1 x2 => by unfold MA; omega) (by omega)
  obtain ⟨v0, v1, -, -⟩ := id hva
  rw [g2.2.2.2.2.2.2.2.2.1, g2.2.2.2.2.2.1]
  refine ⟨g2.1, g2.1, a2.1, ?_⟩
  refine s_tabulate (D := va) a2 u2 hn hp ⟨by omega, by omega⟩ c2 z2 (by omega) (by omega) (fun j j0 j1 i hi => unfF_top _ _ hi) (fun S3 m3 a3 t3 => ⟨rfl, by omega, by rw [m3.K]; exact g2.1, by rw [m3.K, m2.K, m1.K]; exact hL.1, ?_⟩)
  have g3 : GW S3 B A := g2.keep m3 (fun x hx => by unfold MM; omega)
  have mP3 : Md (MP B A) S S3 := mP2.tr (m3.wide (fun x hx => by unfold MM at hx; unfold MP; omega))
  have nP : ¬ MP B A (L + 1) := by unfold MP; omega
  rw [g3.2.2.2.2.2.1]
  refine s_unfold (p := p) (ro := 21) (hL.keep mP3 (by unfold MP; omega)) (hR.keep mP3 nP) hk ⟨by omega, by omega⟩ hp (fun i m i0 i1 => by rw [figS_keep mP3 nP]; exact hfg _ _ _ (by omega) (by omega) i0 i1) g3.2.2.2.2.2.2.2.2.2.2.2.2.1 (by omega) (by omega) (fun S4 vc hvc m4 z4 => ⟨_, rfl, ?_⟩)
  have g4 : GW S4 B A := g3.r43 m4 z4.w
  have mP4 : Md (MP B A) S S4 := mP3.tr (m4.wide (fun x hx => by unfold MA at hx; unfold MP; omega))
  have hvc : isDp (fun i m => figS S L k (c % 4) i m) (c % 4) vc := by
    have e : (fun i m => figS S3 L k (c % 4) i m) = (fun i m => figS S L k (c % 4) i m) := funext fun i => funext fun m => figS_keep mP3 nP _ _ _ _
    rw [← e]
    exact hvc
  have z4 : LAN S4 (B + 43) 4 (fun _ => 21) p (unfF (figS S L k) (c % 4) vc) := z4.congr fun i i0 i1 e => by
    unfold unfF
    rw [figS_keep mP3 nP]
  have a4 : MW S4 A := a3.keep m4 (fun x x1 x2 => by unfold MA; omega)
  have u4 : Mu S4 A (B + 34) n p := (u2.keep m3 (by unfold MM; omega)).keep m4 (by unfold MA; omega)
  obtain ⟨w0, w9, -, -⟩ := id hvc
  intro x7 hx7
  rw [w32_id (by omega) (by omega)] at hx7
  subst hx7
  rw [g4.2.2.2.2.2.2.2.2.1, g4.2.2.2.2.2.1, g4.2.2.2.2.2.2.1]
  refine ⟨g4.1, g4.1, g4.1, a4.1, ?_⟩
  have hCt : ∀ j, 0 ≤ j → j < n → ∀ i, 6 < i → C j i = 0 := fun j j0 j1 i hi => (hC.at j0 (by omega)).hi i (by omega)
  have hTt : ∀ l j, 0 ≤ l → l < n → 0 ≤ j → j < n → ∀ i, 38 < i → tbl p n C (unfF (figS S L k) (c / 4) va) l.toNat j i = 0 := fun l j l0 l1 j0 j1 i hi => tbl_top (D := va) hCt (fun j j0 j1 i hi => unfF_top _ _ hi) l.toNat j j0 j1 i (by omega)
  have hPt : ∀ l x, 58 < x → prdF p n C (figS S L k) (c / 4) va (c % 4) vc l x = 0 := fun l x hx => mulF_top (u := 20) (w := 38) (fun j j0 j1 i hi => unfF_top _ _ (by omega)) hTt l x (by omega)
  refine s_millMul (DW := 20) (DT := 38) (T := fun i j => tbl p n C (unfF (figS S L k) (c / 4) va) i.toNat j) a4 u4 hn hp z4 g4.2.2.2.2.2.2.2.2.2.2.2.2.2.1 (fun i j i0 i1 j0 j1 => (t3 i j i0 i1 j0 j1).keep m4 (by unfold MA; omega) (by unfold MA; omega)) (by omega) (by omega) (by omega) (fun j j0 j1 i hi => unfF_top _ _ (by omega)) hTt (by omega) (fun S5 m5 z5 => ⟨rfl, by rw [m5.K]; exact g4.1, by rw [m5.K]; exact g4.1, ?_⟩)
  have g5 : GW S5 B A := g4.r52 m5 z5.w
  have mP5 : Md (MP B A) S S5 := mP4.tr (m5.wide (fun x hx => by unfold MA at hx; unfold MP; omega))
  have nB : ¬ MP B A B := by unfold MP; omega
  rw [g5.2.2.2.2.2.2.1]
  have uu : ∀ {S' : Hp}, Md (MP B A) S S' → Gu S' B n p := fun hm => hu.keep hm nB
  have z5 : LAN S5 (B + 52) 4 (fun _ => 80) p (prdF p n C (figS S L k) (c / 4) va (c % 4) vc) := z5
  refine s_spreadOut (D := 58) g5 (uu mP5) hn hp ⟨by omega, by omega⟩ ⟨by omega, by omega⟩ z5 (fun j j0 j1 x hx => hPt j x hx) (by omega) (by omega) (fun S6 m6 g6 z6 => ⟨rfl, g6.1, ?_⟩)
  have mP6 : Md (MP B A) S S6 := mP5.tr (m6.wide (fun x hx => by unfold MA at hx; unfold MP; omega))
  have e3 : (fun l => zG S6 (L + 2) (k * 4 + l)) = (fun l => zG S (L + 2) (k * 4 + l)) := funext fun l => mP6.G (by unfold MP; omega) _
  have e4 : figS S6 L k = figS S L k := funext fun l => funext fun i => funext fun m => figS_keep mP6 nP _ _ _ _
  have a6 : MW S6 A := (a4.keep m5 (fun x x1 x2 => by unfold MA; omega)).keep m6 (fun x x1 x2 => by unfold MA; omega)
  refine s_express (W := 60) g6 (uu mP6) hn hp (hL.keep mP6 (by unfold MP; omega)) (hR.keep mP6 nP) hk dL (fun l l0 l1 => by rw [mP6.G (by unfold MP; omega)]; exact hdp l l0 l1) (fun l i m l0 l1 i0 i1 => by rw [e4]; exact hfg l i m l0 (by omega) i0 (by omega)) z6 (fun i i0 i1 x hx => hW60 va vc hva hvc i x i0 i1 hx) (by omega) (fun hok S7 m7 g7 z7 => ⟨_, rfl, ?_⟩) (fun hok S7 m7 g7 => ⟨_, rfl, ?_⟩)
  · rw [e3, e4] at z7
    exact H S7 va vc hva hvc (mP6.tr (m7.wide (fun x hx => by unfold MA at hx; unfold MP; omega))) g7 (a6.keep m7 (fun x x1 x2 => by unfold MA; omega)) (fun _ => z7)
  · rw [e3, e4] at hok
    exact H S7 va vc hva hvc (mP6.tr (m7.wide (fun x hx => by unfold MA at hx; unfold MP; omega))) g7 (a6.keep m7 (fun x x1 x2 => by unfold MA; omega)) (fun z => absurd z hok)
