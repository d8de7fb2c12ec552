/-! Grower: one new b_j, the whole of it. -/
/-- the old ones added -/
def agN (p : Int) (bt pl : Int → Int) (fig : Int → Int → Int → Int) : Nat → Int → Int
  | 0 => fun _ => 0
  | s + 1 => adO p (bt s) (pl s) (fig s) (agN p bt pl fig s) s (s + 1) 1
/-- the new ones below j taken off, from above -/
def tdN (p j : Int) (dp : Int → Int) (fig : Int → Int → Int → Int) (g : Int → Int) : Nat → Int → Int
  | 0 => g
  | s + 1 => tkN p (dp (j - 1 - s)) (fig (j - 1 - s)) (j - 1 - s) (tdN p j dp fig g s) (dp (j - 1 - s)).toNat
theorem adO_bd {p bt pl i l m : Int} {fig : Int → Int → Int} {g : Int → Int} (hp : 2 ≤ p) (x : Int) (hg : 0 ≤ g x ∧ g x < p) : 0 ≤ adO p bt pl fig g i l m x ∧ adO p bt pl fig g i l m x < p := by
  unfold adO
  split
  · exact ⟨Int.emod_nonneg _ (by omega), Int.emod_lt_of_pos _ (by omega)⟩
  · exact hg
theorem agN_bd {p : Int} {bt pl : Int → Int} {fig : Int → Int → Int → Int} (hp : 2 ≤ p) (x : Int) : ∀ s, 0 ≤ agN p bt pl fig s x ∧ agN p bt pl fig s x < p
  | 0 => by show 0 ≤ (0 : Int) ∧ (0 : Int) < p; omega
  | s + 1 => adO_bd hp x (agN_bd hp x s)
theorem tdN_bd {p j : Int} {dp : Int → Int} {fig : Int → Int → Int → Int} {g : Int → Int} (hp : 2 ≤ p) (x : Int) (hg : 0 ≤ g x ∧ g x < p) : ∀ s, 0 ≤ tdN p j dp fig g s x ∧ tdN p j dp fig g s x < p
  | 0 => hg
  | s + 1 => tkN_bd hp x (tdN_bd hp x hg s) _
theorem adO_congr {p bt pl i l m : Int} {fig : Int → Int → Int} {g g' : Int → Int} (x : Int) (h : g x = g' x) : adO p bt pl fig g i l m x = adO p bt pl fig g' i l m x := by
  unfold adO
  rw [h]
theorem tkN_congr {p dp i : Int} {fig : Int → Int → Int} {g g' : Int → Int} (hi : 0 ≤ i ∧ i < 4) (h : ∀ x, 0 ≤ x → x < 84 → g x = g' x) : ∀ (s : Nat), s ≤ 20 → ∀ x, 0 ≤ x → x < 84 → tkN p dp fig i g s x = tkN p dp fig i g' s x
  | 0, _, x, x0, x1 => h x x0 x1
  | s + 1, hs, x, x0, x1 => by
    have ih := tkN_congr (p := p) (dp := dp) (fig := fig) hi h s (by omega)
    show tkS p dp fig i (s + 1) (tkN p dp fig i g s) i 1 x = tkS p dp fig i (s + 1) (tkN p dp fig i g' s) i 1 x
    unfold tkS
    rw [ih x x0 x1, ih (21 * i + (s + 1)) (by omega) (by omega)]
/-- what is grown for b_j -/
def grF (p n j : Int) (bt pl dp : Int → Int) (f0 f1 : Int → Int → Int → Int) : Int → Int := if j < n then tdN p j dp f1 (agN p bt pl f0 n.toNat) j.toNat else fun _ => 0
/-- the new figures -/
def nfF (j : Int) (dp g : Int → Int) (i m : Int) : Int := if i = j then (if m = dp j then 1 else 0) else if i < j ∧ 1 ≤ m then g (21 * i + m) else 0
abbrev MG1 (B L : Int) : Int → Prop := fun x => x = B + 10 ∨ x = B + 11 ∨ x = B + 61 ∨ x = L + 1
theorem fg_nat {a m : Int} (h : 0 ≤ m) : fg a m = fg a ((m.toNat : Nat) : Int) := by rw [show ((m.toNat : Nat) : Int) = m by omega]
set_option maxHeartbeats 4000000 in
theorem s_growOne {d : Nat} {B A L n p k j : Int} {S : Hp} {Q : Vl → Hp → Prop} (h : GW S B A) (hu : Gu S B n p) (hG : HW S (B + 1)) (hGu : Hu S (B + 1) n p) (hn : 2 ≤ n ∧ n ≤ 4) (hp : 2 ≤ p ∧ p ≤ 7) (hL : PW S L) (hR : PR S L) (dL : L + 5 < B ∨ B + 61 < L) (hk : 0 ≤ k ∧ k + 1 < 19) (hj : 0 ≤ j ∧ j < 4) (hnb : ∀ r i, 0 ≤ r → r < n → 0 ≤ i → i < n → 0 ≤ zG S (B + 8) (4 * r + i) ∧ zG S (B + 8) (4 * r + i) < p) (hso : ∀ r i, 0 ≤ r → r < n → 0 ≤ i → i < n → 0 ≤ zG S (B + 6) (4 * r + i) ∧ zG S (B + 6) (4 * r + i) < p) (hdp : ∀ i, 0 ≤ i → i < 4 → 0 ≤ zG S (L + 2) ((k + 1) * 4 + i) ∧ zG S (L + 2) ((k + 1) * 4 + i) ≤ 20)
    (H : ∀ S', Md (MG1 B L) S S' → PR S' L → (∀ x, ¬ (((k + 1) * 4 + j) * 4 ≤ x ∧ x < ((k + 1) * 4 + j) * 4 + 4) → zG S' (L + 1) x = zG S (L + 1) x) → (∀ i m, 0 ≤ i → i < 4 → 0 ≤ m → m ≤ 20 → figS S' L (k + 1) j i m = nfF j (fun i => zG S (L + 2) ((k + 1) * 4 + i)) (grF p n j (cbB p n (zG S (B + 6)) (zG S (B + 8)) (zG S (B + 9)) (zG S (B + 7)) j) (cbP n (zG S (B + 6)) (zG S (B + 8)) (zG S (B + 9)) (zG S (B + 7)) j) (fun i => zG S (L + 2) ((k + 1) * 4 + i)) (figS S L k) (figS S L (k + 1))) i m) → Q (3, 0) S') : Ev (d + 2) 35 [(2, B), (2, L), (0, k), (0, j)] S Q := by
  have nM : ∀ x, (x = B ∨ x = B + 1 ∨ (x ≠ L + 1 ∧ (x < B + 10 ∨ (B + 11 < x ∧ x < B + 61) ∨ B + 61 < x))) → ¬ MG1 B L x := fun x hx => by unfold MG1; omega
  have hGW : ∀ {S' : Hp}, Md (MG1 B L) S S' → GW S' B A := fun hm => h.keep hm (fun x hx => by unfold MG1; omega)
  have hGu2 : ∀ {S' : Hp}, Md (MG1 B L) S S' → Gu S' B n p := fun hm => hu.keep hm (nM _ (by omega))
  have hHW : ∀ {S' : Hp}, Md (MG1 B L) S S' → HW S' (B + 1) := fun hm => hG.keep hm (nM _ (by omega))
  have hHu : ∀ {S' : Hp}, Md (MG1 B L) S S' → Hu S' (B + 1) n p := fun hm => hGu.keep hm (nM _ (by omega))
  have hPW : ∀ {S' : Hp}, Md (MG1 B L) S S' → PW S' L := fun hm => hL.keep hm (nM _ (by omega))
  have hDP : ∀ {S' : Hp}, Md (MG1 B L) S S' → ∀ i, zG S' (L + 2) ((k + 1) * 4 + i) = zG S (L + 2) ((k + 1) * 4 + i) := fun hm i => hm.G (nM _ (by omega)) _
  generalize hdpe : (fun i => zG S (L + 2) ((k + 1) * 4 + i)) = dp at *
  have dpe : ∀ i, zG S (L + 2) ((k + 1) * 4 + i) = dp i := fun i => by rw [← hdpe]
  have hdp : ∀ i, 0 ≤ i → i < 4 → 0 ≤ dp i ∧ dp i ≤ 20 := fun i i0 i1 => by rw [← dpe]; exact hdp i i0 i1
  -- the last loop: the figures are laid down
  have last : ∀ S5 g, Md (fun x => x = B + 10 ∨ x = B + 11 ∨ x = B + 61) S S5 → (∀ x, 0 ≤ x → x < 84 → zG S5 (B + 61) x = g x) → (∀ x, 0 ≤ x → x < 84 → 0 ≤ g x ∧ g x < p) → g = grF p n j (cbB p n (zG S (B + 6)) (zG S (B + 8)) (zG S (B + 9)) (zG S (B + 7)) j) (cbP n (zG S (B + 6)) (zG S (B + 8)) (zG S (B + 9)) (zG S (B + 7)) j) dp (figS S L k) (figS S L (k + 1)) → At (d + 2) 35 c35_95 [(0, (2, B)), (1, (2, L)), (2, (0, k)), (3, (0, j))] [] S5 Q := fun S5 g m5 v5 b5 ge => by
    rw [← ge] at H
    clear ge
    have mm5 : Md (MG1 B L) S S5 := m5.wide (fun x hx => by unfold MG1; omega)
    have R5 : PR S5 L := hR.keep m5 (by omega)
    apply w_Grower_growOne_95
    refine loopU (P := fun i S' => At (d + 2) 35 c35_98 [(0, (2, B)), (1, (2, L)), (2, (0, k)), (3, (0, j)), (4, (0, i))] [] S' Q) (I := fun i S' => 0 ≤ i ∧ Md (fun x => x = L + 1) S5 S' ∧ PR S' L ∧ (∀ x, ¬ (((k + 1) * 4 + j) * 4 ≤ x ∧ x < ((k + 1) * 4 + j) * 4 + 4) → zG S' (L + 1) x = zG S5 (L + 1) x) ∧ ∀ e m, 0 ≤ e → e < i → 0 ≤ m → m ≤ 20 → fg (zG S' (L + 1) (((k + 1) * 4 + j) * 4 + e)) m = nfF j dp g e m) 4 ?_ ?_ 0 S5 (by omega) ⟨by omega, Md.refl _ _, R5, fun x hx => rfl, fun e m e0 e1 => by omega⟩
    · rintro i S6 hi ⟨i0, m6, R6, o6, f6⟩ hk1
      have mm6 : Md (MG1 B L) S S6 := mm5.tr (m6.wide (fun x hx => by unfold MG1; omega))
      -- what is written
      have wr : ∀ v, 0 ≤ v → v < 9223372036854775808 → (∀ m, 0 ≤ m → m ≤ 20 → fg v m = nfF j dp g i m) → At (d + 2) 35 c35_183 [(0, (2, B)), (1, (2, L)), (2, (0, k)), (3, (0, j)), (4, (0, i))] [(1, v), (0, i), (0, j), (0, w32 (k + 1)), (2, L)] S6 Q := fun v v0 v1 hv => by
        rw [w32_id (x := k + 1) (by omega) (by omega)]
        apply w_Grower_growOne_183
        refine ⟨(hPW mm6).1, s_setFigures (hPW mm6) ⟨by omega, by omega⟩ hj ⟨i0, hi⟩ ⟨rfl, ?_⟩⟩
        rintro _ rfl
        rw [w32_id (by omega) (by omega)]
        refine hk1 _ ⟨by omega, m6.tr (Md.zS _ _ _ _), fun e e0 e1 => ?_, fun x hx => ?_, fun e m e0 e1 m0 m1 => ?_⟩
        · rw [zG_zS]
          split
          · exact ⟨v0, v1⟩
          · exact R6 e e0 e1
        · rw [zG_zS_ne _ (Or.inr (by omega))]
          exact o6 x hx
        · by_cases q : e = i
          · rw [q, zG_zS_at]
            exact hv m m0 m1
          · rw [zG_zS_ne _ (Or.inr (by omega))]
            exact f6 e m e0 (by omega) m0 m1
      apply w_Grower_growOne_98
      refine ⟨fun hc => by omega, fun _ => ?_⟩
      by_cases q : i < j
      · -- packed
        have e6 : ∀ x, 0 ≤ x → x < 84 → zG S6 (B + 61) x = g x := fun x x0 x1 => by rw [m6.G (by omega)]; exact v5 x x0 x1
        have hgb : ∀ m : Int, 1 ≤ m → m < 21 → 0 ≤ g (21 * i + m) ∧ g (21 * i + m) < 8 := fun m m0 m1 => by
          have := b5 (21 * i + m) (by omega) (by omega)
          omega
        refine loopU (α := Unit) (P := fun m _ => At (d + 2) 35 c35_110 [(0, (2, B)), (1, (2, L)), (2, (0, k)), (3, (0, j)), (4, (0, i)), (5, (1, pkF (fun m => g (21 * i + m)) m.toNat)), (7, (0, m))] [] S6 Q) (I := fun m _ => 1 ≤ m) 21 ?_ ?_ 1 () (by omega) (by omega)
        · rintro m _ hm m0 hk2
          have hm0 : 1 ≤ m := m0
          have r6 := (hGW mm6).2.2.2.2.2.2.2.2.2.2.2.2.2.2
          apply w_Grower_growOne_110
          rw [(hGW mm6).2.2.2.2.2.2.2.1, w32_id (x := 21 * i) (by omega) (by omega), w32_id (x := 21 * i + m) (by omega) (by omega), w32_id (x := 3 * m) (by omega) (by omega), e6 _ (by omega) (by omega)]
          refine ⟨fun hc => by omega, fun _ => ⟨(hGW mm6).1, ⟨r6.1, by omega, by rw [r6.2]; omega⟩, ?_⟩⟩
          intro x1 hx1
          rw [pk_step (g := fun m => g (21 * i + m)) hgb hm0 (by omega)] at hx1
          subst hx1
          rintro _ rfl
          rw [w32_id (by omega) (by omega)]
          exact hk2 () (by omega)
        · rintro _ -
          have pb := pkF_bd (n := 21) hgb 21 (by omega)
          have pf := fg_pk (n := 21) hgb 21 (by omega)
          rw [p8_21] at pb
          apply w_Grower_growOne_110
          refine ⟨fun _ => ?_, fun hc => absurd (Or.inr (show (20 : Int) < 21 by omega)) hc⟩
          apply w_Grower_growOne_153
          refine ⟨fun _ => wr _ pb.1 pb.2 (fun m m0 m1 => ?_), fun hc => absurd (show ¬ i = j by omega) hc⟩
          rw [show ((21 : Int)).toNat = 21 by omega, fg_nat m0, pf]
          unfold nfF
          rw [if_neg (show ¬ i = j by omega), show ((m.toNat : Nat) : Int) = m by omega]
          by_cases q2 : 1 ≤ m
          · rw [if_pos (show 1 ≤ m.toNat ∧ m.toNat < 21 by omega), if_pos ⟨q, q2⟩]
          · rw [if_neg (show ¬ (1 ≤ m.toNat ∧ m.toNat < 21) by omega), if_neg (fun z => q2 z.2)]
      · apply w_Grower_growOne_110
        refine ⟨fun _ => ?_, fun hc => absurd (Or.inl (show j ≤ i by omega)) hc⟩
        apply w_Grower_growOne_153
        refine ⟨fun hq => wr 0 (by omega) (by omega) (fun m m0 m1 => ?_), fun hq => ⟨(hPW mm6).1, ?_⟩⟩
        · unfold nfF
          rw [if_neg hq, if_neg (fun z => q z.1)]
          exact fg_zero m
        · have hij : i = j := Classical.not_not.mp hq
          rw [w32_id (x := k + 1) (by omega) (by omega)]
          refine s_deep (hPW mm6) ⟨by omega, by omega⟩ hj ⟨_, rfl, ?_⟩
          have db := hdp j hj.1 hj.2
          rw [hDP mm6, dpe, w32_id (x := 3 * dp j) (by omega) (by omega)]
          have e8 : (2 : Int) ^ (3 * dp j).toNat = (8 : Int) ^ (dp j).toNat := by
            rw [show (3 * dp j).toNat = 3 * (dp j).toNat by omega]
            exact p8 _
          have lt : (8 : Int) ^ (dp j).toNat < 9223372036854775808 := by
            have h1 := p8mono (show (dp j).toNat ≤ 20 by omega)
            have h2 : (8 : Int) ^ 20 < 9223372036854775808 := by decide
            omega
          rw [lShl_ok (by omega) (by omega) (by omega) (by rw [e8, Int.one_mul]; exact lt), e8, Int.one_mul]
          have w := wr ((8 : Int) ^ (dp j).toNat) (Int.le_of_lt (p8pos _)) lt (fun m m0 m1 => by
            rw [fg_nat m0, fg_one]
            unfold nfF
            rw [if_pos hij]
            by_cases q2 : m = dp j
            · rw [if_pos (by omega), if_pos q2]
            · rw [if_neg (by omega), if_neg q2])
          rw [w32_id (x := k + 1) (by omega) (by omega)] at w
          exact w
    · rintro S6 ⟨-, m6, R6, o6, f6⟩
      apply w_Grower_growOne_98
      refine ⟨fun _ => H S6 (mm5.tr (m6.wide (fun x hx => by unfold MG1; omega))) R6 (fun x hx => by rw [o6 x hx]; exact m5.G (by omega) x) (fun i m i0 i1 m0 m1 => ?_), fun hc => absurd (Int.le_refl 4) hc⟩
      unfold figS
      rw [if_neg (by omega)]
      exact f6 i m i0 i1 m0 m1
  apply w_Grower_growOne_0
  refine loopU (P := fun e S' => At (d + 2) 35 c35_3 [(0, (2, B)), (1, (2, L)), (2, (0, k)), (3, (0, j)), (4, (0, e))] [] S' Q) (I := fun e S' => 0 ≤ e ∧ Md (fun x => x = B + 61) S S' ∧ ∀ x, 0 ≤ x → x < e → zG S' (B + 61) x = 0) 84 ?_ ?_ 0 S (by omega) ⟨by omega, Md.refl _ _, fun x x0 x1 => by omega⟩
  · rintro e S1 he ⟨e0, m1, v1⟩ hk1
    have mm1 : Md (MG1 B L) S S1 := m1.wide (fun x hx => by unfold MG1; omega)
    have r6 := (hGW mm1).2.2.2.2.2.2.2.2.2.2.2.2.2.2
    apply w_Grower_growOne_3
    rw [(hGW mm1).2.2.2.2.2.2.2.1, r6.2]
    refine ⟨(hGW mm1).1, r6.1, fun hc => by omega, fun _ => ⟨(hGW mm1).1, ⟨r6.1, e0, he⟩, ?_⟩⟩
    rintro _ rfl _ rfl
    rw [w32_id (by omega) (by omega)]
    refine hk1 _ ⟨by omega, m1.tr (Md.zS _ _ _ _), fun x x0 x1 => ?_⟩
    by_cases q : x = e
    · rw [q, zG_zS_at]
    · rw [zG_zS_ne _ (Or.inr q)]
      exact v1 x x0 (by omega)
  · rintro S1 ⟨-, m1, v1⟩
    have mm1 : Md (MG1 B L) S S1 := m1.wide (fun x hx => by unfold MG1; omega)
    have r6 := (hGW mm1).2.2.2.2.2.2.2.2.2.2.2.2.2.2
    apply w_Grower_growOne_3
    rw [(hGW mm1).2.2.2.2.2.2.2.1, r6.2, (hGu2 mm1).1, (hGW mm1).2.1]
    refine ⟨(hGW mm1).1, r6.1, fun _ => ⟨(hGW mm1).1, fun hq => ?_, fun hq => ⟨(hGW mm1).1, (hHW mm1).k, ?_⟩⟩, fun hc => absurd (Int.le_refl 84) hc⟩
    · refine last S1 (fun _ => 0) (m1.wide (fun x hx => by omega)) v1 (fun x x0 x1 => by omega) ?_
      unfold grF
      rw [if_neg (by omega)]
    · have e6 : zG S1 (B + 6) = zG S (B + 6) := funext fun x => m1.G (by omega) x
      have e7 : zG S1 (B + 7) = zG S (B + 7) := funext fun x => m1.G (by omega) x
      have e8 : zG S1 (B + 8) = zG S (B + 8) := funext fun x => m1.G (by omega) x
      have e9 : zG S1 (B + 9) = zG S (B + 9) := funext fun x => m1.G (by omega) x
      have k5 : B + 1 + 5 = B + 6 := by omega
      have k6 : B + 1 + 6 = B + 7 := by omega
      have k7 : B + 1 + 7 = B + 8 := by omega
      have k8 : B + 1 + 8 = B + 9 := by omega
      have k9 : B + 1 + 9 = B + 10 := by omega
      have k10 : B + 1 + 10 = B + 11 := by omega
      refine s_combine (hHW mm1) (hHu mm1) hn hp ⟨hj.1, by omega⟩ (fun r i r0 r1 i0 i1 => by rw [k7, e8]; exact hnb r i r0 r1 i0 i1) (fun r i r0 r1 i0 i1 => by rw [k5, e6]; exact hso r i r0 r1 i0 i1) (fun S2 m2 v2 => ⟨rfl, ?_⟩)
      rw [k9, k10] at v2
      simp only [k5, k6, k7, k8, k9, k10, e6, e7, e8, e9] at v2 m2
      generalize hBT : cbB p n (zG S (B + 6)) (zG S (B + 8)) (zG S (B + 9)) (zG S (B + 7)) j = bt at *
      generalize hPL : cbP n (zG S (B + 6)) (zG S (B + 8)) (zG S (B + 9)) (zG S (B + 7)) j = pl at *
      have m12 : Md (fun x => x = B + 10 ∨ x = B + 11 ∨ x = B + 61) S S2 := (m1.wide (fun x hx => by omega)).tr (m2.wide (fun x hx => by omega))
      have btb : ∀ i, 0 ≤ i → i < 4 → 0 ≤ bt i ∧ bt i < 10 := fun i i0 i1 => by
        rw [← hBT]
        unfold cbB
        split
        · omega
        · have := cbT_bd (p := p) (n := n) (so := zG S (B + 6)) (nb := zG S (B + 8)) (nil := zG S (B + 9)) (j := j) hp.1 n.toNat i
          omega
      have plb : ∀ i, 0 ≤ i → i < n → 0 ≤ pl i ∧ pl i < 10 := fun i i0 i1 => by
        rw [← hPL]
        unfold cbP
        split
        · have := hnb j i hj.1 (by omega) i0 i1
          omega
        · split
          · have := hso j i hj.1 (by omega) i0 (by omega)
            omega
          · omega
      have z2 : ∀ x, 0 ≤ x → x < 84 → zG S2 (B + 61) x = 0 := fun x x0 x1 => by rw [m2.G (by omega)]; exact v1 x x0 x1
      have fz : ∀ {S' : Hp}, Md (fun x => x = B + 10 ∨ x = B + 11 ∨ x = B + 61) S S' → ∀ q, figS S' L q = figS S L q := fun hm q => funext fun a => funext fun b => funext fun m => figS_keep hm (by omega) q a b m
      have wd : ∀ {S' : Hp}, Md (fun x => x = B + 10 ∨ x = B + 11 ∨ x = B + 61) S S' → Md (MG1 B L) S S' := fun hm => hm.wide (fun x hx => by unfold MG1; omega)
      refine loopU (P := fun i S' => At (d + 2) 35 c35_46 [(0, (2, B)), (1, (2, L)), (2, (0, k)), (3, (0, j)), (4, (0, i))] [] S' Q) (I := fun i S' => 0 ≤ i ∧ Md (fun x => x = B + 61) S2 S' ∧ ∀ x, 0 ≤ x → x < 84 → zG S' (B + 61) x = agN p bt pl (figS S L k) i.toNat x) n ?_ ?_ 0 S2 (by omega) ⟨by omega, Md.refl _ _, fun x x0 x1 => z2 x x0 x1⟩
      · rintro i S3 hi ⟨i0, m3, v3⟩ hk1
        have m13 : Md (fun x => x = B + 10 ∨ x = B + 11 ∨ x = B + 61) S S3 := m12.tr (m3.wide (fun x hx => by omega))
        have mm3 := wd m13
        have q10 : zG S3 (B + 10) i = bt i := by rw [m3.G (by omega)]; exact (v2 i i0 (by omega)).1
        have q11 : zG S3 (B + 11) i = pl i := by rw [m3.G (by omega)]; exact (v2 i i0 (by omega)).2
        apply w_Grower_growOne_46
        rw [(hGu2 mm3).1]
        refine ⟨(hGW mm3).1, fun hc => by omega, fun _ => ⟨(hGW mm3).1, ?_⟩⟩
        refine s_addOld (hGW mm3) (hGu2 mm3) (hHW mm3) hn hp (hPW mm3) (hR.keep m13 (by omega)) dL ⟨hk.1, by omega⟩ ⟨i0, hi⟩ (fun x x0 x1 => ?_) (by rw [q10]; exact btb i i0 (by omega)) (by rw [q11]; exact plb i i0 hi) ⟨rfl, ?_⟩
        · rw [v3 x x0 x1]
          have := agN_bd (p := p) (bt := bt) (pl := pl) (fig := figS S L k) hp.1 x i.toNat
          omega
        · rintro _ rfl
          rw [w32_id (by omega) (by omega)]
          refine hk1 _ ⟨by omega, m3.tr (Md.zR _ _ _), fun x x0 x1 => ?_⟩
          rw [zG_zR_at, q10, q11, fz m13, adO_congr x (v3 x x0 x1), show (i + 1).toNat = i.toNat + 1 by omega]
          show _ = adO p (bt ((i.toNat : Nat) : Int)) (pl ((i.toNat : Nat) : Int)) (figS S L k ((i.toNat : Nat) : Int)) (agN p bt pl (figS S L k) i.toNat) ((i.toNat : Nat) : Int) (((i.toNat : Nat) : Int) + 1) 1 x
          rw [show ((i.toNat : Nat) : Int) = i by omega]
      · rintro S3 ⟨-, m3, v3⟩
        have m13 : Md (fun x => x = B + 10 ∨ x = B + 11 ∨ x = B + 61) S S3 := m12.tr (m3.wide (fun x hx => by omega))
        have mm3 := wd m13
        apply w_Grower_growOne_46
        rw [(hGu2 mm3).1]
        refine ⟨(hGW mm3).1, fun _ => ?_, fun hc => absurd (Int.le_refl n) hc⟩
        rintro _ rfl
        rw [w32_id (by omega) (by omega)]
        have gb : ∀ s x, 0 ≤ tdN p j dp (figS S L (k + 1)) (agN p bt pl (figS S L k) n.toNat) s x ∧ tdN p j dp (figS S L (k + 1)) (agN p bt pl (figS S L k) n.toNat) s x < p := fun s x => tdN_bd hp.1 x (agN_bd hp.1 x _) s
        refine loopD (P := fun i S' => At (d + 2) 35 c35_74 [(0, (2, B)), (1, (2, L)), (2, (0, k)), (3, (0, j)), (4, (0, i))] [] S' Q) (I := fun i S' => i ≤ j - 1 ∧ Md (fun x => x = B + 61) S3 S' ∧ ∀ x, 0 ≤ x → x < 84 → zG S' (B + 61) x = tdN p j dp (figS S L (k + 1)) (agN p bt pl (figS S L k) n.toNat) (j - 1 - i).toNat x) 0 ?_ ?_ (j - 1) S3 (by omega) ⟨by omega, Md.refl _ _, fun x x0 x1 => by rw [show (j - 1 - (j - 1)).toNat = 0 by omega]; exact v3 x x0 x1⟩
        · rintro i S4 hi ⟨i1, m4, v4⟩ hk1
          have m14 : Md (fun x => x = B + 10 ∨ x = B + 11 ∨ x = B + 61) S S4 := m13.tr (m4.wide (fun x hx => by omega))
          have mm4 := wd m14
          have db := hdp i hi (by omega)
          apply w_Grower_growOne_74
          rw [w32_id (x := k + 1) (by omega) (by omega)]
          refine ⟨fun hc => by omega, fun _ => ⟨(hGW mm4).1, s_takeOff (hGW mm4) (hGu2 mm4) hp (hPW mm4) (hR.keep m14 (by omega)) dL ⟨by omega, by omega⟩ ⟨hi, by omega⟩ (fun x x0 x1 => by rw [v4 x x0 x1]; exact gb _ x) (by rw [hDP mm4, dpe]; exact db) ⟨rfl, ?_⟩⟩⟩
          rintro _ rfl
          rw [w32_id (by omega) (by omega)]
          refine hk1 _ ⟨by omega, m4.tr (Md.zR _ _ _), fun x x0 x1 => ?_⟩
          rw [zG_zR_at, hDP mm4, dpe, fz m14, tkN_congr ⟨hi, by omega⟩ v4 _ (by omega) x x0 x1, show (j - 1 - (i - 1)).toNat = (j - 1 - i).toNat + 1 by omega]
          show _ = tkN p (dp (j - 1 - ((j - 1 - i).toNat : Int))) (figS S L (k + 1) (j - 1 - ((j - 1 - i).toNat : Int))) (j - 1 - ((j - 1 - i).toNat : Int)) (tdN p j dp (figS S L (k + 1)) (agN p bt pl (figS S L k) n.toNat) (j - 1 - i).toNat) (dp (j - 1 - ((j - 1 - i).toNat : Int))).toNat x
          rw [show j - 1 - ((j - 1 - i).toNat : Int) = i by omega]
        · rintro S4 ⟨-, m4, v4⟩
          have m14 : Md (fun x => x = B + 10 ∨ x = B + 11 ∨ x = B + 61) S S4 := m13.tr (m4.wide (fun x hx => by omega))
          apply w_Grower_growOne_74
          refine ⟨fun _ => ?_, fun hc => absurd (show (0 : Int) - 1 < 0 by omega) hc⟩
          refine last S4 _ m14 v4 (fun x x0 x1 => gb _ x) ?_
          unfold grF
          rw [if_pos (by omega), show (j - 1 - (0 - 1)).toNat = j.toNat by omega]
