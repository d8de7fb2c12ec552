/-! Grower: the next ring. -/
/-- figures that agree where rings have them -/
def fgE (n : Int) (f f' : Int → Int → Int → Int) : Prop := ∀ a b m, 0 ≤ a → a < n → 0 ≤ b → b < 4 → f a b m = f' a b m
theorem adO_congr2 {p bt pl i l m x : Int} {fig fig' : Int → Int → Int} {g g' : Int → Int} (x0 : 0 ≤ x) (x1 : x < 84) (hf : ∀ b m, 0 ≤ b → b < 4 → fig b m = fig' b m) (h : g x = g' x) : adO p bt pl fig g i l m x = adO p bt pl fig' g' i l m x := by
  unfold adO
  rw [h, hf (x / 21) (x % 21 - 1) (by omega) (by omega), hf (x / 21) (x % 21) (by omega) (by omega)]
theorem agN_congr2 {p : Int} {bt pl : Int → Int} {f f' : Int → Int → Int → Int} (hf : fgE 4 f f') : ∀ (s : Nat), s ≤ 4 → ∀ x, 0 ≤ x → x < 84 → agN p bt pl f s x = agN p bt pl f' s x
  | 0, _, x, x0, x1 => rfl
  | s + 1, hs, x, x0, x1 => adO_congr2 x0 x1 (fun b m b0 b1 => hf s b m (by omega) (by omega) b0 b1) (agN_congr2 hf s (by omega) x x0 x1)
theorem tkN_congr2 {p dp i : Int} {fig fig' : Int → Int → Int} {g g' : Int → Int} (hi : 0 ≤ i ∧ i < 4) (hf : ∀ b m, 0 ≤ b → b < 4 → fig b m = fig' b m) (h : ∀ x, 0 ≤ x → x < 84 → g x = g' x) : ∀ (s : Nat), s ≤ 20 → ∀ x, 0 ≤ x → x < 84 → tkN p dp fig i g s x = tkN p dp fig' i g' s x
  | 0, _, x, x0, x1 => h x x0 x1
  | s + 1, hs, x, x0, x1 => by
    have ih := tkN_congr2 (p := p) (dp := dp) hi hf h s (by omega)
    show tkS p dp fig i (s + 1) (tkN p dp fig i g s) i 1 x = tkS p dp fig' i (s + 1) (tkN p dp fig' i g' s) i 1 x
    unfold tkS
    rw [ih x x0 x1, ih (21 * i + (s + 1)) (by omega) (by omega), hf (x / 21) _ (by omega) (by omega)]
theorem tdN_congr2 {p j : Int} {dp : Int → Int} {f f' : Int → Int → Int → Int} {g g' : Int → Int} (hj : j ≤ 4) (hdp : ∀ i, 0 ≤ i → i < 4 → dp i ≤ 20) (hf : fgE j f f') (h : ∀ x, 0 ≤ x → x < 84 → g x = g' x) : ∀ (s : Nat), (s : Int) ≤ j → ∀ x, 0 ≤ x → x < 84 → tdN p j dp f g s x = tdN p j dp f' g' s x
  | 0, _, x, x0, x1 => h x x0 x1
  | s + 1, hs, x, x0, x1 => tkN_congr2 ⟨by omega, by omega⟩ (fun b m b0 b1 => hf (j - 1 - s) b m (by omega) (by omega) b0 b1) (tdN_congr2 hj hdp hf h s (by omega)) _ (by have := hdp (j - 1 - s) (by omega) (by omega); omega) x x0 x1
theorem grF_congr2 {p n j : Int} {bt pl dp : Int → Int} {f0 f0' f1 f1' : Int → Int → Int → Int} (hn : n ≤ 4) (hj : 0 ≤ j ∧ j < 4) (hdp : ∀ i, 0 ≤ i → i < 4 → dp i ≤ 20) (h0 : fgE 4 f0 f0') (h1 : fgE j f1 f1') (x : Int) (x0 : 0 ≤ x) (x1 : x < 84) : grF p n j bt pl dp f0 f1 x = grF p n j bt pl dp f0' f1' x := by
  unfold grF
  split
  · exact tdN_congr2 (by omega) hdp h1 (agN_congr2 h0 _ (by omega)) _ (by omega) x x0 x1
  · rfl
theorem nfF_congr {j i m : Int} {dp g g' : Int → Int} (hj : j < 4) (hi : 0 ≤ i) (hm : m ≤ 20) (h : ∀ x, 0 ≤ x → x < 84 → g x = g' x) : nfF j dp g i m = nfF j dp g' i m := by
  unfold nfF
  by_cases q : i = j
  · rw [if_pos q, if_pos q]
  · rw [if_neg q, if_neg q]
    by_cases q2 : i < j ∧ 1 ≤ m
    · rw [if_pos q2, if_pos q2, h _ (by omega) (by omega)]
    · rw [if_neg q2, if_neg q2]
/-- the gain in depth -/
def gnF (fr nil : Int → Int) (j : Int) : Int := fr j - (1 - nil j)
abbrev MGr (B L : Int) : Int → Prop := fun x => x = B + 5 ∨ x = B + 6 ∨ x = B + 7 ∨ x = B + 14 ∨ x = B + 15 ∨ x = B + 10 ∨ x = B + 11 ∨ x = B + 61 ∨ x = L + 1 ∨ x = L + 2
/-- the figures of one row, as far as the rings know them -/
theorem figS_out {S S' : Hp} {L k j i m : Int} (h : zG S' (L + 1) ((k * 4 + j) * 4 + i) = zG S (L + 1) ((k * 4 + j) * 4 + i)) : figS S' L k j i m = figS S L k j i m := by
  unfold figS
  rw [h]
set_option maxHeartbeats 4000000 in
theorem s_grow {d : Nat} {B A L n p k : Int} {S : Hp} {Q : Vl → Hp → Prop} (h : GW S B A) (hu : Gu S B n p) (hG : HW S (B + 1)) (hGu : Hu S (B + 1) n p) (hn : 2 ≤ n ∧ n ≤ 4) (hp : isPr p) (hL : PW S L) (hR : PR S L) (dL : L + 5 < B ∨ B + 61 < L) (hk : 0 ≤ k ∧ k + 1 < 19) (hlo : ∀ x, 0 ≤ x → x < 64 → 0 ≤ zG S (B + 2) x ∧ zG S (B + 2) x < 10) (hhi : ∀ x, 0 ≤ x → x < 64 → 0 ≤ zG S (B + 3) x ∧ zG S (B + 3) x < 10) (hnb : ∀ r i, 0 ≤ r → r < n → 0 ≤ i → i < n → 0 ≤ zG S (B + 8) (4 * r + i) ∧ zG S (B + 8) (4 * r + i) < p) (hE : ∀ x, 0 ≤ x → x < 64 → 0 ≤ zG S (B + 5) x ∧ zG S (B + 5) x < 20) (hF : ∀ j, 0 ≤ j → j < 4 → in01 (zG S (B + 7) j)) (hN : ∀ j, 0 ≤ j → j < 4 → in01 (zG S (B + 9) j)) (hd0 : ∀ j, 0 ≤ j → j < 4 → 0 ≤ zG S (L + 2) (k * 4 + j) ∧ zG S (L + 2) (k * 4 + j) ≤ 20)
    (hgood : ∀ E fr so q, (∀ l i j, 0 ≤ l → l < n → 0 ≤ i → i < n → 0 ≤ j → j < n → E (4 * (n * l + i) + j) = muV p n (zG S (B + 8)) (zG S (B + 9)) (zG S (B + 2)) (zG S (B + 3)) j l i) → solved p n (n * n) E fr so q → ∀ j, 0 ≤ j → j < n → 0 ≤ zG S (L + 2) (k * 4 + j) + gnF fr (zG S (B + 9)) j ∧ zG S (L + 2) (k * 4 + j) + gnF fr (zG S (B + 9)) j ≤ 20)
    (H : ∀ S' E q, Md (MGr B L) S S' → (∀ l i j, 0 ≤ l → l < n → 0 ≤ i → i < n → 0 ≤ j → j < n → E (4 * (n * l + i) + j) = muV p n (zG S (B + 8)) (zG S (B + 9)) (zG S (B + 2)) (zG S (B + 3)) j l i) → solved p n (n * n) E (zG S' (B + 7)) (zG S' (B + 6)) q → (∀ j, 0 ≤ j → j < 4 → in01 (zG S' (B + 7) j)) → (∀ x, 0 ≤ x → x < 64 → 0 ≤ zG S' (B + 5) x ∧ zG S' (B + 5) x < 20) → PR S' L → (∀ x, ¬ ((k + 1) * 16 ≤ x ∧ x < (k + 1) * 16 + 16) → zG S' (L + 1) x = zG S (L + 1) x) → (∀ x, ¬ ((k + 1) * 4 ≤ x ∧ x < (k + 1) * 4 + 4) → zG S' (L + 2) x = zG S (L + 2) x) → (sm n.toNat (gnF (zG S' (B + 7)) (zG S (B + 9))) = 0 → Q (0, 0) S') ∧ ((∀ j, 0 ≤ j → j < 4 → zG S' (L + 2) ((k + 1) * 4 + j) = if j < n then zG S (L + 2) (k * 4 + j) + gnF (zG S' (B + 7)) (zG S (B + 9)) j else 0) → (∀ j i m, 0 ≤ j → j < 4 → 0 ≤ i → i < 4 → 0 ≤ m → m ≤ 20 → figS S' L (k + 1) j i m = nfF j (fun i => zG S' (L + 2) ((k + 1) * 4 + i)) (grF p n j (cbB p n (zG S' (B + 6)) (zG S (B + 8)) (zG S (B + 9)) (zG S' (B + 7)) j) (cbP n (zG S' (B + 6)) (zG S (B + 8)) (zG S (B + 9)) (zG S' (B + 7)) j) (fun i => zG S' (L + 2) ((k + 1) * 4 + i)) (figS S L k) (figS S' L (k + 1))) i m) → ¬ sm n.toNat (gnF (zG S' (B + 7)) (zG S (B + 9))) = 0 → Q (0, 1) S')) : Ev (d + 4) 34 [(2, B), (2, L), (0, k)] S Q := by
  have hp7 : 2 ≤ p ∧ p ≤ 7 := by unfold isPr at hp; omega
  have k2 : B + 1 + 1 = B + 2 := by omega
  have k3 : B + 1 + 2 = B + 3 := by omega
  have k5 : B + 1 + 4 = B + 5 := by omega
  have k6 : B + 1 + 5 = B + 6 := by omega
  have k7 : B + 1 + 6 = B + 7 := by omega
  have k8 : B + 1 + 7 = B + 8 := by omega
  have k9 : B + 1 + 8 = B + 9 := by omega
  have nM : ∀ x, ((x ≤ B + 4 ∨ x = B + 8 ∨ x = B + 9 ∨ x = B + 12 ∨ x = B + 13 ∨ B + 15 < x) ∧ x ≠ B + 61 ∧ x ≠ L + 1 ∧ x ≠ L + 2) → ¬ MGr B L x := fun x hx => by unfold MGr; omega
  have hGW : ∀ {S' : Hp}, Md (MGr B L) S S' → GW S' B A := fun hm => h.keep hm (fun x hx => by unfold MGr; omega)
  have hGu2 : ∀ {S' : Hp}, Md (MGr B L) S S' → Gu S' B n p := fun hm => hu.keep hm (nM _ (by omega))
  have hHW : ∀ {S' : Hp}, Md (MGr B L) S S' → HW S' (B + 1) := fun hm => hG.keep hm (nM _ (by omega))
  have hHu : ∀ {S' : Hp}, Md (MGr B L) S S' → Hu S' (B + 1) n p := fun hm => hGu.keep hm (nM _ (by omega))
  have hPW : ∀ {S' : Hp}, Md (MGr B L) S S' → PW S' L := fun hm => hL.keep hm (nM _ (by omega))
  apply w_Grower_grow_0
  rw [h.2.1]
  refine ⟨h.1, hG.k, s_findMultipliers hG hGu hn hp (by rw [k2]; exact hlo) (by rw [k3]; exact hhi) (by rw [k8]; exact hnb) (by rw [k5]; exact hE) (by rw [k7]; exact hF) (fun S1 q E m1 e1 s1 f1 b1 => ⟨rfl, ?_⟩)⟩
  rw [k8, k9, k2, k3] at e1
  rw [k7, k6] at s1
  rw [k7] at f1
  rw [k5] at b1
  have m1 : Md (fun x => x = B + 5 ∨ x = B + 6 ∨ x = B + 7 ∨ x = B + 14 ∨ x = B + 15) S S1 := m1.wide (fun x hx => by omega)
  have mm1 : Md (MGr B L) S S1 := m1.wide (fun x hx => by unfold MGr; omega)
  have hgd := hgood E _ _ q e1 s1
  generalize hFR : zG S1 (B + 7) = fr at *
  generalize hSO : zG S1 (B + 6) = so at *
  have nil1 : ∀ x, zG S1 (B + 9) x = zG S (B + 9) x := fun x => m1.G (by omega) x
  generalize hNI : zG S (B + 9) = nil at *
  have gb : ∀ j, 0 ≤ j → j < 4 → -1 ≤ gnF fr nil j ∧ gnF fr nil j ≤ 1 := fun j j0 j1 => by
    unfold gnF
    rcases f1 j j0 j1 with q1 | q1 <;> rcases hN j j0 j1 with q2 | q2 <;> omega
  -- gainOf, wherever fr and nil are as now
  have gn : ∀ {S' : Hp} {Q' : Vl → Hp → Prop} {d' : Nat} (j : Int), Md (MGr B L) S S' → zG S' (B + 7) = fr → 0 ≤ j → j < 4 → Q' (0, gnF fr nil j) S' → Ev d' 17 [(2, B + 1), (0, j)] S' Q' := fun {S'} {Q'} {d'} j hm hf j0 j1 hQ => by
    have e9 : zG S' (B + 9) = nil := funext fun x => by rw [hm.G (nM _ (by omega)), hNI]
    refine s_gainOf (hHW hm) ⟨j0, j1⟩ (by rw [k7, hf]; exact f1 j j0 j1) (by rw [k9, e9]; exact hN j j0 j1) ?_
    rw [k7, k9, hf, e9]
    exact hQ
  refine loopU (α := Int) (P := fun j v => At (d + 4) 34 c34_12 [(0, (2, B)), (1, (2, L)), (2, (0, k)), (3, (0, v)), (4, (0, j))] [] S1 Q) (I := fun j v => 0 ≤ j ∧ -j ≤ v ∧ v ≤ j ∧ v = sm j.toNat (gnF fr nil)) n ?_ ?_ 0 0 (by omega) ⟨by omega, by omega, by omega, rfl⟩
  · rintro j v hj ⟨j0, v0, v1, ve⟩ hk1
    have b := gb j j0 (by omega)
    apply w_Grower_grow_12
    rw [(hGu2 mm1).1, (hGW mm1).2.1]
    refine ⟨(hGW mm1).1, fun hc => by omega, fun _ => ⟨(hGW mm1).1, (hHW mm1).k, gn j mm1 hFR j0 (by omega) ⟨_, rfl, ?_⟩⟩⟩
    rintro _ rfl _ rfl
    rw [w32_id (by omega) (by omega), w32_id (by omega) (by omega)]
    refine hk1 _ ⟨by omega, by omega, by omega, ?_⟩
    rw [show (j + 1).toNat = j.toNat + 1 by omega, sm_succ, show ((j.toNat : Nat) : Int) = j by omega, ve]
  · rintro v ⟨-, v0, v1, ve⟩
    apply w_Grower_grow_12
    rw [(hGu2 mm1).1]
    refine ⟨(hGW mm1).1, fun _ => ⟨fun hv => ?_, fun hv => ⟨Or.inl rfl, ?_⟩⟩, fun hc => absurd (Int.le_refl n) hc⟩
    · refine loopU (P := fun j S' => At (d + 4) 34 c34_48 [(0, (2, B)), (1, (2, L)), (2, (0, k)), (4, (0, j))] [] S' Q) (I := fun j S' => 0 ≤ j ∧ Md (fun x => x = L + 2) S1 S' ∧ (∀ x, ¬ ((k + 1) * 4 ≤ x ∧ x < (k + 1) * 4 + 4) → zG S' (L + 2) x = zG S (L + 2) x) ∧ ∀ i, 0 ≤ i → i < j → zG S' (L + 2) ((k + 1) * 4 + i) = if i < n then zG S (L + 2) (k * 4 + i) + gnF fr nil i else 0) 4 ?_ ?_ 0 S1 (by omega) ⟨by omega, Md.refl _ _, fun x hx => m1.G (by omega) x, fun i i0 i1 => by omega⟩
      · rintro j S2 hj ⟨j0, m2, o2, v2⟩ hk1
        have mm2 : Md (MGr B L) S S2 := mm1.tr (m2.wide (fun x hx => by unfold MGr; omega))
        have fr2 : zG S2 (B + 7) = fr := funext fun x => by rw [m2.G (by omega), hFR]
        have wr : ∀ v, v = (if j < n then zG S (L + 2) (k * 4 + j) + gnF fr nil j else 0) → At (d + 4) 34 c34_90 [(0, (2, B)), (1, (2, L)), (2, (0, k)), (4, (0, j))] [(0, v), (0, j), (0, w32 (k + 1)), (2, L)] S2 Q := fun v hv => by
          rw [w32_id (x := k + 1) (by omega) (by omega)]
          apply w_Grower_grow_90
          refine ⟨(hPW mm2).1, s_setDeep (hPW mm2) ⟨by omega, by omega⟩ ⟨j0, hj⟩ ⟨rfl, ?_⟩⟩
          rintro _ rfl
          rw [w32_id (by omega) (by omega)]
          refine hk1 _ ⟨by omega, m2.tr (Md.zS _ _ _ _), fun x hx => ?_, fun i i0 i1 => ?_⟩
          · rw [zG_zS_ne _ (Or.inr (by omega))]
            exact o2 x hx
          · by_cases q : i = j
            · rw [q, zG_zS_at, hv]
            · rw [zG_zS_ne _ (Or.inr (by omega))]
              exact v2 i i0 (by omega)
        apply w_Grower_grow_48
        rw [(hGu2 mm2).1]
        refine ⟨fun hc => by omega, fun _ => ⟨(hGW mm2).1, fun hq => wr 0 (by rw [if_neg (by omega)]), fun hq => ⟨(hPW mm2).1, ?_⟩⟩⟩
        refine s_deep (hPW mm2) ⟨hk.1, by omega⟩ ⟨j0, hj⟩ ⟨_, rfl, (hGW mm2).1, ?_⟩
        rw [(hGW mm2).2.1]
        refine ⟨(hHW mm2).k, gn j mm2 fr2 j0 hj ⟨_, rfl, ?_⟩⟩
        have b := gb j j0 hj
        have b0 := hd0 j j0 hj
        rw [o2 _ (by omega), w32_id (x := zG S (L + 2) (k * 4 + j) + gnF fr nil j) (by omega) (by omega)]
        exact wr _ (by rw [if_pos (by omega)])
      · rintro S2 ⟨-, m2, o2, v2⟩
        have mm2 : Md (MGr B L) S S2 := mm1.tr (m2.wide (fun x hx => by unfold MGr; omega))
        have R2 : PR S2 L := (hR.keep m1 (by omega)).keep m2 (by omega)
        have f02 : ∀ r, figS S2 L r = figS S L r := fun r => funext fun a => funext fun b => funext fun m => by rw [figS_keep m2 (by omega), figS_keep m1 (by omega)]
        apply w_Grower_grow_48
        refine ⟨fun _ => ?_, fun hc => absurd (Int.le_refl 4) hc⟩
        have d2 : ∀ i, 0 ≤ i → i < 4 → 0 ≤ zG S2 (L + 2) ((k + 1) * 4 + i) ∧ zG S2 (L + 2) ((k + 1) * 4 + i) ≤ 20 := fun i i0 i1 => by
          rw [v2 i i0 i1]
          split
          · exact hgd i i0 (by omega)
          · omega
        generalize hDE : (fun i => zG S2 (L + 2) ((k + 1) * 4 + i)) = de at *
        have dee : ∀ i, zG S2 (L + 2) ((k + 1) * 4 + i) = de i := fun i => by rw [← hDE]
        refine loopU (P := fun j S' => At (d + 4) 34 c34_102 [(0, (2, B)), (1, (2, L)), (2, (0, k)), (4, (0, j))] [] S' Q) (I := fun j S' => 0 ≤ j ∧ Md (MG1 B L) S2 S' ∧ PR S' L ∧ (∀ x, ¬ ((k + 1) * 16 ≤ x ∧ x < (k + 1) * 16 + 16) → zG S' (L + 1) x = zG S (L + 1) x) ∧ ∀ e i m, 0 ≤ e → e < j → 0 ≤ i → i < 4 → 0 ≤ m → m ≤ 20 → figS S' L (k + 1) e i m = nfF e de (grF p n e (cbB p n so (zG S (B + 8)) nil fr e) (cbP n so (zG S (B + 8)) nil fr e) de (figS S L k) (figS S' L (k + 1))) i m) 4 ?_ ?_ 0 S2 (by omega) ⟨by omega, Md.refl _ _, R2, fun x hx => by rw [m2.G (by omega), m1.G (by omega)], fun e i m e0 e1 => by omega⟩
        · rintro j S3 hj ⟨j0, m3, R3, o3, v3⟩ hk1
          have mm3 : Md (MGr B L) S S3 := mm2.tr (m3.wide (fun x hx => by unfold MG1 at hx; unfold MGr; omega))
          have n3 : ∀ x, (x ≤ B + 9 ∨ (B + 11 < x ∧ x < B + 61) ∨ B + 61 < x) → x ≠ L + 1 → ¬ MG1 B L x := fun x h1 h2 => by unfold MG1; omega
          have e6 : zG S3 (B + 6) = so := funext fun x => by rw [m3.G (n3 _ (by omega) (by omega)), m2.G (by omega), hSO]
          have e7 : zG S3 (B + 7) = fr := funext fun x => by rw [m3.G (n3 _ (by omega) (by omega)), m2.G (by omega), hFR]
          have e8 : zG S3 (B + 8) = zG S (B + 8) := funext fun x => by rw [m3.G (n3 _ (by omega) (by omega)), m2.G (by omega), m1.G (by omega)]
          have e9 : zG S3 (B + 9) = nil := funext fun x => by rw [m3.G (n3 _ (by omega) (by omega)), m2.G (by omega), m1.G (by omega), hNI]
          have eL : ∀ i, zG S3 (L + 2) ((k + 1) * 4 + i) = de i := fun i => by rw [m3.G (n3 _ (by omega) (by omega)), dee]
          have eL' : (fun i => zG S3 (L + 2) ((k + 1) * 4 + i)) = de := funext eL
          have fk : fgE 4 (figS S3 L k) (figS S L k) := fun a b m a0 a1 b0 b1 => figS_out (o3 _ (by omega))
          apply w_Grower_grow_102
          refine ⟨fun hc => by omega, fun _ => ⟨(hGW mm3).1, ?_⟩⟩
          refine s_growOne (hGW mm3) (hGu2 mm3) (hHW mm3) (hHu mm3) hn hp7 (hPW mm3) R3 dL hk ⟨j0, hj⟩ (by rw [e8]; exact hnb) (fun r i r0 r1 i0 i1 => by rw [e6]; exact s1.2.1 r i r0 r1 i0 i1) (fun i i0 i1 => by rw [eL, ← dee]; exact d2 i i0 i1) (fun S4 m4 R4 o4 v4 => ⟨rfl, ?_⟩)
          rw [e6, e7, e8, e9, eL'] at v4
          rintro _ rfl
          rw [w32_id (by omega) (by omega)]
          have same : fgE j (figS S3 L (k + 1)) (figS S4 L (k + 1)) := fun a b m a0 a1 b0 b1 => (figS_out (o4 _ (by omega))).symm
          have deb : ∀ i, 0 ≤ i → i < 4 → de i ≤ 20 := fun i i0 i1 => by rw [← dee]; exact (d2 i i0 i1).2
          refine hk1 _ ⟨by omega, m3.tr m4, R4, fun x hx => by rw [o4 x (by omega)]; exact o3 x hx, fun e i m e0 e1 i0 i1 m0 m1' => ?_⟩
          by_cases qe : e = j
          · rw [qe, v4 i m i0 i1 m0 m1']
            exact nfF_congr hj i0 m1' (grF_congr2 hn.2 ⟨j0, hj⟩ deb fk same)
          · rw [← same e i m e0 (by omega) i0 i1, v3 e i m e0 (by omega) i0 i1 m0 m1']
            exact nfF_congr (by omega) i0 m1' (grF_congr2 hn.2 ⟨e0, by omega⟩ deb (fun _ _ _ _ _ _ _ => rfl) (fun a b m a0 a1 b0 b1 => same a b m a0 (by omega) b0 b1))
        · rintro S3 ⟨-, m3, R3, o3, v3⟩
          have mm3 : Md (MGr B L) S S3 := mm2.tr (m3.wide (fun x hx => by unfold MG1 at hx; unfold MGr; omega))
          have n3 : ∀ x, (x ≤ B + 9 ∨ (B + 11 < x ∧ x < B + 61) ∨ B + 61 < x) → x ≠ L + 1 → ¬ MG1 B L x := fun x h1 h2 => by unfold MG1; omega
          have e6 : zG S3 (B + 6) = so := funext fun x => by rw [m3.G (n3 _ (by omega) (by omega)), m2.G (by omega), hSO]
          have e7 : zG S3 (B + 7) = fr := funext fun x => by rw [m3.G (n3 _ (by omega) (by omega)), m2.G (by omega), hFR]
          have eL : ∀ x, zG S3 (L + 2) x = zG S2 (L + 2) x := fun x => m3.G (n3 _ (by omega) (by omega)) x
          have eL' : (fun i => zG S3 (L + 2) ((k + 1) * 4 + i)) = de := funext fun i => by rw [eL, dee]
          have HH := H S3 E q mm3 e1 (by rw [e7, e6]; exact s1) (by rw [e7]; exact f1) (fun x x0 x1 => by rw [m3.G (n3 _ (by omega) (by omega)), m2.G (by omega)]; exact b1 x x0 x1) R3 o3 (fun x hx => by rw [eL]; exact o2 x hx)
          rw [e7, e6, eL'] at HH
          apply w_Grower_grow_102
          refine ⟨fun _ => ⟨Or.inr rfl, HH.2 (fun j j0 j1 => by rw [eL]; exact v2 j j0 j1) v3 (by rw [← ve]; exact hv)⟩, fun hc => absurd (Int.le_refl 4) hc⟩
    · have HH := H S1 E q mm1 e1 (by rw [hFR, hSO]; exact s1) (by rw [hFR]; exact f1) b1 (hR.keep m1 (by omega)) (fun x hx => m1.G (by omega) x) (fun x hx => m1.G (by omega) x)
      rw [hFR] at HH
      exact HH.1 (by rw [← ve]; exact Classical.not_not.mp hv)
