/-! Grower: what is spread out, as a sum of the basis. -/
/-- how often b_l is taken -/
def shE (dp : Int → Int) (Sp : Int → Int → Int) (l y : Int) : Int := if y < 0 then 0 else Sp l (y + (40 - dp l))
/-- what is left below when b_l is taken off -/
def exS (p : Int) (dp : Int → Int) (fig : Int → Int → Int → Int) (Sp : Int → Int → Int) (l : Int) : Int → Int → Int := fun i x => if 0 ≤ i ∧ i < l then (Sp i x + (-1) * sm 20 (fun m => fig l i (m + 1) * shE dp Sp l (x - (40 - (m + 1))))) % p else Sp i x
def exN (p n : Int) (dp : Int → Int) (fig : Int → Int → Int → Int) : Nat → (Int → Int → Int) → Int → Int → Int
  | 0, Sp => Sp
  | s + 1, Sp => exS p dp fig (exN p n dp fig s Sp) (n - 1 - s)
/-- it is a sum of the basis -/
def okE (p n : Int) (dp : Int → Int) (fig : Int → Int → Int → Int) (Sp : Int → Int → Int) : Prop := ∀ l, 0 ≤ l → l < n → ∀ e, 0 ≤ e → e < 40 - dp l → exN p n dp fig (n - 1 - l).toNat Sp l e = 0
def shN (p n : Int) (dp : Int → Int) (fig : Int → Int → Int → Int) (Sp : Int → Int → Int) : Int → Int → Int := fun l x => if 0 ≤ l ∧ l < n then shE dp (exN p n dp fig (n - 1 - l).toNat Sp) l x else 0
theorem exN_top {p n W : Int} {dp : Int → Int} {fig : Int → Int → Int → Int} {Sp : Int → Int → Int} (hdp : ∀ l, 0 ≤ l → l < n → 0 ≤ dp l ∧ dp l ≤ 20) (hW : ∀ i, 0 ≤ i → i < n → ∀ x, W < x → Sp i x = 0) : ∀ (s : Nat), (s : Int) ≤ n → ∀ i, 0 ≤ i → i < n → ∀ x, W + 20 * s < x → exN p n dp fig s Sp i x = 0
  | 0, _, i, i0, i1, x, hx => hW i i0 i1 x (by omega)
  | s + 1, hs, i, i0, i1, x, hx => by
    have ih := exN_top (p := p) (fig := fig) hdp hW s (by omega)
    show exS p dp fig (exN p n dp fig s Sp) (n - 1 - s) i x = 0
    unfold exS
    split
    · have hd := hdp (n - 1 - s) (by omega) (by omega)
      rw [ih i i0 i1 x (by omega), sm_zeros (fun m m0 m1 => ?_)]
      · exact Int.zero_emod p
      · unfold shE
        split
        · exact Int.mul_zero _
        · rw [ih (n - 1 - s) (by omega) (by omega) _ (by omega), Int.mul_zero]
    · exact ih i i0 i1 x (by omega)
set_option maxHeartbeats 4000000 in
theorem s_express {d : Nat} {B A L k n p W : Int} {S : Hp} {Sp : Int → Int → Int} {Q : Vl → Hp → Prop} (h : GW S B A) (hu : Gu S B n p) (hn : 2 ≤ n ∧ n ≤ 4) (hp : 2 ≤ p ∧ p ≤ 7) (hL : PW S L) (hR : PR S L) (hk : 0 ≤ k ∧ k < 19) (dL : L + 5 < B ∨ B + 61 < L) (hdp : ∀ l, 0 ≤ l → l < n → 0 ≤ zG S (L + 2) (k * 4 + l) ∧ zG S (L + 2) (k * 4 + l) ≤ 20) (hfg : ∀ l i m, 0 ≤ l → l < n → 0 ≤ i → i < n → figS S L k l i m < p) (hS : LAN S (B + 25) 4 (fun _ => 128) p Sp) (hW : ∀ i, 0 ≤ i → i < n → ∀ x, W < x → Sp i x = 0) (hW1 : -1 ≤ W ∧ W ≤ 60)
    (H1 : okE p n (fun l => zG S (L + 2) (k * 4 + l)) (figS S L k) Sp → ∀ S', Md (fun x => MA (B + 16) 4 x ∨ MA (B + 25) 4 x) S S' → GW S' B A → LAN S' (B + 16) 4 (fun _ => 128) p (shN p n (fun l => zG S (L + 2) (k * 4 + l)) (figS S L k) Sp) → Q (0, 1) S')
    (H0 : ¬ okE p n (fun l => zG S (L + 2) (k * 4 + l)) (figS S L k) Sp → ∀ S', Md (fun x => MA (B + 16) 4 x ∨ MA (B + 25) 4 x) S S' → GW S' B A → Q (0, 0) S') : Ev (d + 2) 33 [(2, B), (2, L), (0, k)] S Q := by
  generalize hdpe : (fun l => zG S (L + 2) (k * 4 + l)) = dp at *
  have dpe : ∀ l, zG S (L + 2) (k * 4 + l) = dp l := fun l => by rw [← hdpe]
  have hdp : ∀ l, 0 ≤ l → l < n → 0 ≤ dp l ∧ dp l ≤ 20 := fun l l0 l1 => by rw [← dpe]; exact hdp l l0 l1
  generalize hfge : figS S L k = fig at *
  have fge : ∀ l i m, figS S L k l i m = fig l i m := fun l i m => by rw [← hfge]
  have hfb : ∀ l i m, 0 ≤ l → l < n → 0 ≤ i → i < n → 0 ≤ fig l i m ∧ fig l i m < p := fun l i m l0 l1 i0 i1 => ⟨by rw [← fge]; exact (figS_bd _ _ _ _ _ _).1, hfg l i m l0 l1 i0 i1⟩
  have hT := exN_top (p := p) (n := n) (fig := fig) hdp hW
  apply w_Grower_express_0
  rw [h.2.2.1]
  refine ⟨h.1, s_zeroLines (p := p) h.2.2.2.2.2.2.2.2.2.1 (by omega) (by omega) (fun S1 m1 z1 => ⟨rfl, by rw [m1.K]; exact h.1, ?_⟩)⟩
  rw [m1.G (by unfold MA; omega), hu.1, w32_id (by omega) (by omega)]
  rintro _ rfl
  refine loopD (P := fun l S' => At (d + 2) 33 c33_14 [(0, (2, B)), (1, (2, L)), (2, (0, k)), (3, (0, l))] [] S' Q) (I := fun l S' => l ≤ n - 1 ∧ Md (fun x => MA (B + 16) 4 x ∨ MA (B + 25) 4 x) S S' ∧ GW S' B A ∧ LAN S' (B + 25) 4 (fun _ => 128) p (exN p n dp fig (n - 1 - l).toNat Sp) ∧ LAN S' (B + 16) 4 (fun _ => 128) p (fun j x => if l < j then shN p n dp fig Sp j x else 0) ∧ ∀ j, l < j → j < n → ∀ e, 0 ≤ e → e < 40 - dp j → exN p n dp fig (n - 1 - j).toNat Sp j e = 0) 0 ?_ ?_ (n - 1) S1 (by omega) ⟨by omega, m1.wide (fun x hx => Or.inl hx), h.r16 m1 z1.w, ?_, z1.congr fun j j0 j1 x => ?_, fun j j0 j1 => by omega⟩
  · rintro l S2 hl ⟨l1, lm, lw, lsp, lsh, lok⟩ hnext
    have nn : ∀ y, (y < B + 16 ∨ B + 33 < y ∨ y = B + 16 ∨ y = B + 25) → ¬ (MA (B + 16) 4 y ∨ MA (B + 25) 4 y) := fun y hy => by unfold MA; omega
    have L2 : ∀ {S' : Hp}, Md (fun x => MA (B + 16) 4 x ∨ MA (B + 25) 4 x) S S' → PW S' L ∧ PR S' L ∧ (∀ j, zG S' (L + 2) (k * 4 + j) = dp j) ∧ (∀ j i m, figS S' L k j i m = fig j i m) ∧ zG S' B 9 = p := fun hm => ⟨hL.keep hm (nn _ (by omega)), hR.keep hm (nn _ (by omega)), fun j => by rw [hm.G (nn _ (by omega))]; exact dpe j, fun j i m => by rw [figS_keep hm (nn _ (by omega))]; exact fge j i m, by rw [hm.G (nn _ (by omega))]; exact hu.2⟩
    have hdl := hdp l hl (by omega)
    generalize hE : exN p n dp fig (n - 1 - l).toNat Sp = V at *
    have hVt : ∀ i, 0 ≤ i → i < n → ∀ x, W + 20 * (n - 1 - l) < x → V i x = 0 := fun i i0 i1 x hx => by rw [← hE]; exact hT _ (by omega) i i0 i1 x (by omega)
    have hEnext : exN p n dp fig (n - 1 - (l - 1)).toNat Sp = exS p dp fig V l := by
      rw [show (n - 1 - (l - 1)).toNat = (n - 1 - l).toNat + 1 by omega]
      show exS p dp fig (exN p n dp fig (n - 1 - l).toNat Sp) (n - 1 - ((n - 1 - l).toNat : Int)) = _
      rw [hE, show n - 1 - ((n - 1 - l).toNat : Int) = l by omega]
    apply w_Grower_express_14
    refine ⟨fun hc => by omega, fun _ => ⟨(L2 lm).1.1, s_deep (L2 lm).1 hk ⟨hl, by omega⟩ ⟨_, rfl, ?_⟩⟩⟩
    rw [(L2 lm).2.2.1 l, w32_id (by omega) (by omega)]
    rintro _ rfl
    refine loopU (α := Unit) (P := fun e _ => At (d + 2) 33 c33_32 [(0, (2, B)), (1, (2, L)), (2, (0, k)), (3, (0, l)), (4, (0, 40 - dp l)), (5, (0, e))] [] S2 Q) (I := fun e _ => 0 ≤ e ∧ ∀ x, 0 ≤ x → x < e → V l x = 0) (40 - dp l) ?_ ?_ 0 () (by omega) ⟨by omega, fun x x0 x1 => by omega⟩
    · rintro e _ he ⟨e0, ez⟩ hk2
      apply w_Grower_express_32
      rw [lw.2.2.2.1, lsp.ptr hl (by omega)]
      refine ⟨fun hc => by omega, fun _ => ⟨lw.1, ⟨lsp.1, hl, by rw [lsp.2.1]; omega⟩, (lsp.at hl (by omega)).ln.1, n_number (lsp.at hl (by omega)) ⟨_, rfl, fun hz => ?_, fun hz => ⟨Or.inl rfl, H0 (fun z => hz ?_) S2 lm lw⟩⟩⟩⟩
      · rintro _ rfl
        rw [w32_id (by omega) (by omega)]
        refine hk2 () ⟨by omega, fun x x0 x1 => ?_⟩
        by_cases q : x = e
        · rw [q]
          exact hz
        · exact ez x x0 (by omega)
      · have := z l hl (by omega) e e0 he
        rw [hE] at this
        exact this
    · rintro _ ⟨e0, ez⟩
      have lneg := (lsp.at hl (show l < 4 by omega)).neg
      have lbd := (lsp.at hl (show l < 4 by omega)).bd
      obtain ⟨u, u1, u2, u3⟩ := (lsp.at hl (show l < 4 by omega)).deg (hVt l hl (by omega)) (by omega)
      have shl0 := lsh.at hl (show l < 4 by omega)
      obtain ⟨t, t1, t2, -⟩ := shl0
      have t1 : LI S2 (B + 16 + 1 + 2 * l) 128 t (fun _ => 0) := t1.congr fun x => by rw [if_neg (by omega)]
      have ht : t = -1 := by
        by_cases q : 0 ≤ t
        · exact absurd (if_neg (by omega)) (t2 q)
        · have := t1.2.2.1
          omega
      apply w_Grower_express_32
      rw [lw.2.2.2.1, lw.2.2.1, lsp.ptr hl (by omega), lsh.ptr hl (by omega), w32_id (x := -(40 - dp l)) (by omega) (by omega)]
      refine ⟨fun _ => ⟨lw.1, ⟨lsh.1, hl, by rw [lsh.2.1]; omega⟩, lw.1, ⟨lsp.1, hl, by rw [lsp.2.1]; omega⟩, t1.1.1, ?_⟩, fun hc => absurd (by omega) hc⟩
      refine s_add (n := 128) t1 u1 (by omega) (fun x => by have := lbd x; omega) (fun x => by omega) (by omega) (by omega) (fun S3 m3 l3 => ⟨rfl, ?_⟩)
      have hshE : ∀ x, (if x < 0 then 0 else 0 + 1 * V l (x - -(40 - dp l))) = shE dp V l x := fun x => by
        unfold shE
        by_cases q : x < 0
        · rw [if_pos q, if_pos q]
        · rw [if_neg q, if_neg q, show x - -(40 - dp l) = x + (40 - dp l) by omega]
          omega
      have sh3 : LN S3 (B + 16 + 1 + 2 * l) 128 p (shE dp V l) := by
        refine ⟨_, l3.congr hshE, fun q => ?_, fun x => ?_⟩
        · rw [ht] at q ⊢
          by_cases qu : u < 0
          · rw [if_pos qu] at q
            omega
          · rw [if_neg qu] at q ⊢
            unfold shE
            rw [if_neg (by omega), show max (-1) (u + -(40 - dp l)) + (40 - dp l) = u by omega]
            exact u2 (by omega)
        · unfold shE
          split
          · omega
          · exact lbd _
      have m3w : Md (MA (B + 16) 4) S2 S3 := m3.wide (fun x hx => by unfold ML at hx; unfold MA; omega)
      have mm3 : Md (fun x => MA (B + 16) 4 x ∨ MA (B + 25) 4 x) S S3 := lm.tr (m3w.wide (fun x hx => Or.inl hx))
      have lsh3 : LAN S3 (B + 16) 4 (fun _ => 128) p (fun j x => if l - 1 < j then shN p n dp fig Sp j x else 0) := (lsh.set m3 hl (by omega) sh3).congr fun j j0 j1 x => by
        by_cases q : j = l
        · rw [if_pos q, if_pos (by omega), q]
          unfold shN
          rw [if_pos (by omega), hE]
        · rw [if_neg q]
          by_cases q2 : l < j
          · rw [if_pos q2, if_pos (by omega)]
          · rw [if_neg q2, if_neg (by omega)]
      have lw3 : GW S3 B A := lw.r16 m3w lsh3.w
      have lsp3 : LAN S3 (B + 25) 4 (fun _ => 128) p V := lsp.keep m3w (fun x x1 x2 => by unfold MA; omega) (by omega)
      have hshb : ∀ y, 0 ≤ shE dp V l y ∧ shE dp V l y < p := sh3.bd
      have hshn := sh3.neg
      have hsht : ∀ y, W + 20 * (n - 1 - l) - (40 - dp l) < y → shE dp V l y = 0 := fun y hy => by
        unfold shE
        split
        · rfl
        · exact hVt l hl (by omega) _ (by omega)
      refine loopU (P := fun i S' => At (d + 2) 33 c33_83 [(0, (2, B)), (1, (2, L)), (2, (0, k)), (3, (0, l)), (5, (0, i))] [] S' Q) (I := fun i S' => 0 ≤ i ∧ Md (MA (B + 25) 4) S3 S' ∧ LAN S' (B + 25) 4 (fun _ => 128) p (fun j => if j < i then exS p dp fig V l j else V j)) l ?_ ?_ 0 S3 (by omega) ⟨by omega, Md.refl _ _, lsp3.congr fun j j0 j1 x => by rw [if_neg (by omega)]⟩
      · rintro i S4 hi ⟨i0, im, isp⟩ hk3
        have mm4 : Md (fun x => MA (B + 16) 4 x ∨ MA (B + 25) 4 x) S S4 := mm3.tr (im.wide (fun x hx => Or.inr hx))
        have li4 := isp.at i0 (show i < 4 by omega)
        rw [if_neg (show ¬ i < i by omega)] at li4
        have ibd := li4.bd
        obtain ⟨v0, v1, -, -⟩ := li4
        apply w_Grower_express_83
        refine ⟨fun hc => by omega, fun _ => ?_⟩
        -- the settling of spread i
        have fin : ∀ S5 t5, Md (ML (B + 25 + 1 + 2 * i)) S4 S5 → LI S5 (B + 25 + 1 + 2 * i) 128 t5 (fun x => V i x + (-1) * sm 20 (fun q => fig l i (q + 1) * shE dp V l (x - (40 - (q + 1))))) → At (d + 2) 33 c33_157 [(0, (2, B)), (1, (2, L)), (2, (0, k)), (3, (0, l)), (5, (0, i))] [] S5 Q := by
          intro S5 t5 m5 l5
          have mm5 : Md (fun x => MA (B + 16) 4 x ∨ MA (B + 25) 4 x) S S5 := mm4.tr (m5.wide (fun x hx => by unfold ML at hx; unfold MA; omega))
          have e2 : zG S5 B 2 = B + 25 := by rw [mm5.G (nn _ (by omega))]; exact h.2.2.2.1
          have e3 : zG S5 (B + 25) i = B + 25 + 1 + 2 * i := by rw [m5.G (by unfold ML; omega)]; exact isp.ptr i0 (by omega)
          apply w_Grower_express_157
          rw [e2, e3, (L2 mm5).2.2.2.2]
          refine ⟨by rw [mm5.K]; exact h.1, ⟨by rw [m5.K]; exact isp.1, i0, by rw [m5.L, isp.2.1]; omega⟩, by rw [mm5.K]; exact h.1, l5.1.1, n_settle l5 (by omega) (fun S6 m6 l6 => ⟨rfl, ?_⟩)⟩
          rintro _ rfl
          rw [w32_id (by omega) (by omega)]
          refine hk3 _ ⟨by omega, im.tr ((m5.tr m6).wide (fun x hx => by unfold ML at hx; unfold MA; omega)), (isp.set (m5.tr m6) i0 (by omega) l6).congr fun j j0 j1 x => ?_⟩
          by_cases q : j = i
          · rw [if_pos q, if_pos (show j < i + 1 by omega), q]
            unfold exS
            rw [if_pos (by omega)]
          · rw [if_neg q]
            by_cases q2 : j < i
            · rw [if_pos q2, if_pos (by omega)]
            · rw [if_neg q2, if_neg (by omega)]
        refine loopU (P := fun m S' => At (d + 2) 33 c33_92 [(0, (2, B)), (1, (2, L)), (2, (0, k)), (3, (0, l)), (5, (0, i)), (6, (0, m))] [] S' Q) (I := fun m S' => 1 ≤ m ∧ Md (ML (B + 25 + 1 + 2 * i)) S4 S' ∧ ∃ t, LI S' (B + 25 + 1 + 2 * i) 128 t (fun x => V i x + (-1) * sm (m - 1).toNat (fun q => fig l i (q + 1) * shE dp V l (x - (40 - (q + 1)))))) 21 ?_ ?_ 1 S4 (by omega) ⟨by omega, Md.refl _ _, v0, v1.congr fun x => by rw [show ((1 : Int) - 1).toNat = 0 by omega, sm_zero]; omega⟩
        · rintro m S5 hm ⟨m0, mm, t5, l5⟩ hk4
          have mm5 : Md (fun x => MA (B + 16) 4 x ∨ MA (B + 25) 4 x) S S5 := mm4.tr (mm.wide (fun x hx => by unfold ML at hx; unfold MA; omega))
          have e1 : zG S5 B 1 = B + 16 := by rw [mm5.G (nn _ (by omega))]; exact h.2.2.1
          have e2 : zG S5 B 2 = B + 25 := by rw [mm5.G (nn _ (by omega))]; exact h.2.2.2.1
          have e3 : zG S5 (B + 25) i = B + 25 + 1 + 2 * i := by rw [mm.G (by unfold ML; omega)]; exact isp.ptr i0 (by omega)
          have sh5 : LN S5 (B + 16 + 1 + 2 * l) 128 p (shE dp V l) := (sh3.keep im (by unfold MA; omega) (by unfold MA; omega)).keep mm (by unfold ML; omega) (by unfold ML; omega)
          have lsh5 := ((lsh3.keep im (fun x x1 x2 => by unfold MA; omega) (by omega)).keep mm (fun x x1 x2 => by unfold ML; omega) (by omega))
          have st : ∀ x, sm (m + 1 - 1).toNat (fun q => fig l i (q + 1) * shE dp V l (x - (40 - (q + 1)))) = sm (m - 1).toNat (fun q => fig l i (q + 1) * shE dp V l (x - (40 - (q + 1)))) + fig l i m * shE dp V l (x - (40 - m)) := fun x => by
            rw [show (m + 1 - 1).toNat = (m - 1).toNat + 1 by omega, sm_succ, show (((m - 1).toNat : Nat) : Int) = m - 1 by omega, show m - 1 + 1 = m by omega]
          have go : ∀ S6 t6, Md (ML (B + 25 + 1 + 2 * i)) S4 S6 → LI S6 (B + 25 + 1 + 2 * i) 128 t6 (fun x => V i x + (-1) * sm (m + 1 - 1).toNat (fun q => fig l i (q + 1) * shE dp V l (x - (40 - (q + 1))))) → At (d + 2) 33 c33_151 [(0, (2, B)), (1, (2, L)), (2, (0, k)), (3, (0, l)), (5, (0, i)), (6, (0, m))] [] S6 Q := by
            intro S6 t6 m6 l6
            apply w_Grower_express_151
            rintro _ rfl
            rw [w32_id (by omega) (by omega)]
            exact hk4 _ ⟨by omega, m6, t6, l6⟩
          apply w_Grower_express_92
          refine ⟨(L2 mm5).1.1, s_hasFigures (L2 mm5).1 hk ⟨hl, by omega⟩ ⟨i0, by omega⟩ ⟨_, rfl, fun hc => ?_, fun hc => ⟨(L2 mm5).1.1, s_figure (L2 mm5).1 (L2 mm5).2.1 hk ⟨hl, by omega⟩ ⟨i0, by omega⟩ ⟨_, rfl, fun hz => ?_, fun hz => ?_⟩⟩⟩⟩
          · have hpk : zG S5 (L + 1) ((k * 4 + l) * 4 + i) = 0 := by
              rcases hc with hc | hc
              · by_cases q : zG S5 (L + 1) ((k * 4 + l) * 4 + i) = 0
                · exact q
                · rw [if_neg q] at hc
                  omega
              · omega
            have hf0 : ∀ q, fig l i q = 0 := fun q => by
              rw [← (L2 mm5).2.2.2.1]
              unfold figS
              split
              · rfl
              · rw [hpk]
                exact fg_zero q
            refine fin S5 t5 mm (l5.congr fun x => ?_)
            rw [sm_zeros (fun q q0 q1 => by rw [hf0, Int.zero_mul]), sm_zeros (fun q q0 q1 => by rw [hf0, Int.zero_mul])]
          · rw [(L2 mm5).2.2.2.1] at hz
            refine go S5 t5 mm (l5.congr fun x => ?_)
            rw [st, hz]
            omega
          · rw [(L2 mm5).2.2.2.1] at hz ⊢
            rw [e2, e3, e1, lsh5.ptr hl (by omega), w32_id (x := 40 - m) (by omega) (by omega)]
            have fb := hfb l i m hl (by omega) i0 (by omega)
            rw [w32_id (x := -fig l i m) (by omega) (by omega)]
            refine ⟨by rw [mm5.K]; exact h.1, ⟨by rw [mm.K]; exact isp.1, i0, by rw [mm.L, isp.2.1]; omega⟩, by rw [mm5.K]; exact h.1, ⟨lsh5.1, hl, by rw [lsh5.2.1]; omega⟩, l5.1.1, ?_⟩
            obtain ⟨w9, w1, w2, w3⟩ := sh5.deg (D := max (-1) (W + 20 * (n - 1 - l) - (40 - dp l))) (fun y hy => hsht y (by omega)) (by omega)
            have mb : ∀ y, -100 ≤ fig l i m * shE dp V l y ∧ fig l i m * shE dp V l y ≤ 100 := fun y => by
              have := mul_b (x := fig l i m) (y := shE dp V l y) (by omega) (by have := hshb y; omega)
              omega
            refine s_add (n := 128) l5 w1 (by omega) (fun y => by have := mb y; rw [Int.neg_mul]; omega) (fun y => ?_) (by omega) (by omega) (fun S6 m6 l6 => ⟨rfl, go S6 _ (mm.tr m6) (l6.congr fun x => ?_)⟩)
            · have b0 := ibd y
              have b1 := sm_le (n := (m - 1).toNat) (f := fun q => fig l i (q + 1) * shE dp V l (y - (40 - (q + 1)))) (B := 100) (fun q q0 q1 => (mul_b (x := fig l i (q + 1)) (by have := hfb l i (q + 1) hl (by omega) i0 (by omega); omega) (by have := hshb (y - (40 - (q + 1))); omega)).2)
              have b2 := sm_ge (n := (m - 1).toNat) (f := fun q => fig l i (q + 1) * shE dp V l (y - (40 - (q + 1)))) (B := 0) (fun q q0 q1 => by have := (mul_b (x := fig l i (q + 1)) (y := shE dp V l (y - (40 - (q + 1)))) (by have := hfb l i (q + 1) hl (by omega) i0 (by omega); omega) (by have := hshb (y - (40 - (q + 1))); omega)).1; omega)
              (try dsimp only)
              omega
            · (try dsimp only)
              rw [st]
              by_cases hx : x < 0
              · rw [if_pos hx, hshn (x - (40 - m)) (by omega), Int.mul_zero]
                have := l5.2.2.2.2.2.2 x hx
                (try dsimp only at this)
                omega
              · rw [if_neg hx]
                have e : -fig l i m * shE dp V l (x - (40 - m)) = -(fig l i m * shE dp V l (x - (40 - m))) := Int.neg_mul _ _
                rw [e]
                omega
        · rintro S5 ⟨m0, mm, t5, l5⟩
          have mm5 : Md (fun x => MA (B + 16) 4 x ∨ MA (B + 25) 4 x) S S5 := mm4.tr (mm.wide (fun x hx => by unfold ML at hx; unfold MA; omega))
          apply w_Grower_express_92
          exact ⟨(L2 mm5).1.1, s_hasFigures (L2 mm5).1 hk ⟨hl, by omega⟩ ⟨i0, by omega⟩ ⟨_, rfl, fun _ => fin S5 t5 mm l5, fun hc => absurd (Or.inr (by omega)) hc⟩⟩
      · rintro S4 ⟨i0, im, isp⟩
        have mm4 : Md (fun x => MA (B + 16) 4 x ∨ MA (B + 25) 4 x) S S4 := mm3.tr (im.wide (fun x hx => Or.inr hx))
        apply w_Grower_express_83
        refine ⟨fun _ => ?_, fun hc => absurd (by omega) hc⟩
        rintro _ rfl
        rw [w32_id (by omega) (by omega)]
        refine hnext _ ⟨by omega, mm4, lw3.r25 im isp.w, ?_, lsh3.keep im (fun x x1 x2 => by unfold MA; omega) (by omega), fun j j0 j1 e h0 h1 => ?_⟩
        · rw [hEnext]
          refine isp.congr fun j j0 j1 x => ?_
          by_cases q : j < l
          · rw [if_pos q]
          · rw [if_neg q]
            unfold exS
            rw [if_neg (by omega)]
        · by_cases q : j = l
          · rw [q, hE]
            exact ez e h0 (by rw [q] at h1; exact h1)
          · exact lok j (by omega) j1 e h0 h1
  · rintro S2 ⟨l1, lm, lw, lsp, lsh, lok⟩
    apply w_Grower_express_14
    refine ⟨fun _ => ⟨Or.inr rfl, H1 (fun l l0 l1 => lok l (by omega) l1) S2 lm lw (lsh.congr fun j j0 j1 x => ?_)⟩, fun hc => absurd (show (0 : Int) - 1 < 0 by omega) hc⟩
    rw [if_pos (by omega)]
  · rw [show (n - 1 - (n - 1)).toNat = 0 by omega]
    exact hS.keep m1 (fun x x1 x2 => by unfold MA; omega) (by omega)
  · by_cases q : n - 1 < j
    · rw [if_pos q]
      unfold shN
      rw [if_neg (by omega)]
    · rw [if_neg q]
