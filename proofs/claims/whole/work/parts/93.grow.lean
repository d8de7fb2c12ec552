/-! Grower: one new b_j. -/
theorem PW.zR {S : Hp} {L a : Int} {f : Int → Int} (h : PW S L) (ha : a ≠ L) : PW (zR S a f) L := h.keep (Md.zR S a f) (fun e => ha e.symm)
theorem PR.zR {S : Hp} {L a : Int} {f : Int → Int} (h : PR S L) (ha : a ≠ L + 1) : PR (zR S a f) L := h.keep (Md.zR S a f) (fun e => ha e.symm)
theorem GW.zR61 {S : Hp} {B A : Int} {f : Int → Int} (h : GW S B A) : GW (zR S (B + 61) f) B A := h.keep (Md.zR S (B + 61) f) (fun x hx => by omega)
theorem Gu.zR61 {S : Hp} {B n p : Int} {f : Int → Int} (h : Gu S B n p) : Gu (zR S (B + 61) f) B n p := h.keep (Md.zR S (B + 61) f) (by omega)
abbrev adC (i l m x : Int) : Prop := 0 ≤ x ∧ x / 21 ≤ i ∧ 1 ≤ x % 21 ∧ (x / 21 < l ∨ (x / 21 = l ∧ x % 21 < m))
/-- the old b_i by t, bt times, and plain, pl times; as far as l, m -/
def adO (p bt pl : Int) (fig : Int → Int → Int) (g : Int → Int) (i l m : Int) : Int → Int := fun x => if adC i l m x then (g x + (bt * fig (x / 21) (x % 21 - 1) + pl * fig (x / 21) (x % 21))) % p else g x
theorem adO_1 {p bt pl i l m x : Int} {fig : Int → Int → Int} {g : Int → Int} (h : adC i l m x) : adO p bt pl fig g i l m x = (g x + (bt * fig (x / 21) (x % 21 - 1) + pl * fig (x / 21) (x % 21))) % p := if_pos h
theorem adO_0 {p bt pl i l m x : Int} {fig : Int → Int → Int} {g : Int → Int} (h : ¬ adC i l m x) : adO p bt pl fig g i l m x = g x := if_neg h
set_option maxHeartbeats 1000000 in
theorem s_addOld {d : Nat} {B A L n p k i : Int} {S : Hp} {Q : Vl → Hp → Prop} (h : GW S B A) (hu : Gu S B n p) (hG : HW S (B + 1)) (hn : 2 ≤ n ∧ n ≤ 4) (hp : 2 ≤ p ∧ p ≤ 7) (hL : PW S L) (hR : PR S L) (dL : L + 5 < B ∨ B + 61 < L) (hk : 0 ≤ k ∧ k < 19) (hi : 0 ≤ i ∧ i < n) (hg : ∀ x, 0 ≤ x → x < 84 → 0 ≤ zG S (B + 61) x ∧ zG S (B + 61) x < 10) (hb : 0 ≤ zG S (B + 10) i ∧ zG S (B + 10) i < 10) (hq : 0 ≤ zG S (B + 11) i ∧ zG S (B + 11) i < 10) (H : Q (3, 0) (zR S (B + 61) (adO p (zG S (B + 10) i) (zG S (B + 11) i) (figS S L k i) (zG S (B + 61)) i (i + 1) 1))) : Ev (d + 1) 36 [(2, B), (2, L), (0, k), (0, i)] S Q := by
  have fgb : ∀ l m, 0 ≤ figS S L k i l m ∧ figS S L k i l m < 10 := fun l m => by
    have := figS_bd S L k i l m
    omega
  have fgz : ∀ (f : Int → Int) l m, figS (zR S (B + 61) f) L k i l m = figS S L k i l m := fun f l m => figS_keep (Md.zR S (B + 61) f) (by omega) k i l m
  generalize hBT : zG S (B + 10) i = bt at *
  generalize hPL : zG S (B + 11) i = pl at *
  generalize hFG : figS S L k i = fig at *
  have fge : ∀ l m, figS S L k i l m = fig l m := fun l m => by rw [← hFG]
  apply w_Grower_addOld_0
  generalize hGR : zG S (B + 61) = g at *
  have e0 : S = zR S (B + 61) (adO p bt pl fig g i 0 1) := by
    conv => lhs; rw [← zR_self S (B + 61)]
    refine zR_congr _ _ fun x => ?_
    rw [hGR, adO_0 (by unfold adC; omega)]
  rw [e0]
  clear e0
  refine loopU (α := Unit) (P := fun l _ => At (d + 1) 36 c36_3 [(0, (2, B)), (1, (2, L)), (2, (0, k)), (3, (0, i)), (4, (0, l))] [] (zR S (B + 61) (adO p bt pl fig g i l 1)) Q) (I := fun l _ => 0 ≤ l) (i + 1) ?_ ?_ 0 () (by omega) (by omega)
  · rintro l _ hl l0 hk1
    have hl0 : 0 ≤ l := l0
    apply w_Grower_addOld_3
    refine ⟨fun hc => by omega, fun _ => ?_⟩
    refine loopU (α := Unit) (P := fun m _ => At (d + 1) 36 c36_12 [(0, (2, B)), (1, (2, L)), (2, (0, k)), (3, (0, i)), (4, (0, l)), (5, (0, m))] [] (zR S (B + 61) (adO p bt pl fig g i l m)) Q) (I := fun m _ => 1 ≤ m) 21 ?_ ?_ 1 () (by omega) (by omega)
    · rintro m _ hm m0 hk2
      have hm0 : 1 ≤ m := m0
      have h1 : GW (zR S (B + 61) (adO p bt pl fig g i l m)) B A := h.zR61
      have u1 : Gu (zR S (B + 61) (adO p bt pl fig g i l m)) B n p := hu.zR61
      have g1 : HW (zR S (B + 61) (adO p bt pl fig g i l m)) (B + 1) := hG.zR (by omega)
      have L1 : PW (zR S (B + 61) (adO p bt pl fig g i l m)) L := hL.zR (by omega)
      have R1 : PR (zR S (B + 61) (adO p bt pl fig g i l m)) L := hR.zR (by omega)
      have gx : adO p bt pl fig g i l m (21 * l + m) = g (21 * l + m) := adO_0 (by unfold adC; omega)
      have b1 := mul_b (x := bt) (y := fig l (m - 1)) hb (fgb l (m - 1))
      have b2 := mul_b (x := pl) (y := fig l m) hq (fgb l m)
      have b3 := hg (21 * l + m) (by omega) (by omega)
      have w8 : zG (zR S (B + 61) (adO p bt pl fig g i l m)) (B + 1) 8 = B + 10 := by rw [g1.f8]; omega
      have w9 : zG (zR S (B + 61) (adO p bt pl fig g i l m)) (B + 1) 9 = B + 11 := by rw [g1.f9]; omega
      have r8 : rowI (zR S (B + 61) (adO p bt pl fig g i l m)) (B + 10) 4 := by
        have := g1.r8
        rw [show B + 1 + 9 = B + 10 by omega] at this
        exact this
      have r9 : rowI (zR S (B + 61) (adO p bt pl fig g i l m)) (B + 11) 4 := by
        have := g1.r9
        rw [show B + 1 + 10 = B + 11 by omega] at this
        exact this
      apply w_Grower_addOld_12
      rw [h1.2.1, w8, zG_zR_ne _ (show B + 10 ≠ B + 61 by omega), hBT, w32_id (x := m - 1) (by omega) (by omega)]
      refine ⟨fun hc => by omega, fun _ => ⟨h1.1, g1.k, ⟨r8.1, hi.1, by rw [r8.2]; omega⟩, L1.1, s_figure L1 R1 hk ⟨hi.1, by omega⟩ ⟨hl0, by omega⟩ ⟨_, rfl, h1.1, ?_⟩⟩⟩
      rw [h1.2.1, w9, zG_zR_ne _ (show B + 11 ≠ B + 61 by omega), hPL]
      refine ⟨g1.k, ⟨r9.1, hi.1, by rw [r9.2]; omega⟩, L1.1, s_figure L1 R1 hk ⟨hi.1, by omega⟩ ⟨hl0, by omega⟩ ⟨_, rfl, ?_⟩⟩
      rw [fgz, fgz, w32_id (x := bt * fig l (m - 1)) (by omega) (by omega), w32_id (x := pl * fig l m) (by omega) (by omega), h1.2.2.2.2.2.2.2.1, u1.2, w32_id (x := 21 * l) (by omega) (by omega), w32_id (x := 21 * l + m) (by omega) (by omega), zG_zR_at, gx]
      rintro _ rfl
      rw [w32_id (x := bt * fig l (m - 1) + pl * fig l m) (by omega) (by omega), w32_id (x := g (21 * l + m) + (bt * fig l (m - 1) + pl * fig l m)) (by omega) (by omega), Int.tmod_eq_emod_of_nonneg (by omega)]
      have r6 := h1.2.2.2.2.2.2.2.2.2.2.2.2.2.2
      refine ⟨h1.1, h1.1, ⟨r6.1, by omega, by rw [r6.2]; omega⟩, h1.1, by omega, ⟨r6.1, by omega, by rw [r6.2]; omega⟩, ?_⟩
      rintro _ rfl _ rfl
      rw [w32_id (by omega) (by omega), zS_zR]
      have e : ∀ x, (if x = 21 * l + m then (g (21 * l + m) + (bt * fig l (m - 1) + pl * fig l m)) % p else adO p bt pl fig g i l m x) = adO p bt pl fig g i l (m + 1) x := fun x => by
        by_cases q : x = 21 * l + m
        · have q1 : x / 21 = l := by omega
          have q2 : x % 21 = m := by omega
          rw [if_pos q, adO_1 (show adC i l (m + 1) x by unfold adC; omega), q1, q2, q]
        · rw [if_neg q]
          by_cases q1 : adC i l m x
          · rw [adO_1 q1, adO_1 (show adC i l (m + 1) x by unfold adC at *; omega)]
          · rw [adO_0 q1, adO_0 (show ¬ adC i l (m + 1) x by unfold adC at *; omega)]
      rw [zR_congr _ _ e]
      exact hk2 () (by omega)
    · rintro _ -
      apply w_Grower_addOld_12
      refine ⟨fun _ => ?_, fun hc => absurd (show (20 : Int) < 21 by omega) hc⟩
      rintro _ rfl
      rw [w32_id (by omega) (by omega)]
      have e : ∀ x, adO p bt pl fig g i l 21 x = adO p bt pl fig g i (l + 1) 1 x := fun x => by
        by_cases q1 : adC i l 21 x
        · rw [adO_1 q1, adO_1 (show adC i (l + 1) 1 x by unfold adC at *; omega)]
        · rw [adO_0 q1, adO_0 (show ¬ adC i (l + 1) 1 x by unfold adC at *; omega)]
      rw [zR_congr _ _ e]
      exact hk1 () (by omega)
  · rintro _ -
    apply w_Grower_addOld_3
    exact ⟨fun _ => H, fun hc => absurd (show i < i + 1 by omega) hc⟩
abbrev tkC (dp i m t l r x : Int) : Prop := t ≠ 0 ∧ 0 ≤ x ∧ x / 21 < i ∧ 1 ≤ x % 21 ∧ x % 21 + dp - m ≤ 20 ∧ (x / 21 < l ∨ (x / 21 = l ∧ x % 21 < r))
/-- b_i taken off where it stands by t^m; as far as l, r -/
def tkS (p dp : Int) (fig : Int → Int → Int) (i m : Int) (g : Int → Int) (l r : Int) : Int → Int := fun x => if x = 21 * i + m then 0 else if tkC dp i m (g (21 * i + m)) l r x then (g x + (p - g (21 * i + m)) * fig (x / 21) (x % 21 + dp - m)) % p else g x
theorem tkS_at {p dp i m l r : Int} {fig : Int → Int → Int} {g : Int → Int} : tkS p dp fig i m g l r (21 * i + m) = 0 := if_pos rfl
theorem tkS_1 {p dp i m l r x : Int} {fig : Int → Int → Int} {g : Int → Int} (h0 : x ≠ 21 * i + m) (h : tkC dp i m (g (21 * i + m)) l r x) : tkS p dp fig i m g l r x = (g x + (p - g (21 * i + m)) * fig (x / 21) (x % 21 + dp - m)) % p := (if_neg h0).trans (if_pos h)
theorem tkS_0 {p dp i m l r x : Int} {fig : Int → Int → Int} {g : Int → Int} (h0 : x ≠ 21 * i + m) (h : ¬ tkC dp i m (g (21 * i + m)) l r x) : tkS p dp fig i m g l r x = g x := (if_neg h0).trans (if_neg h)
def tkN (p dp : Int) (fig : Int → Int → Int) (i : Int) (g : Int → Int) : Nat → Int → Int
  | 0 => g
  | s + 1 => tkS p dp fig i (s + 1) (tkN p dp fig i g s) i 1
theorem tkS_bd {p dp i m l r : Int} {fig : Int → Int → Int} {g : Int → Int} (hp : 2 ≤ p) (x : Int) (hg : 0 ≤ g x ∧ g x < p) : 0 ≤ tkS p dp fig i m g l r x ∧ tkS p dp fig i m g l r x < p := by
  unfold tkS
  split
  · omega
  · split
    · exact ⟨Int.emod_nonneg _ (by omega), Int.emod_lt_of_pos _ (by omega)⟩
    · exact hg
theorem tkN_bd {p dp i : Int} {fig : Int → Int → Int} {g : Int → Int} (hp : 2 ≤ p) (x : Int) (hg : 0 ≤ g x ∧ g x < p) : ∀ s, 0 ≤ tkN p dp fig i g s x ∧ tkN p dp fig i g s x < p
  | 0 => hg
  | s + 1 => tkS_bd hp x (tkN_bd hp x hg s)
set_option maxHeartbeats 1000000 in
theorem s_takeOff {d : Nat} {B A L n p k i : Int} {S : Hp} {Q : Vl → Hp → Prop} (h : GW S B A) (hu : Gu S B n p) (hp : 2 ≤ p ∧ p ≤ 7) (hL : PW S L) (hR : PR S L) (dL : L + 5 < B ∨ B + 61 < L) (hk : 0 ≤ k ∧ k < 19) (hi : 0 ≤ i ∧ i < 4) (hg : ∀ x, 0 ≤ x → x < 84 → 0 ≤ zG S (B + 61) x ∧ zG S (B + 61) x < p) (hdp : 0 ≤ zG S (L + 2) (k * 4 + i) ∧ zG S (L + 2) (k * 4 + i) ≤ 20) (H : Q (3, 0) (zR S (B + 61) (tkN p (zG S (L + 2) (k * 4 + i)) (figS S L k i) i (zG S (B + 61)) (zG S (L + 2) (k * 4 + i)).toNat))) : Ev (d + 1) 37 [(2, B), (2, L), (0, k), (0, i)] S Q := by
  have fgb : ∀ l m, 0 ≤ figS S L k i l m ∧ figS S L k i l m < 10 := fun l m => by
    have := figS_bd S L k i l m
    omega
  have fgz : ∀ (f : Int → Int) l m, figS (zR S (B + 61) f) L k i l m = figS S L k i l m := fun f l m => figS_keep (Md.zR S (B + 61) f) (by omega) k i l m
  apply w_Grower_takeOff_0
  refine ⟨hL.1, s_deep hL hk hi ⟨_, rfl, ?_⟩⟩
  generalize hDP : zG S (L + 2) (k * 4 + i) = dp at *
  generalize hFG : figS S L k i = fig at *
  have fge : ∀ l m, figS S L k i l m = fig l m := fun l m => by rw [← hFG]
  generalize hGR : zG S (B + 61) = g0 at *
  have e0 : S = zR S (B + 61) (tkN p dp fig i g0 ((1 : Int) - 1).toNat) := by
    conv => lhs; rw [← zR_self S (B + 61)]
    refine zR_congr _ _ fun x => ?_
    rw [hGR]
    rfl
  rw [e0]
  clear e0
  refine loopU (α := Unit) (P := fun m _ => At (d + 1) 37 c37_11 [(0, (2, B)), (1, (2, L)), (2, (0, k)), (3, (0, i)), (4, (0, dp)), (5, (0, m))] [] (zR S (B + 61) (tkN p dp fig i g0 (m - 1).toNat)) Q) (I := fun m _ => 1 ≤ m) (dp + 1) ?_ ?_ 1 () (by omega) (by omega)
  · rintro m _ hm m0 hk1
    have hm0 : 1 ≤ m := m0
    have hgb : ∀ x, 0 ≤ x → x < 84 → 0 ≤ tkN p dp fig i g0 (m - 1).toNat x ∧ tkN p dp fig i g0 (m - 1).toNat x < p := fun x x0 x1 => tkN_bd hp.1 x (hg x x0 x1) _
    have enx : tkN p dp fig i g0 (m + 1 - 1).toNat = tkS p dp fig i m (tkN p dp fig i g0 (m - 1).toNat) i 1 := by
      rw [show (m + 1 - 1).toNat = (m - 1).toNat + 1 by omega]
      show tkS p dp fig i (((m - 1).toNat : Int) + 1) (tkN p dp fig i g0 (m - 1).toNat) i 1 = _
      rw [show ((m - 1).toNat : Int) + 1 = m by omega]
    have hk1 := hk1 () (show 1 ≤ m + 1 by omega)
    rw [enx] at hk1
    clear enx
    generalize tkN p dp fig i g0 (m - 1).toNat = g at *
    have h1 : GW (zR S (B + 61) g) B A := h.zR61
    have r6 := h1.2.2.2.2.2.2.2.2.2.2.2.2.2.2
    have gt := hgb (21 * i + m) (by omega) (by omega)
    apply w_Grower_takeOff_11
    rw [h1.2.2.2.2.2.2.2.1, w32_id (x := 21 * i) (by omega) (by omega), w32_id (x := 21 * i + m) (by omega) (by omega), zG_zR_at]
    refine ⟨fun hc => by omega, fun _ => ⟨h1.1, ⟨r6.1, by omega, by rw [r6.2]; omega⟩, ?_⟩⟩
    intro x1 hx1
    rw [hx1]
    clear hx1 x1
    refine ⟨h1.1, ⟨r6.1, by omega, by rw [r6.2]; omega⟩, ?_⟩
    rintro _ rfl
    rw [zS_zR]
    have e1 : ∀ x, (if x = 21 * i + m then 0 else g x) = tkS p dp fig i m g 0 1 x := fun x => by
      by_cases q : x = 21 * i + m
      · rw [if_pos q, q, tkS_at]
      · rw [if_neg q, tkS_0 q (by unfold tkC; omega)]
    rw [zR_congr _ _ e1]
    clear e1
    have next : At (d + 1) 37 c37_147 [(0, (2, B)), (1, (2, L)), (2, (0, k)), (3, (0, i)), (4, (0, dp)), (5, (0, m))] [] (zR S (B + 61) (tkS p dp fig i m g i 1)) Q := by
      apply w_Grower_takeOff_147
      rintro _ rfl
      rw [w32_id (by omega) (by omega)]
      exact hk1
    by_cases hz : g (21 * i + m) = 0
    · apply w_Grower_takeOff_48
      refine ⟨fun _ => ?_, fun hc => absurd (Or.inl hz) hc⟩
      have e : ∀ x, tkS p dp fig i m g 0 1 x = tkS p dp fig i m g i 1 x := fun x => by
        by_cases q : x = 21 * i + m
        · rw [q, tkS_at, tkS_at]
        · rw [tkS_0 q (fun z => z.1 hz), tkS_0 q (fun z => z.1 hz)]
      rw [zR_congr _ _ e]
      exact next
    · refine loopU (α := Unit) (P := fun l _ => At (d + 1) 37 c37_48 [(0, (2, B)), (1, (2, L)), (2, (0, k)), (3, (0, i)), (4, (0, dp)), (5, (0, m)), (6, (0, g (21 * i + m))), (7, (0, l))] [] (zR S (B + 61) (tkS p dp fig i m g l 1)) Q) (I := fun l _ => 0 ≤ l) i ?_ ?_ 0 () (by omega) (by omega)
      · rintro l _ hl l0 hk2
        have hl0 : 0 ≤ l := l0
        apply w_Grower_takeOff_48
        refine ⟨fun hc => by omega, fun _ => ?_⟩
        refine loopU (α := Unit) (P := fun r _ => At (d + 1) 37 c37_62 [(0, (2, B)), (1, (2, L)), (2, (0, k)), (3, (0, i)), (4, (0, dp)), (5, (0, m)), (6, (0, g (21 * i + m))), (7, (0, l)), (8, (0, r))] [] (zR S (B + 61) (tkS p dp fig i m g l r)) Q) (I := fun r _ => 1 ≤ r) (21 - dp + m) ?_ ?_ 1 () (by omega) (by omega)
        · rintro r _ hr r0 hk3
          have hr0 : 1 ≤ r := r0
          have h3 : GW (zR S (B + 61) (tkS p dp fig i m g l r)) B A := h.zR61
          have u3 : Gu (zR S (B + 61) (tkS p dp fig i m g l r)) B n p := hu.zR61
          have L3 : PW (zR S (B + 61) (tkS p dp fig i m g l r)) L := hL.zR (by omega)
          have R3 : PR (zR S (B + 61) (tkS p dp fig i m g l r)) L := hR.zR (by omega)
          have r63 := h3.2.2.2.2.2.2.2.2.2.2.2.2.2.2
          have gx : tkS p dp fig i m g l r (21 * l + r) = g (21 * l + r) := tkS_0 (by omega) (fun z => by have := z.2.2.2.2.2; omega)
          have b1 := hgb (21 * l + r) (by omega) (by omega)
          have b2 := mul_b (x := p - g (21 * i + m)) (y := fig l (r + dp - m)) (by omega) (fgb l _)
          apply w_Grower_takeOff_62
          rw [w32_id (x := r + dp) (by omega) (by omega), w32_id (x := r + dp - m) (by omega) (by omega)]
          refine ⟨fun hc => by omega, fun _ => ⟨L3.1, s_figure L3 R3 hk hi ⟨hl0, by omega⟩ ⟨_, rfl, h3.1, h3.1, ?_⟩⟩⟩
          rw [fgz, h3.2.2.2.2.2.2.2.1, u3.2, w32_id (x := 21 * l) (by omega) (by omega), w32_id (x := 21 * l + r) (by omega) (by omega), zG_zR_at, gx, w32_id (x := p - g (21 * i + m)) (by omega) (by omega), w32_id (x := (p - g (21 * i + m)) * fig l (r + dp - m)) (by omega) (by omega), w32_id (x := g (21 * l + r) + (p - g (21 * i + m)) * fig l (r + dp - m)) (by omega) (by omega), Int.tmod_eq_emod_of_nonneg (by omega)]
          refine ⟨⟨r63.1, by omega, by rw [r63.2]; omega⟩, h3.1, h3.1, by omega, ⟨r63.1, by omega, by rw [r63.2]; omega⟩, ?_⟩
          rintro _ rfl _ rfl
          rw [w32_id (by omega) (by omega), zS_zR]
          have e : ∀ x, (if x = 21 * l + r then (g (21 * l + r) + (p - g (21 * i + m)) * fig l (r + dp - m)) % p else tkS p dp fig i m g l r x) = tkS p dp fig i m g l (r + 1) x := fun x => by
            by_cases q : x = 21 * l + r
            · have q1 : x / 21 = l := by omega
              have q2 : x % 21 = r := by omega
              rw [if_pos q, tkS_1 (by omega) ⟨hz, by omega, by omega, by omega, by omega, by omega⟩, q1, q2, q]
            · rw [if_neg q]
              by_cases q0 : x = 21 * i + m
              · rw [q0, tkS_at, tkS_at]
              · by_cases q1 : tkC dp i m (g (21 * i + m)) l r x
                · rw [tkS_1 q0 q1, tkS_1 q0 ⟨q1.1, q1.2.1, q1.2.2.1, q1.2.2.2.1, q1.2.2.2.2.1, by have := q1.2.2.2.2.2; omega⟩]
                · rw [tkS_0 q0 q1, tkS_0 q0 (fun z => q1 ⟨z.1, z.2.1, z.2.2.1, z.2.2.2.1, z.2.2.2.2.1, by have := z.2.2.2.2.2; omega⟩)]
          rw [zR_congr _ _ e]
          exact hk3 () (by omega)
        · rintro _ -
          apply w_Grower_takeOff_62
          rw [w32_id (x := 21 - dp + m + dp) (by omega) (by omega), w32_id (x := 21 - dp + m + dp - m) (by omega) (by omega)]
          refine ⟨fun _ => ?_, fun hc => absurd (show (20 : Int) < 21 - dp + m + dp - m by omega) hc⟩
          rintro _ rfl
          rw [w32_id (by omega) (by omega)]
          have e : ∀ x, tkS p dp fig i m g l (21 - dp + m) x = tkS p dp fig i m g (l + 1) 1 x := fun x => by
            by_cases q0 : x = 21 * i + m
            · rw [q0, tkS_at, tkS_at]
            · by_cases q1 : tkC dp i m (g (21 * i + m)) l (21 - dp + m) x
              · rw [tkS_1 q0 q1, tkS_1 q0 ⟨q1.1, q1.2.1, q1.2.2.1, q1.2.2.2.1, q1.2.2.2.2.1, by have := q1.2.2.2.2.2; omega⟩]
              · rw [tkS_0 q0 q1, tkS_0 q0 (fun z => q1 ⟨z.1, z.2.1, z.2.2.1, z.2.2.2.1, z.2.2.2.2.1, by have := z.2.2.2.2.2; have := z.2.2.2.2.1; have := z.2.2.2.1; omega⟩)]
          rw [zR_congr _ _ e]
          exact hk2 () (by omega)
      · rintro _ -
        apply w_Grower_takeOff_48
        exact ⟨fun _ => next, fun hc => absurd (Or.inr (Int.le_refl i)) hc⟩
  · rintro _ -
    apply w_Grower_takeOff_11
    refine ⟨fun _ => ?_, fun hc => absurd (show dp < dp + 1 by omega) hc⟩
    rw [show dp + 1 - 1 = dp by omega]
    exact H
