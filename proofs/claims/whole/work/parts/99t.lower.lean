/-! The model: high powers of y go down. -/
theorem cnv_comm (A B : Int → Int) (k : Int) : cnv A B k = cnv B A k := by
  rcases Int.lt_or_le k 0 with q | q
  · rw [cnv_neg q, cnv_neg q]
  · unfold cnv
    rw [← sm_rev]
    refine sm_congr (fun i i0 i1 => ?_)
    (try dsimp only)
    rw [show (((k + 1).toNat : Nat) : Int) - 1 - i = k - i by omega, show k - (k - i) = i by omega, Int.mul_comm]
theorem blk_div {w b y : Int} (y0 : 0 ≤ y) (y1 : y < w) : (w * b + y) / w = b ∧ (w * b + y) % w = y := by
  constructor
  · rw [Int.add_comm, Int.add_mul_ediv_left _ _ (by omega), Int.ediv_eq_zero_of_lt y0 y1, Int.zero_add]
  · rw [Int.add_comm, Int.add_mul_emod_self_left, em_id y0 y1]
/-- the curve's polynomials in blocks of w -/
def lwK (w : Int) (C : Int → Int → Int) : Int → Int := fun t => if 0 ≤ t then C (t / w) (t % w) else 0
theorem lwK_at {w b y : Int} {C : Int → Int → Int} (b0 : 0 ≤ b) (y0 : 0 ≤ y) (y1 : y < w) : lwK w C (w * b + y) = C b y := by
  have := blk_div (b := b) y0 y1
  have h1 : 0 ≤ w * b := Int.mul_nonneg (by omega) b0
  unfold lwK
  rw [if_pos (by omega), this.1, this.2]
theorem lwK_flat {w b x : Int} {C : Int → Int → Int} {A : Int → Int} (hw : 7 < w) (sC : ∀ j e, 6 < e → C j e = 0) (sC' : ∀ j e, e < 0 → C j e = 0) (sA : ∀ e, w - 7 < e → A e = 0) (b0 : 0 ≤ b) (x0 : 0 ≤ x) (x1 : x < w) : cnv A (lwK w C) (w * b + x) = cnv (C b) A x := by
  have h1 : 0 ≤ w * b := Int.mul_nonneg (by omega) b0
  rw [cnv_comm (C b) A]
  unfold cnv
  have e1 : sm (w * b + x + 1).toNat (fun i => A i * lwK w C (w * b + x - i)) = sm (x + 1).toNat (fun i => A i * lwK w C (w * b + x - i)) := sm_more (by omega) (fun i i0 i1 => by
    by_cases q : w - 7 < i
    · rw [sA i q, Int.zero_mul]
    · have hb : 1 ≤ b := by
        rcases Int.lt_or_le 0 b with z | z
        · exact z
        · have : b = 0 := by omega
          subst this
          omega
      have e : w * b + x - i = w * (b - 1) + (w + x - i) := by
        rw [Int.mul_sub, Int.mul_one]
        omega
      rw [e, lwK_at (by omega) (by omega) (by omega), sC _ _ (by omega), Int.mul_zero])
  rw [e1]
  refine sm_congr (fun i i0 i1 => ?_)
  (try dsimp only)
  rw [show w * b + x - i = w * b + (x - i) by omega, lwK_at b0 (by omega) (by omega)]
theorem ppF_gap {p o n i j j' : Int} {A B T : Int → Int} (hj : j ≤ j') (h0 : ∀ t, j ≤ t → t < j' → B t = 0) (x : Int) : ppF p o n A B T i j x = ppF p o n A B T i j' x := by
  unfold ppF
  by_cases q : o ≤ x ∧ x < n
  · rw [if_pos q, if_pos q]
    by_cases r : x - o - i < j
    · rw [if_pos r, if_pos (by omega)]
    · rw [if_neg r]
      by_cases r' : x - o - i < j'
      · rw [if_pos r', h0 _ (by omega) r', Int.mul_zero]
      · rw [if_neg r']
  · rw [if_neg q, if_neg q]
/-- one power of y gone down -/
def lwS (p n : Int) (C W : Int → Int → Int) (h : Int) : Int → Int → Int := fun b x => if b = h then 0 else if h - n ≤ b ∧ b < h then (W b x + (-1) * cnv (C (b - (h - n))) (W h) x) % p else W b x
/-- what the loops have made of a row of blocks of w -/
def lwP (p w n : Int) (C W : Int → Int → Int) (T : Int → Int) (h e j : Int) : Int → Int := fun x => if w * h ≤ x ∧ x < w * h + e then 0 else ppF p (w * (h - n)) (w * h) (fun i => -1 * W h i) (lwK w C) T (min e w) j x
theorem lwP_BR {S : Hp} {a w m p n h : Int} {C W : Int → Int → Int} (hw : 7 < w) (b : BR S a w m p W) (hp : 2 ≤ p) (hh : 0 ≤ h ∧ h < m) (hn : 0 < n ∧ n ≤ h) (sC : ∀ j e, (e < 0 ∨ 6 < e) → C j e = 0) (sW : ∀ e, w - 7 < e → W h e = 0) : BR (zR S a (lwP p w n C W (zG S a) h w 0)) a w m p (lwS p n C W h) := by
  have ho : w * h = w * (h - n) + w * n := by rw [Int.mul_sub]; omega
  have hwn : 0 ≤ w * (h - n) := Int.mul_nonneg (by omega) (by omega)
  refine ⟨b.1, b.2.1, fun c x c0 c1 x0 x1 => ?_, fun c x hx => ?_, fun c x => ?_⟩
  · have v := b.2.2.1 c x c0 c1 x0 x1
    have bd := b.2.2.2.2 c x
    rw [zG_zR_at]
    unfold lwP lwS
    by_cases q : c = h
    · rw [if_pos q, q, if_pos (by omega)]
    · rw [if_neg q]
      have ne : ¬ (w * h ≤ w * c + x ∧ w * c + x < w * h + w) := fun z => by
        rcases Int.lt_or_le c h with y | y
        · have := blk c0 y x0 x1
          omega
        · have := blk (w := w) hh.1 (show h < c by omega) (x := 0) (by omega) (by omega)
          omega
      have hpe := ppF_end (p := p) (o := w * (h - n)) (n := w * h) (m := w) (A := fun i => -1 * W h i) (B := lwK w C) (T := zG S a) (by omega) (fun e he => by
        (try dsimp only)
        rw [sW e (by omega), Int.mul_zero]) (fun e he => by
        unfold lwK
        exact if_neg (by omega)) (w * c + x)
      rw [if_neg ne, show min w w = w by omega, hpe]
      by_cases q2 : h - n ≤ c ∧ c < h
      · have k1 := blk c0 q2.2 x0 x1
        have k2 : w * (h - n) ≤ w * c := Int.mul_le_mul_of_nonneg_left q2.1 (by omega)
        rw [if_pos q2, if_pos (by omega), v, show w * c + x - w * (h - n) = w * (c - (h - n)) + x by rw [Int.mul_sub w c]; omega, lwK_flat hw (fun j e he => sC j e (Or.inr he)) (fun j e he => sC j e (Or.inl he)) (fun e he => by
          (try dsimp only)
          rw [sW e he, Int.mul_zero]) (by omega) x0 x1, cnv_comm, cnv_scal, cnv_comm]
      · rw [if_neg q2, if_neg (fun z => ?_), v]
        rcases Int.lt_or_le c (h - n) with y | y
        · have := blk c0 y x0 x1
          omega
        · have := blk (w := w) hh.1 (show h < c by omega) (x := 0) (by omega) (by omega)
          omega
  · unfold lwS
    by_cases q : c = h
    · rw [if_pos q]
    · rw [if_neg q, b.2.2.2.1 c x hx]
      split
      · rcases hx with hx | hx
        · rw [cnv_neg hx]
          rfl
        · rw [cnv_deg (da := 6) (db := w - 7) (fun e he => sC _ e (Or.inr he)) sW x (by omega)]
          rfl
      · rfl
  · unfold lwS
    split
    · omega
    · split
      · exact ⟨em_ge (by omega), em_lt (by omega)⟩
      · exact b.2.2.2.2 c x
def lwN (p n : Int) (C : Int → Int → Int) (t : Int) : Nat → (Int → Int → Int) → Int → Int → Int
  | 0, W => W
  | s + 1, W => lwS p n C (lwN p n C t s W) (t - s)
/-- the same as where the class lets them stand, but for those -/
theorem lwN_rdN {p n : Int} {C W : Int → Int → Int} : ∀ (s : Nat) (b x : Int), b ≤ 6 - s → lwN p n C 6 s W b x = rdN p n C s W b x
  | 0, b, x, _ => rfl
  | s + 1, b, x, hb => by
    show lwS p n C (lwN p n C 6 s W) (6 - s) b x = rdS p n C (rdN p n C s W) (6 - s) b x
    unfold lwS rdS
    have e : lwN p n C 6 s W (6 - s) = rdN p n C s W (6 - s) := funext fun y => lwN_rdN s _ y (by omega)
    rw [if_neg (by omega), e]
    by_cases q : 6 - (s : Int) - n ≤ b ∧ b < 6 - s
    · rw [if_pos q, if_pos q, lwN_rdN s b x (by omega)]
    · rw [if_neg q, if_neg q, lwN_rdN s b x (by omega)]
theorem lwN_deg {p n t : Int} {C W : Int → Int → Int} {D : Int} (sC : ∀ j e, (e < 0 ∨ 6 < e) → C j e = 0) (hD : -1 ≤ D) (sW : ∀ b x, D < x → W b x = 0) : ∀ (s : Nat) (b x : Int), D + 6 * s < x → lwN p n C t s W b x = 0
  | 0, b, x, hx => sW b x (by omega)
  | s + 1, b, x, hx => by
    show lwS p n C (lwN p n C t s W) (t - s) b x = 0
    unfold lwS
    have ih := lwN_deg (p := p) (n := n) (t := t) sC hD sW s
    split
    · rfl
    · rw [ih b x (by omega)]
      split
      · rw [cnv_deg (da := 6) (db := D + 6 * s) (fun e he => sC _ e (Or.inr he)) (fun e he => ih _ e he) x (by omega)]
        rfl
      · rfl
