/-! Products of a basis, in the curve's ring. -/
theorem sm_plus (a b : Nat) (f : Int → Int) : sm (a + b) f = sm a f + sm b (fun i => f (a + i)) := by
  induction b with
  | zero => rw [Nat.add_zero, sm_zero, Int.add_zero]
  | succ b ih =>
    rw [show a + (b + 1) = (a + b) + 1 by omega, sm_succ, ih, sm_succ, show ((a + b : Nat) : Int) = (a : Int) + b by omega]
    omega
theorem sm_blk (w : Nat) (f : Int → Int) : ∀ k : Nat, sm (w * k) f = sm k (fun i => sm w (fun m => f (w * i + m)))
  | 0 => rfl
  | k + 1 => by
    rw [Nat.mul_succ, sm_plus, sm_blk w f k, sm_succ, show (((w * k : Nat)) : Int) = (w : Int) * k by rw [Int.natCast_mul]]
theorem sm_pick (v : Int → Int) (k : Int) : ∀ n : Nat, sm n (fun i => if i = k then v i else 0) = if 0 ≤ k ∧ k < n then v k else 0
  | 0 => by
    rw [sm_zero, if_neg (by omega)]
  | n + 1 => by
    rw [sm_succ, sm_pick v k n]
    (try dsimp only)
    by_cases q : (n : Int) = k
    · rw [if_pos q, if_neg (by omega), if_pos (by omega), q]
      omega
    · rw [if_neg q]
      by_cases q2 : 0 ≤ k ∧ k < n
      · rw [if_pos q2, if_pos (by omega)]
        omega
      · rw [if_neg q2, if_neg (by omega)]
        omega
theorem mb_cnv (F G : Int → Int) (x : Int) : sm 21 (fun a => sm 21 (fun b => if b = 40 - a - x then F a * G b else 0)) = cnv (fun y => if 0 ≤ y ∧ y ≤ 20 then F (20 - y) else 0) (fun y => if 0 ≤ y ∧ y ≤ 20 then G (20 - y) else 0) x := by
  have e1 : sm 21 (fun a => sm 21 (fun b => if b = 40 - a - x then F a * G b else 0)) = sm 21 (fun e => (if 0 ≤ e ∧ e ≤ 20 then F (20 - e) else 0) * (if 0 ≤ x - e ∧ x - e ≤ 20 then G (20 - (x - e)) else 0)) := by
    rw [← sm_rev 21 (fun a => sm 21 (fun b => if b = 40 - a - x then F a * G b else 0))]
    refine sm_congr fun e e0 e1 => ?_
    (try dsimp only)
    rw [sm_pick (fun b => F (((21 : Nat) : Int) - 1 - e) * G b) (40 - (((21 : Nat) : Int) - 1 - e) - x) 21, if_pos (show 0 ≤ e ∧ e ≤ 20 by omega)]
    by_cases q : 0 ≤ x - e ∧ x - e ≤ 20
    · rw [if_pos q, if_pos (by omega), show ((21 : Nat) : Int) - 1 - e = 20 - e by omega, show 40 - (20 - e) - x = 20 - (x - e) by omega]
    · rw [if_neg q, if_neg (by omega), Int.mul_zero]
  rw [e1]
  by_cases q : x < 0
  · rw [cnv_neg q]
    exact sm_zeros fun e e0 e1 => by rw [if_neg (show ¬ (0 ≤ x - e ∧ x - e ≤ 20) by omega), Int.mul_zero]
  · unfold cnv
    (try dsimp only)
    by_cases q2 : x + 1 ≤ 21
    · refine sm_more (n := (x + 1).toNat) (m := 21) (by omega) (fun i i0 i1 => ?_)
      (try dsimp only)
      rw [if_neg (show ¬ (0 ≤ x - i ∧ x - i ≤ 20) by omega), Int.mul_zero]
    · refine (sm_more (n := 21) (m := (x + 1).toNat) (by omega) (fun i i0 i1 => ?_)).symm
      (try dsimp only)
      rw [if_neg (show ¬ (0 ≤ i ∧ i ≤ 20) by omega), Int.zero_mul]
theorem mb_r (fig : Int → Int → Int → Int) (i j r x : Int) : sm 84 (fun a => sm 84 (fun b => mbI a b r x * (flF fig i a * flF fig j b))) = sm 4 (fun u => sm 4 (fun v => if u + v = r then cnv (bR fig i u) (bR fig j v) x else 0)) := by
  rw [show (84 : Nat) = 21 * 4 from rfl, sm_blk 21 _ 4]
  refine sm_congr fun u u0 u1 => ?_
  have e : ∀ m : Int, 0 ≤ m → m < (21 : Nat) → sm (21 * 4) (fun b => mbI (((21 : Nat) : Int) * u + m) b r x * (flF fig i (((21 : Nat) : Int) * u + m) * flF fig j b)) = sm 4 (fun v => if u + v = r then sm 21 (fun b => if b = 40 - m - x then fig i u m * fig j v b else 0) else 0) := fun m m0 m1 => by
    rw [sm_blk 21 _ 4]
    refine sm_congr fun v v0 v1 => ?_
    by_cases q : u + v = r
    · rw [if_pos q]
      refine sm_congr fun b b0 b1 => ?_
      unfold mbI flF
      rw [show (((21 : Nat) : Int) * u + m) / 21 = u by omega, show (((21 : Nat) : Int) * u + m) % 21 = m by omega, show (((21 : Nat) : Int) * v + b) / 21 = v by omega, show (((21 : Nat) : Int) * v + b) % 21 = b by omega]
      by_cases q2 : b = 40 - m - x
      · rw [if_pos q2, if_pos (by omega), Int.one_mul]
      · rw [if_neg q2, if_neg (by omega), Int.zero_mul]
    · rw [if_neg q]
      refine sm_zeros fun b b0 b1 => ?_
      unfold mbI
      rw [show (((21 : Nat) : Int) * u + m) / 21 = u by omega, show (((21 : Nat) : Int) * v + b) / 21 = v by omega, if_neg (by omega), Int.zero_mul]
  rw [sm_congr e, sm_swap]
  refine sm_congr fun v v0 v1 => ?_
  by_cases q : u + v = r
  · rw [if_pos q, ← show sm 21 (fun a => sm 21 (fun b => if b = 40 - a - x then fig i u a * fig j v b else 0)) = cnv (bR fig i u) (bR fig j v) x from mb_cnv (fig i u) (fig j v) x]
    exact sm_congr fun a a0 a1 => if_pos q
  · rw [if_neg q]
    exact sm_zeros fun a a0 a1 => if_neg q
theorem hm_su4' {p : Int} {O : Type} [I : Lean.Grind.CommRing O] {φ : (Int → Int) → O} (h : HM p φ) (f : Int → Int → Int) : φ (fun x => sm 4 (fun j => f j x)) = su 4 (fun j => φ (f j)) := by
  rw [hm_su4 h f]
  show _ = 0 + φ (f 0) + φ (f 1) + φ (f 2) + φ (f 3)
  grind
theorem mb_o {p : Int} {O : Type} [I : Lean.Grind.CommRing O] {φ : (Int → Int) → O} (h : HM p φ) (fig : Int → Int → Int → Int) (i j r : Int) : φ (mbF p (flF fig i) (flF fig j) r) = su 4 (fun u => su 4 (fun v => if u + v = r then φ (bR fig i u) * φ (bR fig j v) else 0)) := by
  rw [show mbF p (flF fig i) (flF fig j) r = fun x => (fun x => sm 4 (fun u => sm 4 (fun v => if u + v = r then cnv (bR fig i u) (bR fig j v) x else 0))) x % p from funext fun x => by
    show sm 84 (fun a => sm 84 (fun b => mbI a b r x * (flF fig i a * flF fig j b))) % p = _
    rw [mb_r], h.2.2.1, hm_su4' h (fun u x => sm 4 (fun v => if u + v = r then cnv (bR fig i u) (bR fig j v) x else 0))]
  refine su_congr fun u u0 u1 => ?_
  rw [hm_su4' h (fun v x => if u + v = r then cnv (bR fig i u) (bR fig j v) x else 0)]
  refine su_congr fun v v0 v1 => ?_
  by_cases q : u + v = r
  · rw [if_pos q, ← h.2.1]
    congr 1
    exact funext fun x => if_pos q
  · rw [if_neg q, ← h.2.2.2.2.2.1]
    congr 1
    exact funext fun x => if_neg q
theorem ALG.i0 {O E : Type} [I : Lean.Grind.CommRing O] [J : Lean.Grind.CommRing E] {n : Nat} {c : Int → O} {ι : O → E} {y : E} (h : ALG n c ι y) : ι 0 = 0 := by
  have := h.1 0 0
  rw [show (0 : O) + 0 = 0 by grind] at this
  grind
theorem ALG.ineg {O E : Type} [I : Lean.Grind.CommRing O] [J : Lean.Grind.CommRing E] {n : Nat} {c : Int → O} {ι : O → E} {y : E} (h : ALG n c ι y) (a : O) : ι (- a) = - ι a := by
  have := h.1 (-a) a
  rw [show -a + a = 0 by grind, h.i0] at this
  grind
theorem ALG.isub {O E : Type} [I : Lean.Grind.CommRing O] [J : Lean.Grind.CommRing E] {n : Nat} {c : Int → O} {ι : O → E} {y : E} (h : ALG n c ι y) (a b : O) : ι (a - b) = ι a - ι b := by
  rw [show a - b = a + -b by grind, h.1, h.ineg]
  grind
theorem ALG.ipow {O E : Type} [I : Lean.Grind.CommRing O] [J : Lean.Grind.CommRing E] {n : Nat} {c : Int → O} {ι : O → E} {y : E} (h : ALG n c ι y) (a : O) : ∀ k : Nat, ι (a ^ k) = ι a ^ k
  | 0 => by rw [Lean.Grind.Semiring.pow_zero, Lean.Grind.Semiring.pow_zero, h.2.2.1]
  | k + 1 => by rw [Lean.Grind.Semiring.pow_succ, Lean.Grind.Semiring.pow_succ, h.2.1, ALG.ipow h a k]
theorem ALG.isu {O E : Type} [I : Lean.Grind.CommRing O] [J : Lean.Grind.CommRing E] {n : Nat} {c : Int → O} {ι : O → E} {y : E} (h : ALG n c ι y) (f : Int → O) : ∀ k : Nat, ι (su k f) = su k (fun i => ι (f i))
  | 0 => h.i0
  | k + 1 => by rw [su_succ, su_succ, h.1, ALG.isu h f k]
/-- rows as an element of the curve's ring -/
def vE {O E : Type} [I : Lean.Grind.CommRing O] [J : Lean.Grind.CommRing E] (φ : (Int → Int) → O) (ι : O → E) (y : E) (n : Nat) (V : Int → Int → Int) : E := su n (fun l => ι (φ (V l)) * y ^ l.toNat)
set_option maxHeartbeats 4000000 in
theorem tb_e2 {p : Int} {O E : Type} [I : Lean.Grind.CommRing O] [J : Lean.Grind.CommRing E] {φ : (Int → Int) → O} {ι : O → E} {y : E} {C : Int → Int → Int} (h : HM p φ) (a : ALG 2 (fun l => φ (C l)) ι y) (A : Int → Int → Int) (i : Nat) : ι (φ (tbl p 2 C A (i + 1) 0)) * y ^ 0 + ι (φ (tbl p 2 C A (i + 1) 1)) * y ^ 1 = y * (ι (φ (tbl p 2 C A i 0)) * y ^ 0 + ι (φ (tbl p 2 C A i 1)) * y ^ 1) := by
  have yn := a.2.2.2.2.2
  have yn : y ^ 2 = - (0 + ι (φ (C 0)) * y ^ 0 + ι (φ (C 1)) * y ^ 1) := yn
  have t0 : φ (tbl p 2 C A (i + 1) 0) = - (φ (C 0) * φ (tbl p 2 C A i 1)) := tb_a h
  have t1 : φ (tbl p 2 C A (i + 1) 1) = φ (tbl p 2 C A i 0) - φ (C 1) * φ (tbl p 2 C A i 1) := tb_b h (by decide) rfl
  rw [t0, t1, a.ineg, a.2.1, a.isub, a.2.1]
  generalize ι (φ (tbl p 2 C A i 0)) = z0 at *
  generalize ι (φ (tbl p 2 C A i 1)) = z1 at *
  generalize ι (φ (C 0)) = c0 at *
  generalize ι (φ (C 1)) = c1 at *
  clear t0 t1 a
  have k1 : y * (z0 * y ^ 0 + z1 * y ^ 1) = (z0 * y ^ 1) + z1 * y ^ 2 := by
    clear yn
    clear yn
    grind
  rw [k1, yn]
  clear k1 yn
  clear yn
  grind
set_option maxHeartbeats 4000000 in
theorem mb_e2 {p : Int} {O E : Type} [I : Lean.Grind.CommRing O] [J : Lean.Grind.CommRing E] {φ : (Int → Int) → O} {ι : O → E} {y : E} {C : Int → Int → Int} (h : HMs p φ) (a : ALG 2 (fun l => φ (C l)) ι y) {fig : Int → Int → Int → Int} (tr : TRF 2 fig) {i j : Int} (i0 : 0 ≤ i) (i1 : i < 2) (j0 : 0 ≤ j) (j1 : j < 2) : vE φ ι y 2 (mbL p 2 C fig i j) = vE φ ι y 2 (bR fig i) * vE φ ι y 2 (bR fig j) := by
  have zi2 : φ (bR fig i 2) = 0 := bR_0 h tr i0 i1 (by omega) (by omega)
  have zj2 : φ (bR fig j 2) = 0 := bR_0 h tr j0 j1 (by omega) (by omega)
  have zi3 : φ (bR fig i 3) = 0 := bR_0 h tr i0 i1 (by omega) (by omega)
  have zj3 : φ (bR fig j 3) = 0 := bR_0 h tr j0 j1 (by omega) (by omega)
  have w0 : φ (mbF p (flF fig i) (flF fig j) 0) = φ (bR fig i 0) * φ (bR fig j 0) := by
    rw [mb_o h.1]
    show 0 + (0 + (if (0 : Int) + 0 = 0 then φ (bR fig i 0) * φ (bR fig j 0) else 0) + (if (0 : Int) + 1 = 0 then φ (bR fig i 0) * φ (bR fig j 1) else 0) + (if (0 : Int) + 2 = 0 then φ (bR fig i 0) * φ (bR fig j 2) else 0) + (if (0 : Int) + 3 = 0 then φ (bR fig i 0) * φ (bR fig j 3) else 0)) + (0 + (if (1 : Int) + 0 = 0 then φ (bR fig i 1) * φ (bR fig j 0) else 0) + (if (1 : Int) + 1 = 0 then φ (bR fig i 1) * φ (bR fig j 1) else 0) + (if (1 : Int) + 2 = 0 then φ (bR fig i 1) * φ (bR fig j 2) else 0) + (if (1 : Int) + 3 = 0 then φ (bR fig i 1) * φ (bR fig j 3) else 0)) + (0 + (if (2 : Int) + 0 = 0 then φ (bR fig i 2) * φ (bR fig j 0) else 0) + (if (2 : Int) + 1 = 0 then φ (bR fig i 2) * φ (bR fig j 1) else 0) + (if (2 : Int) + 2 = 0 then φ (bR fig i 2) * φ (bR fig j 2) else 0) + (if (2 : Int) + 3 = 0 then φ (bR fig i 2) * φ (bR fig j 3) else 0)) + (0 + (if (3 : Int) + 0 = 0 then φ (bR fig i 3) * φ (bR fig j 0) else 0) + (if (3 : Int) + 1 = 0 then φ (bR fig i 3) * φ (bR fig j 1) else 0) + (if (3 : Int) + 2 = 0 then φ (bR fig i 3) * φ (bR fig j 2) else 0) + (if (3 : Int) + 3 = 0 then φ (bR fig i 3) * φ (bR fig j 3) else 0)) = _
    rw [if_pos (by decide), if_neg (by decide), if_neg (by decide), if_neg (by decide), if_neg (by decide), if_neg (by decide), if_neg (by decide), if_neg (by decide), if_neg (by decide), if_neg (by decide), if_neg (by decide), if_neg (by decide), if_neg (by decide), if_neg (by decide), if_neg (by decide), if_neg (by decide)]
    grind
  have w1 : φ (mbF p (flF fig i) (flF fig j) 1) = φ (bR fig i 0) * φ (bR fig j 1) + φ (bR fig i 1) * φ (bR fig j 0) := by
    rw [mb_o h.1]
    show 0 + (0 + (if (0 : Int) + 0 = 1 then φ (bR fig i 0) * φ (bR fig j 0) else 0) + (if (0 : Int) + 1 = 1 then φ (bR fig i 0) * φ (bR fig j 1) else 0) + (if (0 : Int) + 2 = 1 then φ (bR fig i 0) * φ (bR fig j 2) else 0) + (if (0 : Int) + 3 = 1 then φ (bR fig i 0) * φ (bR fig j 3) else 0)) + (0 + (if (1 : Int) + 0 = 1 then φ (bR fig i 1) * φ (bR fig j 0) else 0) + (if (1 : Int) + 1 = 1 then φ (bR fig i 1) * φ (bR fig j 1) else 0) + (if (1 : Int) + 2 = 1 then φ (bR fig i 1) * φ (bR fig j 2) else 0) + (if (1 : Int) + 3 = 1 then φ (bR fig i 1) * φ (bR fig j 3) else 0)) + (0 + (if (2 : Int) + 0 = 1 then φ (bR fig i 2) * φ (bR fig j 0) else 0) + (if (2 : Int) + 1 = 1 then φ (bR fig i 2) * φ (bR fig j 1) else 0) + (if (2 : Int) + 2 = 1 then φ (bR fig i 2) * φ (bR fig j 2) else 0) + (if (2 : Int) + 3 = 1 then φ (bR fig i 2) * φ (bR fig j 3) else 0)) + (0 + (if (3 : Int) + 0 = 1 then φ (bR fig i 3) * φ (bR fig j 0) else 0) + (if (3 : Int) + 1 = 1 then φ (bR fig i 3) * φ (bR fig j 1) else 0) + (if (3 : Int) + 2 = 1 then φ (bR fig i 3) * φ (bR fig j 2) else 0) + (if (3 : Int) + 3 = 1 then φ (bR fig i 3) * φ (bR fig j 3) else 0)) = _
    rw [if_neg (by decide), if_pos (by decide), if_neg (by decide), if_neg (by decide), if_pos (by decide), if_neg (by decide), if_neg (by decide), if_neg (by decide), if_neg (by decide), if_neg (by decide), if_neg (by decide), if_neg (by decide), if_neg (by decide), if_neg (by decide), if_neg (by decide), if_neg (by decide)]
    grind
  have w2 : φ (mbF p (flF fig i) (flF fig j) 2) = φ (bR fig i 1) * φ (bR fig j 1) := by
    rw [mb_o h.1]
    show 0 + (0 + (if (0 : Int) + 0 = 2 then φ (bR fig i 0) * φ (bR fig j 0) else 0) + (if (0 : Int) + 1 = 2 then φ (bR fig i 0) * φ (bR fig j 1) else 0) + (if (0 : Int) + 2 = 2 then φ (bR fig i 0) * φ (bR fig j 2) else 0) + (if (0 : Int) + 3 = 2 then φ (bR fig i 0) * φ (bR fig j 3) else 0)) + (0 + (if (1 : Int) + 0 = 2 then φ (bR fig i 1) * φ (bR fig j 0) else 0) + (if (1 : Int) + 1 = 2 then φ (bR fig i 1) * φ (bR fig j 1) else 0) + (if (1 : Int) + 2 = 2 then φ (bR fig i 1) * φ (bR fig j 2) else 0) + (if (1 : Int) + 3 = 2 then φ (bR fig i 1) * φ (bR fig j 3) else 0)) + (0 + (if (2 : Int) + 0 = 2 then φ (bR fig i 2) * φ (bR fig j 0) else 0) + (if (2 : Int) + 1 = 2 then φ (bR fig i 2) * φ (bR fig j 1) else 0) + (if (2 : Int) + 2 = 2 then φ (bR fig i 2) * φ (bR fig j 2) else 0) + (if (2 : Int) + 3 = 2 then φ (bR fig i 2) * φ (bR fig j 3) else 0)) + (0 + (if (3 : Int) + 0 = 2 then φ (bR fig i 3) * φ (bR fig j 0) else 0) + (if (3 : Int) + 1 = 2 then φ (bR fig i 3) * φ (bR fig j 1) else 0) + (if (3 : Int) + 2 = 2 then φ (bR fig i 3) * φ (bR fig j 2) else 0) + (if (3 : Int) + 3 = 2 then φ (bR fig i 3) * φ (bR fig j 3) else 0)) = _
    rw [if_neg (by decide), if_neg (by decide), if_pos (by decide), if_neg (by decide), if_neg (by decide), if_pos (by decide), if_neg (by decide), if_neg (by decide), if_pos (by decide), if_neg (by decide), if_neg (by decide), if_neg (by decide), if_neg (by decide), if_neg (by decide), if_neg (by decide), if_neg (by decide)]
    grind
  have e := lw_pr2_2 (C := C) h.1 w0 w1 w2
  show 0 + ι (φ (lwN p 2 C 2 1 (mbF p (flF fig i) (flF fig j)) 0)) * y ^ 0 + ι (φ (lwN p 2 C 2 1 (mbF p (flF fig i) (flF fig j)) 1)) * y ^ 1 = (0 + ι (φ (bR fig i 0)) * y ^ 0 + ι (φ (bR fig i 1)) * y ^ 1) * (0 + ι (φ (bR fig j 0)) * y ^ 0 + ι (φ (bR fig j 1)) * y ^ 1)
  rw [e.1, e.2]
  have q0 : ι (φ (tbl p 2 C (bR fig i) 0 0)) * y ^ 0 + ι (φ (tbl p 2 C (bR fig i) 0 1)) * y ^ 1 = ι (φ (bR fig i 0)) * y ^ 0 + ι (φ (bR fig i 1)) * y ^ 1 := rfl
  have q1 := tb_e2 h.1 a (bR fig i) 0
  simp only [a.1, a.2.1]
  clear e w0 w1 w2
  clear zi2 zj2
  clear zi3 zj3
  generalize ι (φ (tbl p 2 C (bR fig i) 0 0)) = z00 at *
  generalize ι (φ (tbl p 2 C (bR fig i) 0 1)) = z01 at *
  generalize ι (φ (tbl p 2 C (bR fig i) 1 0)) = z10 at *
  generalize ι (φ (tbl p 2 C (bR fig i) 1 1)) = z11 at *
  generalize ι (φ (bR fig i 0)) = u0 at *
  generalize ι (φ (bR fig j 0)) = v0 at *
  generalize ι (φ (bR fig i 1)) = u1 at *
  generalize ι (φ (bR fig j 1)) = v1 at *
  clear a tr h
  have k1 : 0 + (v0 * z00 + v1 * z10) * y ^ 0 + (v0 * z01 + v1 * z11) * y ^ 1 = v0 * (z00 * y ^ 0 + z01 * y ^ 1) + v1 * (z10 * y ^ 0 + z11 * y ^ 1) := by
    clear q0 q1
    grind
  rw [k1, q1, q0]
  clear k1 q0 q1
  grind
set_option maxHeartbeats 4000000 in
theorem tb_e3 {p : Int} {O E : Type} [I : Lean.Grind.CommRing O] [J : Lean.Grind.CommRing E] {φ : (Int → Int) → O} {ι : O → E} {y : E} {C : Int → Int → Int} (h : HM p φ) (a : ALG 3 (fun l => φ (C l)) ι y) (A : Int → Int → Int) (i : Nat) : ι (φ (tbl p 3 C A (i + 1) 0)) * y ^ 0 + ι (φ (tbl p 3 C A (i + 1) 1)) * y ^ 1 + ι (φ (tbl p 3 C A (i + 1) 2)) * y ^ 2 = y * (ι (φ (tbl p 3 C A i 0)) * y ^ 0 + ι (φ (tbl p 3 C A i 1)) * y ^ 1 + ι (φ (tbl p 3 C A i 2)) * y ^ 2) := by
  have yn := a.2.2.2.2.2
  have yn : y ^ 3 = - (0 + ι (φ (C 0)) * y ^ 0 + ι (φ (C 1)) * y ^ 1 + ι (φ (C 2)) * y ^ 2) := yn
  have t0 : φ (tbl p 3 C A (i + 1) 0) = - (φ (C 0) * φ (tbl p 3 C A i 2)) := tb_a h
  have t1 : φ (tbl p 3 C A (i + 1) 1) = φ (tbl p 3 C A i 0) - φ (C 1) * φ (tbl p 3 C A i 2) := tb_b h (by decide) rfl
  have t2 : φ (tbl p 3 C A (i + 1) 2) = φ (tbl p 3 C A i 1) - φ (C 2) * φ (tbl p 3 C A i 2) := tb_b h (by decide) rfl
  rw [t0, t1, t2, a.ineg, a.2.1, a.isub, a.2.1, a.isub, a.2.1]
  generalize ι (φ (tbl p 3 C A i 0)) = z0 at *
  generalize ι (φ (tbl p 3 C A i 1)) = z1 at *
  generalize ι (φ (tbl p 3 C A i 2)) = z2 at *
  generalize ι (φ (C 0)) = c0 at *
  generalize ι (φ (C 1)) = c1 at *
  generalize ι (φ (C 2)) = c2 at *
  clear t0 t1 t2 a
  have k1 : y * (z0 * y ^ 0 + z1 * y ^ 1 + z2 * y ^ 2) = (z0 * y ^ 1 + z1 * y ^ 2) + z2 * y ^ 3 := by
    clear yn
    clear yn
    grind
  rw [k1, yn]
  clear k1 yn
  clear yn
  grind
set_option maxHeartbeats 4000000 in
theorem mb_e3 {p : Int} {O E : Type} [I : Lean.Grind.CommRing O] [J : Lean.Grind.CommRing E] {φ : (Int → Int) → O} {ι : O → E} {y : E} {C : Int → Int → Int} (h : HMs p φ) (a : ALG 3 (fun l => φ (C l)) ι y) {fig : Int → Int → Int → Int} (tr : TRF 3 fig) {i j : Int} (i0 : 0 ≤ i) (i1 : i < 3) (j0 : 0 ≤ j) (j1 : j < 3) : vE φ ι y 3 (mbL p 3 C fig i j) = vE φ ι y 3 (bR fig i) * vE φ ι y 3 (bR fig j) := by
  have zi3 : φ (bR fig i 3) = 0 := bR_0 h tr i0 i1 (by omega) (by omega)
  have zj3 : φ (bR fig j 3) = 0 := bR_0 h tr j0 j1 (by omega) (by omega)
  have w0 : φ (mbF p (flF fig i) (flF fig j) 0) = φ (bR fig i 0) * φ (bR fig j 0) := by
    rw [mb_o h.1]
    show 0 + (0 + (if (0 : Int) + 0 = 0 then φ (bR fig i 0) * φ (bR fig j 0) else 0) + (if (0 : Int) + 1 = 0 then φ (bR fig i 0) * φ (bR fig j 1) else 0) + (if (0 : Int) + 2 = 0 then φ (bR fig i 0) * φ (bR fig j 2) else 0) + (if (0 : Int) + 3 = 0 then φ (bR fig i 0) * φ (bR fig j 3) else 0)) + (0 + (if (1 : Int) + 0 = 0 then φ (bR fig i 1) * φ (bR fig j 0) else 0) + (if (1 : Int) + 1 = 0 then φ (bR fig i 1) * φ (bR fig j 1) else 0) + (if (1 : Int) + 2 = 0 then φ (bR fig i 1) * φ (bR fig j 2) else 0) + (if (1 : Int) + 3 = 0 then φ (bR fig i 1) * φ (bR fig j 3) else 0)) + (0 + (if (2 : Int) + 0 = 0 then φ (bR fig i 2) * φ (bR fig j 0) else 0) + (if (2 : Int) + 1 = 0 then φ (bR fig i 2) * φ (bR fig j 1) else 0) + (if (2 : Int) + 2 = 0 then φ (bR fig i 2) * φ (bR fig j 2) else 0) + (if (2 : Int) + 3 = 0 then φ (bR fig i 2) * φ (bR fig j 3) else 0)) + (0 + (if (3 : Int) + 0 = 0 then φ (bR fig i 3) * φ (bR fig j 0) else 0) + (if (3 : Int) + 1 = 0 then φ (bR fig i 3) * φ (bR fig j 1) else 0) + (if (3 : Int) + 2 = 0 then φ (bR fig i 3) * φ (bR fig j 2) else 0) + (if (3 : Int) + 3 = 0 then φ (bR fig i 3) * φ (bR fig j 3) else 0)) = _
    rw [if_pos (by decide), if_neg (by decide), if_neg (by decide), if_neg (by decide), if_neg (by decide), if_neg (by decide), if_neg (by decide), if_neg (by decide), if_neg (by decide), if_neg (by decide), if_neg (by decide), if_neg (by decide), if_neg (by decide), if_neg (by decide), if_neg (by decide), if_neg (by decide)]
    grind
  have w1 : φ (mbF p (flF fig i) (flF fig j) 1) = φ (bR fig i 0) * φ (bR fig j 1) + φ (bR fig i 1) * φ (bR fig j 0) := by
    rw [mb_o h.1]
    show 0 + (0 + (if (0 : Int) + 0 = 1 then φ (bR fig i 0) * φ (bR fig j 0) else 0) + (if (0 : Int) + 1 = 1 then φ (bR fig i 0) * φ (bR fig j 1) else 0) + (if (0 : Int) + 2 = 1 then φ (bR fig i 0) * φ (bR fig j 2) else 0) + (if (0 : Int) + 3 = 1 then φ (bR fig i 0) * φ (bR fig j 3) else 0)) + (0 + (if (1 : Int) + 0 = 1 then φ (bR fig i 1) * φ (bR fig j 0) else 0) + (if (1 : Int) + 1 = 1 then φ (bR fig i 1) * φ (bR fig j 1) else 0) + (if (1 : Int) + 2 = 1 then φ (bR fig i 1) * φ (bR fig j 2) else 0) + (if (1 : Int) + 3 = 1 then φ (bR fig i 1) * φ (bR fig j 3) else 0)) + (0 + (if (2 : Int) + 0 = 1 then φ (bR fig i 2) * φ (bR fig j 0) else 0) + (if (2 : Int) + 1 = 1 then φ (bR fig i 2) * φ (bR fig j 1) else 0) + (if (2 : Int) + 2 = 1 then φ (bR fig i 2) * φ (bR fig j 2) else 0) + (if (2 : Int) + 3 = 1 then φ (bR fig i 2) * φ (bR fig j 3) else 0)) + (0 + (if (3 : Int) + 0 = 1 then φ (bR fig i 3) * φ (bR fig j 0) else 0) + (if (3 : Int) + 1 = 1 then φ (bR fig i 3) * φ (bR fig j 1) else 0) + (if (3 : Int) + 2 = 1 then φ (bR fig i 3) * φ (bR fig j 2) else 0) + (if (3 : Int) + 3 = 1 then φ (bR fig i 3) * φ (bR fig j 3) else 0)) = _
    rw [if_neg (by decide), if_pos (by decide), if_neg (by decide), if_neg (by decide), if_pos (by decide), if_neg (by decide), if_neg (by decide), if_neg (by decide), if_neg (by decide), if_neg (by decide), if_neg (by decide), if_neg (by decide), if_neg (by decide), if_neg (by decide), if_neg (by decide), if_neg (by decide)]
    grind
  have w2 : φ (mbF p (flF fig i) (flF fig j) 2) = φ (bR fig i 0) * φ (bR fig j 2) + φ (bR fig i 1) * φ (bR fig j 1) + φ (bR fig i 2) * φ (bR fig j 0) := by
    rw [mb_o h.1]
    show 0 + (0 + (if (0 : Int) + 0 = 2 then φ (bR fig i 0) * φ (bR fig j 0) else 0) + (if (0 : Int) + 1 = 2 then φ (bR fig i 0) * φ (bR fig j 1) else 0) + (if (0 : Int) + 2 = 2 then φ (bR fig i 0) * φ (bR fig j 2) else 0) + (if (0 : Int) + 3 = 2 then φ (bR fig i 0) * φ (bR fig j 3) else 0)) + (0 + (if (1 : Int) + 0 = 2 then φ (bR fig i 1) * φ (bR fig j 0) else 0) + (if (1 : Int) + 1 = 2 then φ (bR fig i 1) * φ (bR fig j 1) else 0) + (if (1 : Int) + 2 = 2 then φ (bR fig i 1) * φ (bR fig j 2) else 0) + (if (1 : Int) + 3 = 2 then φ (bR fig i 1) * φ (bR fig j 3) else 0)) + (0 + (if (2 : Int) + 0 = 2 then φ (bR fig i 2) * φ (bR fig j 0) else 0) + (if (2 : Int) + 1 = 2 then φ (bR fig i 2) * φ (bR fig j 1) else 0) + (if (2 : Int) + 2 = 2 then φ (bR fig i 2) * φ (bR fig j 2) else 0) + (if (2 : Int) + 3 = 2 then φ (bR fig i 2) * φ (bR fig j 3) else 0)) + (0 + (if (3 : Int) + 0 = 2 then φ (bR fig i 3) * φ (bR fig j 0) else 0) + (if (3 : Int) + 1 = 2 then φ (bR fig i 3) * φ (bR fig j 1) else 0) + (if (3 : Int) + 2 = 2 then φ (bR fig i 3) * φ (bR fig j 2) else 0) + (if (3 : Int) + 3 = 2 then φ (bR fig i 3) * φ (bR fig j 3) else 0)) = _
    rw [if_neg (by decide), if_neg (by decide), if_pos (by decide), if_neg (by decide), if_neg (by decide), if_pos (by decide), if_neg (by decide), if_neg (by decide), if_pos (by decide), if_neg (by decide), if_neg (by decide), if_neg (by decide), if_neg (by decide), if_neg (by decide), if_neg (by decide), if_neg (by decide)]
    grind
  have w3 : φ (mbF p (flF fig i) (flF fig j) 3) = φ (bR fig i 1) * φ (bR fig j 2) + φ (bR fig i 2) * φ (bR fig j 1) := by
    rw [mb_o h.1]
    show 0 + (0 + (if (0 : Int) + 0 = 3 then φ (bR fig i 0) * φ (bR fig j 0) else 0) + (if (0 : Int) + 1 = 3 then φ (bR fig i 0) * φ (bR fig j 1) else 0) + (if (0 : Int) + 2 = 3 then φ (bR fig i 0) * φ (bR fig j 2) else 0) + (if (0 : Int) + 3 = 3 then φ (bR fig i 0) * φ (bR fig j 3) else 0)) + (0 + (if (1 : Int) + 0 = 3 then φ (bR fig i 1) * φ (bR fig j 0) else 0) + (if (1 : Int) + 1 = 3 then φ (bR fig i 1) * φ (bR fig j 1) else 0) + (if (1 : Int) + 2 = 3 then φ (bR fig i 1) * φ (bR fig j 2) else 0) + (if (1 : Int) + 3 = 3 then φ (bR fig i 1) * φ (bR fig j 3) else 0)) + (0 + (if (2 : Int) + 0 = 3 then φ (bR fig i 2) * φ (bR fig j 0) else 0) + (if (2 : Int) + 1 = 3 then φ (bR fig i 2) * φ (bR fig j 1) else 0) + (if (2 : Int) + 2 = 3 then φ (bR fig i 2) * φ (bR fig j 2) else 0) + (if (2 : Int) + 3 = 3 then φ (bR fig i 2) * φ (bR fig j 3) else 0)) + (0 + (if (3 : Int) + 0 = 3 then φ (bR fig i 3) * φ (bR fig j 0) else 0) + (if (3 : Int) + 1 = 3 then φ (bR fig i 3) * φ (bR fig j 1) else 0) + (if (3 : Int) + 2 = 3 then φ (bR fig i 3) * φ (bR fig j 2) else 0) + (if (3 : Int) + 3 = 3 then φ (bR fig i 3) * φ (bR fig j 3) else 0)) = _
    rw [if_neg (by decide), if_neg (by decide), if_neg (by decide), if_pos (by decide), if_neg (by decide), if_neg (by decide), if_pos (by decide), if_neg (by decide), if_neg (by decide), if_pos (by decide), if_neg (by decide), if_neg (by decide), if_pos (by decide), if_neg (by decide), if_neg (by decide), if_neg (by decide)]
    grind
  have w4 : φ (mbF p (flF fig i) (flF fig j) 4) = φ (bR fig i 2) * φ (bR fig j 2) := by
    rw [mb_o h.1]
    show 0 + (0 + (if (0 : Int) + 0 = 4 then φ (bR fig i 0) * φ (bR fig j 0) else 0) + (if (0 : Int) + 1 = 4 then φ (bR fig i 0) * φ (bR fig j 1) else 0) + (if (0 : Int) + 2 = 4 then φ (bR fig i 0) * φ (bR fig j 2) else 0) + (if (0 : Int) + 3 = 4 then φ (bR fig i 0) * φ (bR fig j 3) else 0)) + (0 + (if (1 : Int) + 0 = 4 then φ (bR fig i 1) * φ (bR fig j 0) else 0) + (if (1 : Int) + 1 = 4 then φ (bR fig i 1) * φ (bR fig j 1) else 0) + (if (1 : Int) + 2 = 4 then φ (bR fig i 1) * φ (bR fig j 2) else 0) + (if (1 : Int) + 3 = 4 then φ (bR fig i 1) * φ (bR fig j 3) else 0)) + (0 + (if (2 : Int) + 0 = 4 then φ (bR fig i 2) * φ (bR fig j 0) else 0) + (if (2 : Int) + 1 = 4 then φ (bR fig i 2) * φ (bR fig j 1) else 0) + (if (2 : Int) + 2 = 4 then φ (bR fig i 2) * φ (bR fig j 2) else 0) + (if (2 : Int) + 3 = 4 then φ (bR fig i 2) * φ (bR fig j 3) else 0)) + (0 + (if (3 : Int) + 0 = 4 then φ (bR fig i 3) * φ (bR fig j 0) else 0) + (if (3 : Int) + 1 = 4 then φ (bR fig i 3) * φ (bR fig j 1) else 0) + (if (3 : Int) + 2 = 4 then φ (bR fig i 3) * φ (bR fig j 2) else 0) + (if (3 : Int) + 3 = 4 then φ (bR fig i 3) * φ (bR fig j 3) else 0)) = _
    rw [if_neg (by decide), if_neg (by decide), if_neg (by decide), if_neg (by decide), if_neg (by decide), if_neg (by decide), if_neg (by decide), if_pos (by decide), if_neg (by decide), if_neg (by decide), if_pos (by decide), if_neg (by decide), if_neg (by decide), if_pos (by decide), if_neg (by decide), if_neg (by decide)]
    grind
  have e := lw_pr3_4 (C := C) h.1 w0 w1 w2 w3 w4
  show 0 + ι (φ (lwN p 3 C 4 2 (mbF p (flF fig i) (flF fig j)) 0)) * y ^ 0 + ι (φ (lwN p 3 C 4 2 (mbF p (flF fig i) (flF fig j)) 1)) * y ^ 1 + ι (φ (lwN p 3 C 4 2 (mbF p (flF fig i) (flF fig j)) 2)) * y ^ 2 = (0 + ι (φ (bR fig i 0)) * y ^ 0 + ι (φ (bR fig i 1)) * y ^ 1 + ι (φ (bR fig i 2)) * y ^ 2) * (0 + ι (φ (bR fig j 0)) * y ^ 0 + ι (φ (bR fig j 1)) * y ^ 1 + ι (φ (bR fig j 2)) * y ^ 2)
  rw [e.1, e.2.1, e.2.2]
  have q0 : ι (φ (tbl p 3 C (bR fig i) 0 0)) * y ^ 0 + ι (φ (tbl p 3 C (bR fig i) 0 1)) * y ^ 1 + ι (φ (tbl p 3 C (bR fig i) 0 2)) * y ^ 2 = ι (φ (bR fig i 0)) * y ^ 0 + ι (φ (bR fig i 1)) * y ^ 1 + ι (φ (bR fig i 2)) * y ^ 2 := rfl
  have q1 := tb_e3 h.1 a (bR fig i) 0
  have q2 := tb_e3 h.1 a (bR fig i) 1
  simp only [a.1, a.2.1]
  clear e w0 w1 w2 w3 w4
  clear zi3 zj3
  generalize ι (φ (tbl p 3 C (bR fig i) 0 0)) = z00 at *
  generalize ι (φ (tbl p 3 C (bR fig i) 0 1)) = z01 at *
  generalize ι (φ (tbl p 3 C (bR fig i) 0 2)) = z02 at *
  generalize ι (φ (tbl p 3 C (bR fig i) 1 0)) = z10 at *
  generalize ι (φ (tbl p 3 C (bR fig i) 1 1)) = z11 at *
  generalize ι (φ (tbl p 3 C (bR fig i) 1 2)) = z12 at *
  generalize ι (φ (tbl p 3 C (bR fig i) 2 0)) = z20 at *
  generalize ι (φ (tbl p 3 C (bR fig i) 2 1)) = z21 at *
  generalize ι (φ (tbl p 3 C (bR fig i) 2 2)) = z22 at *
  generalize ι (φ (bR fig i 0)) = u0 at *
  generalize ι (φ (bR fig j 0)) = v0 at *
  generalize ι (φ (bR fig i 1)) = u1 at *
  generalize ι (φ (bR fig j 1)) = v1 at *
  generalize ι (φ (bR fig i 2)) = u2 at *
  generalize ι (φ (bR fig j 2)) = v2 at *
  clear a tr h
  have k1 : 0 + (v0 * z00 + v1 * z10 + v2 * z20) * y ^ 0 + (v0 * z01 + v1 * z11 + v2 * z21) * y ^ 1 + (v0 * z02 + v1 * z12 + v2 * z22) * y ^ 2 = v0 * (z00 * y ^ 0 + z01 * y ^ 1 + z02 * y ^ 2) + v1 * (z10 * y ^ 0 + z11 * y ^ 1 + z12 * y ^ 2) + v2 * (z20 * y ^ 0 + z21 * y ^ 1 + z22 * y ^ 2) := by
    clear q0 q1 q2
    grind
  rw [k1, q2, q1, q0]
  clear k1 q0 q1 q2
  grind
set_option maxHeartbeats 4000000 in
theorem tb_e4 {p : Int} {O E : Type} [I : Lean.Grind.CommRing O] [J : Lean.Grind.CommRing E] {φ : (Int → Int) → O} {ι : O → E} {y : E} {C : Int → Int → Int} (h : HM p φ) (a : ALG 4 (fun l => φ (C l)) ι y) (A : Int → Int → Int) (i : Nat) : ι (φ (tbl p 4 C A (i + 1) 0)) * y ^ 0 + ι (φ (tbl p 4 C A (i + 1) 1)) * y ^ 1 + ι (φ (tbl p 4 C A (i + 1) 2)) * y ^ 2 + ι (φ (tbl p 4 C A (i + 1) 3)) * y ^ 3 = y * (ι (φ (tbl p 4 C A i 0)) * y ^ 0 + ι (φ (tbl p 4 C A i 1)) * y ^ 1 + ι (φ (tbl p 4 C A i 2)) * y ^ 2 + ι (φ (tbl p 4 C A i 3)) * y ^ 3) := by
  have yn := a.2.2.2.2.2
  have yn : y ^ 4 = - (0 + ι (φ (C 0)) * y ^ 0 + ι (φ (C 1)) * y ^ 1 + ι (φ (C 2)) * y ^ 2 + ι (φ (C 3)) * y ^ 3) := yn
  have t0 : φ (tbl p 4 C A (i + 1) 0) = - (φ (C 0) * φ (tbl p 4 C A i 3)) := tb_a h
  have t1 : φ (tbl p 4 C A (i + 1) 1) = φ (tbl p 4 C A i 0) - φ (C 1) * φ (tbl p 4 C A i 3) := tb_b h (by decide) rfl
  have t2 : φ (tbl p 4 C A (i + 1) 2) = φ (tbl p 4 C A i 1) - φ (C 2) * φ (tbl p 4 C A i 3) := tb_b h (by decide) rfl
  have t3 : φ (tbl p 4 C A (i + 1) 3) = φ (tbl p 4 C A i 2) - φ (C 3) * φ (tbl p 4 C A i 3) := tb_b h (by decide) rfl
  rw [t0, t1, t2, t3, a.ineg, a.2.1, a.isub, a.2.1, a.isub, a.2.1, a.isub, a.2.1]
  generalize ι (φ (tbl p 4 C A i 0)) = z0 at *
  generalize ι (φ (tbl p 4 C A i 1)) = z1 at *
  generalize ι (φ (tbl p 4 C A i 2)) = z2 at *
  generalize ι (φ (tbl p 4 C A i 3)) = z3 at *
  generalize ι (φ (C 0)) = c0 at *
  generalize ι (φ (C 1)) = c1 at *
  generalize ι (φ (C 2)) = c2 at *
  generalize ι (φ (C 3)) = c3 at *
  clear t0 t1 t2 t3 a
  have k1 : y * (z0 * y ^ 0 + z1 * y ^ 1 + z2 * y ^ 2 + z3 * y ^ 3) = (z0 * y ^ 1 + z1 * y ^ 2 + z2 * y ^ 3) + z3 * y ^ 4 := by
    clear yn
    clear yn
    grind
  rw [k1, yn]
  clear k1 yn
  clear yn
  grind
set_option maxHeartbeats 4000000 in
theorem mb_e4 {p : Int} {O E : Type} [I : Lean.Grind.CommRing O] [J : Lean.Grind.CommRing E] {φ : (Int → Int) → O} {ι : O → E} {y : E} {C : Int → Int → Int} (h : HMs p φ) (a : ALG 4 (fun l => φ (C l)) ι y) {fig : Int → Int → Int → Int} (tr : TRF 4 fig) {i j : Int} (i0 : 0 ≤ i) (i1 : i < 4) (j0 : 0 ≤ j) (j1 : j < 4) : vE φ ι y 4 (mbL p 4 C fig i j) = vE φ ι y 4 (bR fig i) * vE φ ι y 4 (bR fig j) := by
  have w0 : φ (mbF p (flF fig i) (flF fig j) 0) = φ (bR fig i 0) * φ (bR fig j 0) := by
    rw [mb_o h.1]
    show 0 + (0 + (if (0 : Int) + 0 = 0 then φ (bR fig i 0) * φ (bR fig j 0) else 0) + (if (0 : Int) + 1 = 0 then φ (bR fig i 0) * φ (bR fig j 1) else 0) + (if (0 : Int) + 2 = 0 then φ (bR fig i 0) * φ (bR fig j 2) else 0) + (if (0 : Int) + 3 = 0 then φ (bR fig i 0) * φ (bR fig j 3) else 0)) + (0 + (if (1 : Int) + 0 = 0 then φ (bR fig i 1) * φ (bR fig j 0) else 0) + (if (1 : Int) + 1 = 0 then φ (bR fig i 1) * φ (bR fig j 1) else 0) + (if (1 : Int) + 2 = 0 then φ (bR fig i 1) * φ (bR fig j 2) else 0) + (if (1 : Int) + 3 = 0 then φ (bR fig i 1) * φ (bR fig j 3) else 0)) + (0 + (if (2 : Int) + 0 = 0 then φ (bR fig i 2) * φ (bR fig j 0) else 0) + (if (2 : Int) + 1 = 0 then φ (bR fig i 2) * φ (bR fig j 1) else 0) + (if (2 : Int) + 2 = 0 then φ (bR fig i 2) * φ (bR fig j 2) else 0) + (if (2 : Int) + 3 = 0 then φ (bR fig i 2) * φ (bR fig j 3) else 0)) + (0 + (if (3 : Int) + 0 = 0 then φ (bR fig i 3) * φ (bR fig j 0) else 0) + (if (3 : Int) + 1 = 0 then φ (bR fig i 3) * φ (bR fig j 1) else 0) + (if (3 : Int) + 2 = 0 then φ (bR fig i 3) * φ (bR fig j 2) else 0) + (if (3 : Int) + 3 = 0 then φ (bR fig i 3) * φ (bR fig j 3) else 0)) = _
    rw [if_pos (by decide), if_neg (by decide), if_neg (by decide), if_neg (by decide), if_neg (by decide), if_neg (by decide), if_neg (by decide), if_neg (by decide), if_neg (by decide), if_neg (by decide), if_neg (by decide), if_neg (by decide), if_neg (by decide), if_neg (by decide), if_neg (by decide), if_neg (by decide)]
    grind
  have w1 : φ (mbF p (flF fig i) (flF fig j) 1) = φ (bR fig i 0) * φ (bR fig j 1) + φ (bR fig i 1) * φ (bR fig j 0) := by
    rw [mb_o h.1]
    show 0 + (0 + (if (0 : Int) + 0 = 1 then φ (bR fig i 0) * φ (bR fig j 0) else 0) + (if (0 : Int) + 1 = 1 then φ (bR fig i 0) * φ (bR fig j 1) else 0) + (if (0 : Int) + 2 = 1 then φ (bR fig i 0) * φ (bR fig j 2) else 0) + (if (0 : Int) + 3 = 1 then φ (bR fig i 0) * φ (bR fig j 3) else 0)) + (0 + (if (1 : Int) + 0 = 1 then φ (bR fig i 1) * φ (bR fig j 0) else 0) + (if (1 : Int) + 1 = 1 then φ (bR fig i 1) * φ (bR fig j 1) else 0) + (if (1 : Int) + 2 = 1 then φ (bR fig i 1) * φ (bR fig j 2) else 0) + (if (1 : Int) + 3 = 1 then φ (bR fig i 1) * φ (bR fig j 3) else 0)) + (0 + (if (2 : Int) + 0 = 1 then φ (bR fig i 2) * φ (bR fig j 0) else 0) + (if (2 : Int) + 1 = 1 then φ (bR fig i 2) * φ (bR fig j 1) else 0) + (if (2 : Int) + 2 = 1 then φ (bR fig i 2) * φ (bR fig j 2) else 0) + (if (2 : Int) + 3 = 1 then φ (bR fig i 2) * φ (bR fig j 3) else 0)) + (0 + (if (3 : Int) + 0 = 1 then φ (bR fig i 3) * φ (bR fig j 0) else 0) + (if (3 : Int) + 1 = 1 then φ (bR fig i 3) * φ (bR fig j 1) else 0) + (if (3 : Int) + 2 = 1 then φ (bR fig i 3) * φ (bR fig j 2) else 0) + (if (3 : Int) + 3 = 1 then φ (bR fig i 3) * φ (bR fig j 3) else 0)) = _
    rw [if_neg (by decide), if_pos (by decide), if_neg (by decide), if_neg (by decide), if_pos (by decide), if_neg (by decide), if_neg (by decide), if_neg (by decide), if_neg (by decide), if_neg (by decide), if_neg (by decide), if_neg (by decide), if_neg (by decide), if_neg (by decide), if_neg (by decide), if_neg (by decide)]
    grind
  have w2 : φ (mbF p (flF fig i) (flF fig j) 2) = φ (bR fig i 0) * φ (bR fig j 2) + φ (bR fig i 1) * φ (bR fig j 1) + φ (bR fig i 2) * φ (bR fig j 0) := by
    rw [mb_o h.1]
    show 0 + (0 + (if (0 : Int) + 0 = 2 then φ (bR fig i 0) * φ (bR fig j 0) else 0) + (if (0 : Int) + 1 = 2 then φ (bR fig i 0) * φ (bR fig j 1) else 0) + (if (0 : Int) + 2 = 2 then φ (bR fig i 0) * φ (bR fig j 2) else 0) + (if (0 : Int) + 3 = 2 then φ (bR fig i 0) * φ (bR fig j 3) else 0)) + (0 + (if (1 : Int) + 0 = 2 then φ (bR fig i 1) * φ (bR fig j 0) else 0) + (if (1 : Int) + 1 = 2 then φ (bR fig i 1) * φ (bR fig j 1) else 0) + (if (1 : Int) + 2 = 2 then φ (bR fig i 1) * φ (bR fig j 2) else 0) + (if (1 : Int) + 3 = 2 then φ (bR fig i 1) * φ (bR fig j 3) else 0)) + (0 + (if (2 : Int) + 0 = 2 then φ (bR fig i 2) * φ (bR fig j 0) else 0) + (if (2 : Int) + 1 = 2 then φ (bR fig i 2) * φ (bR fig j 1) else 0) + (if (2 : Int) + 2 = 2 then φ (bR fig i 2) * φ (bR fig j 2) else 0) + (if (2 : Int) + 3 = 2 then φ (bR fig i 2) * φ (bR fig j 3) else 0)) + (0 + (if (3 : Int) + 0 = 2 then φ (bR fig i 3) * φ (bR fig j 0) else 0) + (if (3 : Int) + 1 = 2 then φ (bR fig i 3) * φ (bR fig j 1) else 0) + (if (3 : Int) + 2 = 2 then φ (bR fig i 3) * φ (bR fig j 2) else 0) + (if (3 : Int) + 3 = 2 then φ (bR fig i 3) * φ (bR fig j 3) else 0)) = _
    rw [if_neg (by decide), if_neg (by decide), if_pos (by decide), if_neg (by decide), if_neg (by decide), if_pos (by decide), if_neg (by decide), if_neg (by decide), if_pos (by decide), if_neg (by decide), if_neg (by decide), if_neg (by decide), if_neg (by decide), if_neg (by decide), if_neg (by decide), if_neg (by decide)]
    grind
  have w3 : φ (mbF p (flF fig i) (flF fig j) 3) = φ (bR fig i 0) * φ (bR fig j 3) + φ (bR fig i 1) * φ (bR fig j 2) + φ (bR fig i 2) * φ (bR fig j 1) + φ (bR fig i 3) * φ (bR fig j 0) := by
    rw [mb_o h.1]
    show 0 + (0 + (if (0 : Int) + 0 = 3 then φ (bR fig i 0) * φ (bR fig j 0) else 0) + (if (0 : Int) + 1 = 3 then φ (bR fig i 0) * φ (bR fig j 1) else 0) + (if (0 : Int) + 2 = 3 then φ (bR fig i 0) * φ (bR fig j 2) else 0) + (if (0 : Int) + 3 = 3 then φ (bR fig i 0) * φ (bR fig j 3) else 0)) + (0 + (if (1 : Int) + 0 = 3 then φ (bR fig i 1) * φ (bR fig j 0) else 0) + (if (1 : Int) + 1 = 3 then φ (bR fig i 1) * φ (bR fig j 1) else 0) + (if (1 : Int) + 2 = 3 then φ (bR fig i 1) * φ (bR fig j 2) else 0) + (if (1 : Int) + 3 = 3 then φ (bR fig i 1) * φ (bR fig j 3) else 0)) + (0 + (if (2 : Int) + 0 = 3 then φ (bR fig i 2) * φ (bR fig j 0) else 0) + (if (2 : Int) + 1 = 3 then φ (bR fig i 2) * φ (bR fig j 1) else 0) + (if (2 : Int) + 2 = 3 then φ (bR fig i 2) * φ (bR fig j 2) else 0) + (if (2 : Int) + 3 = 3 then φ (bR fig i 2) * φ (bR fig j 3) else 0)) + (0 + (if (3 : Int) + 0 = 3 then φ (bR fig i 3) * φ (bR fig j 0) else 0) + (if (3 : Int) + 1 = 3 then φ (bR fig i 3) * φ (bR fig j 1) else 0) + (if (3 : Int) + 2 = 3 then φ (bR fig i 3) * φ (bR fig j 2) else 0) + (if (3 : Int) + 3 = 3 then φ (bR fig i 3) * φ (bR fig j 3) else 0)) = _
    rw [if_neg (by decide), if_neg (by decide), if_neg (by decide), if_pos (by decide), if_neg (by decide), if_neg (by decide), if_pos (by decide), if_neg (by decide), if_neg (by decide), if_pos (by decide), if_neg (by decide), if_neg (by decide), if_pos (by decide), if_neg (by decide), if_neg (by decide), if_neg (by decide)]
    grind
  have w4 : φ (mbF p (flF fig i) (flF fig j) 4) = φ (bR fig i 1) * φ (bR fig j 3) + φ (bR fig i 2) * φ (bR fig j 2) + φ (bR fig i 3) * φ (bR fig j 1) := by
    rw [mb_o h.1]
    show 0 + (0 + (if (0 : Int) + 0 = 4 then φ (bR fig i 0) * φ (bR fig j 0) else 0) + (if (0 : Int) + 1 = 4 then φ (bR fig i 0) * φ (bR fig j 1) else 0) + (if (0 : Int) + 2 = 4 then φ (bR fig i 0) * φ (bR fig j 2) else 0) + (if (0 : Int) + 3 = 4 then φ (bR fig i 0) * φ (bR fig j 3) else 0)) + (0 + (if (1 : Int) + 0 = 4 then φ (bR fig i 1) * φ (bR fig j 0) else 0) + (if (1 : Int) + 1 = 4 then φ (bR fig i 1) * φ (bR fig j 1) else 0) + (if (1 : Int) + 2 = 4 then φ (bR fig i 1) * φ (bR fig j 2) else 0) + (if (1 : Int) + 3 = 4 then φ (bR fig i 1) * φ (bR fig j 3) else 0)) + (0 + (if (2 : Int) + 0 = 4 then φ (bR fig i 2) * φ (bR fig j 0) else 0) + (if (2 : Int) + 1 = 4 then φ (bR fig i 2) * φ (bR fig j 1) else 0) + (if (2 : Int) + 2 = 4 then φ (bR fig i 2) * φ (bR fig j 2) else 0) + (if (2 : Int) + 3 = 4 then φ (bR fig i 2) * φ (bR fig j 3) else 0)) + (0 + (if (3 : Int) + 0 = 4 then φ (bR fig i 3) * φ (bR fig j 0) else 0) + (if (3 : Int) + 1 = 4 then φ (bR fig i 3) * φ (bR fig j 1) else 0) + (if (3 : Int) + 2 = 4 then φ (bR fig i 3) * φ (bR fig j 2) else 0) + (if (3 : Int) + 3 = 4 then φ (bR fig i 3) * φ (bR fig j 3) else 0)) = _
    rw [if_neg (by decide), if_neg (by decide), if_neg (by decide), if_neg (by decide), if_neg (by decide), if_neg (by decide), if_neg (by decide), if_pos (by decide), if_neg (by decide), if_neg (by decide), if_pos (by decide), if_neg (by decide), if_neg (by decide), if_pos (by decide), if_neg (by decide), if_neg (by decide)]
    grind
  have w5 : φ (mbF p (flF fig i) (flF fig j) 5) = φ (bR fig i 2) * φ (bR fig j 3) + φ (bR fig i 3) * φ (bR fig j 2) := by
    rw [mb_o h.1]
    show 0 + (0 + (if (0 : Int) + 0 = 5 then φ (bR fig i 0) * φ (bR fig j 0) else 0) + (if (0 : Int) + 1 = 5 then φ (bR fig i 0) * φ (bR fig j 1) else 0) + (if (0 : Int) + 2 = 5 then φ (bR fig i 0) * φ (bR fig j 2) else 0) + (if (0 : Int) + 3 = 5 then φ (bR fig i 0) * φ (bR fig j 3) else 0)) + (0 + (if (1 : Int) + 0 = 5 then φ (bR fig i 1) * φ (bR fig j 0) else 0) + (if (1 : Int) + 1 = 5 then φ (bR fig i 1) * φ (bR fig j 1) else 0) + (if (1 : Int) + 2 = 5 then φ (bR fig i 1) * φ (bR fig j 2) else 0) + (if (1 : Int) + 3 = 5 then φ (bR fig i 1) * φ (bR fig j 3) else 0)) + (0 + (if (2 : Int) + 0 = 5 then φ (bR fig i 2) * φ (bR fig j 0) else 0) + (if (2 : Int) + 1 = 5 then φ (bR fig i 2) * φ (bR fig j 1) else 0) + (if (2 : Int) + 2 = 5 then φ (bR fig i 2) * φ (bR fig j 2) else 0) + (if (2 : Int) + 3 = 5 then φ (bR fig i 2) * φ (bR fig j 3) else 0)) + (0 + (if (3 : Int) + 0 = 5 then φ (bR fig i 3) * φ (bR fig j 0) else 0) + (if (3 : Int) + 1 = 5 then φ (bR fig i 3) * φ (bR fig j 1) else 0) + (if (3 : Int) + 2 = 5 then φ (bR fig i 3) * φ (bR fig j 2) else 0) + (if (3 : Int) + 3 = 5 then φ (bR fig i 3) * φ (bR fig j 3) else 0)) = _
    rw [if_neg (by decide), if_neg (by decide), if_neg (by decide), if_neg (by decide), if_neg (by decide), if_neg (by decide), if_neg (by decide), if_neg (by decide), if_neg (by decide), if_neg (by decide), if_neg (by decide), if_pos (by decide), if_neg (by decide), if_neg (by decide), if_pos (by decide), if_neg (by decide)]
    grind
  have w6 : φ (mbF p (flF fig i) (flF fig j) 6) = φ (bR fig i 3) * φ (bR fig j 3) := by
    rw [mb_o h.1]
    show 0 + (0 + (if (0 : Int) + 0 = 6 then φ (bR fig i 0) * φ (bR fig j 0) else 0) + (if (0 : Int) + 1 = 6 then φ (bR fig i 0) * φ (bR fig j 1) else 0) + (if (0 : Int) + 2 = 6 then φ (bR fig i 0) * φ (bR fig j 2) else 0) + (if (0 : Int) + 3 = 6 then φ (bR fig i 0) * φ (bR fig j 3) else 0)) + (0 + (if (1 : Int) + 0 = 6 then φ (bR fig i 1) * φ (bR fig j 0) else 0) + (if (1 : Int) + 1 = 6 then φ (bR fig i 1) * φ (bR fig j 1) else 0) + (if (1 : Int) + 2 = 6 then φ (bR fig i 1) * φ (bR fig j 2) else 0) + (if (1 : Int) + 3 = 6 then φ (bR fig i 1) * φ (bR fig j 3) else 0)) + (0 + (if (2 : Int) + 0 = 6 then φ (bR fig i 2) * φ (bR fig j 0) else 0) + (if (2 : Int) + 1 = 6 then φ (bR fig i 2) * φ (bR fig j 1) else 0) + (if (2 : Int) + 2 = 6 then φ (bR fig i 2) * φ (bR fig j 2) else 0) + (if (2 : Int) + 3 = 6 then φ (bR fig i 2) * φ (bR fig j 3) else 0)) + (0 + (if (3 : Int) + 0 = 6 then φ (bR fig i 3) * φ (bR fig j 0) else 0) + (if (3 : Int) + 1 = 6 then φ (bR fig i 3) * φ (bR fig j 1) else 0) + (if (3 : Int) + 2 = 6 then φ (bR fig i 3) * φ (bR fig j 2) else 0) + (if (3 : Int) + 3 = 6 then φ (bR fig i 3) * φ (bR fig j 3) else 0)) = _
    rw [if_neg (by decide), if_neg (by decide), if_neg (by decide), if_neg (by decide), if_neg (by decide), if_neg (by decide), if_neg (by decide), if_neg (by decide), if_neg (by decide), if_neg (by decide), if_neg (by decide), if_neg (by decide), if_neg (by decide), if_neg (by decide), if_neg (by decide), if_pos (by decide)]
    grind
  have e := lw_pr4_6 (C := C) h.1 w0 w1 w2 w3 w4 w5 w6
  show 0 + ι (φ (lwN p 4 C 6 3 (mbF p (flF fig i) (flF fig j)) 0)) * y ^ 0 + ι (φ (lwN p 4 C 6 3 (mbF p (flF fig i) (flF fig j)) 1)) * y ^ 1 + ι (φ (lwN p 4 C 6 3 (mbF p (flF fig i) (flF fig j)) 2)) * y ^ 2 + ι (φ (lwN p 4 C 6 3 (mbF p (flF fig i) (flF fig j)) 3)) * y ^ 3 = (0 + ι (φ (bR fig i 0)) * y ^ 0 + ι (φ (bR fig i 1)) * y ^ 1 + ι (φ (bR fig i 2)) * y ^ 2 + ι (φ (bR fig i 3)) * y ^ 3) * (0 + ι (φ (bR fig j 0)) * y ^ 0 + ι (φ (bR fig j 1)) * y ^ 1 + ι (φ (bR fig j 2)) * y ^ 2 + ι (φ (bR fig j 3)) * y ^ 3)
  rw [e.1, e.2.1, e.2.2.1, e.2.2.2]
  have q0 : ι (φ (tbl p 4 C (bR fig i) 0 0)) * y ^ 0 + ι (φ (tbl p 4 C (bR fig i) 0 1)) * y ^ 1 + ι (φ (tbl p 4 C (bR fig i) 0 2)) * y ^ 2 + ι (φ (tbl p 4 C (bR fig i) 0 3)) * y ^ 3 = ι (φ (bR fig i 0)) * y ^ 0 + ι (φ (bR fig i 1)) * y ^ 1 + ι (φ (bR fig i 2)) * y ^ 2 + ι (φ (bR fig i 3)) * y ^ 3 := rfl
  have q1 := tb_e4 h.1 a (bR fig i) 0
  have q2 := tb_e4 h.1 a (bR fig i) 1
  have q3 := tb_e4 h.1 a (bR fig i) 2
  simp only [a.1, a.2.1]
  clear e w0 w1 w2 w3 w4 w5 w6
  generalize ι (φ (tbl p 4 C (bR fig i) 0 0)) = z00 at *
  generalize ι (φ (tbl p 4 C (bR fig i) 0 1)) = z01 at *
  generalize ι (φ (tbl p 4 C (bR fig i) 0 2)) = z02 at *
  generalize ι (φ (tbl p 4 C (bR fig i) 0 3)) = z03 at *
  generalize ι (φ (tbl p 4 C (bR fig i) 1 0)) = z10 at *
  generalize ι (φ (tbl p 4 C (bR fig i) 1 1)) = z11 at *
  generalize ι (φ (tbl p 4 C (bR fig i) 1 2)) = z12 at *
  generalize ι (φ (tbl p 4 C (bR fig i) 1 3)) = z13 at *
  generalize ι (φ (tbl p 4 C (bR fig i) 2 0)) = z20 at *
  generalize ι (φ (tbl p 4 C (bR fig i) 2 1)) = z21 at *
  generalize ι (φ (tbl p 4 C (bR fig i) 2 2)) = z22 at *
  generalize ι (φ (tbl p 4 C (bR fig i) 2 3)) = z23 at *
  generalize ι (φ (tbl p 4 C (bR fig i) 3 0)) = z30 at *
  generalize ι (φ (tbl p 4 C (bR fig i) 3 1)) = z31 at *
  generalize ι (φ (tbl p 4 C (bR fig i) 3 2)) = z32 at *
  generalize ι (φ (tbl p 4 C (bR fig i) 3 3)) = z33 at *
  generalize ι (φ (bR fig i 0)) = u0 at *
  generalize ι (φ (bR fig j 0)) = v0 at *
  generalize ι (φ (bR fig i 1)) = u1 at *
  generalize ι (φ (bR fig j 1)) = v1 at *
  generalize ι (φ (bR fig i 2)) = u2 at *
  generalize ι (φ (bR fig j 2)) = v2 at *
  generalize ι (φ (bR fig i 3)) = u3 at *
  generalize ι (φ (bR fig j 3)) = v3 at *
  clear a tr h
  have k1 : 0 + (v0 * z00 + v1 * z10 + v2 * z20 + v3 * z30) * y ^ 0 + (v0 * z01 + v1 * z11 + v2 * z21 + v3 * z31) * y ^ 1 + (v0 * z02 + v1 * z12 + v2 * z22 + v3 * z32) * y ^ 2 + (v0 * z03 + v1 * z13 + v2 * z23 + v3 * z33) * y ^ 3 = v0 * (z00 * y ^ 0 + z01 * y ^ 1 + z02 * y ^ 2 + z03 * y ^ 3) + v1 * (z10 * y ^ 0 + z11 * y ^ 1 + z12 * y ^ 2 + z13 * y ^ 3) + v2 * (z20 * y ^ 0 + z21 * y ^ 1 + z22 * y ^ 2 + z23 * y ^ 3) + v3 * (z30 * y ^ 0 + z31 * y ^ 1 + z32 * y ^ 2 + z33 * y ^ 3) := by
    clear q0 q1 q2 q3
    grind
  rw [k1, q3, q2, q1, q0]
  clear k1 q0 q1 q2 q3
  grind
