/-! The class's new basis: its rows, as they grow. -/
/-- what is grown for part i, but what is whole -/
def gvR (g : Int → Int) (i : Int) : Int → Int := fun x => if 0 ≤ x ∧ x ≤ 19 then g (21 * i + (20 - x)) else 0
theorem cut20 {p : Int} {O : Type} [I : Lean.Grind.CommRing O] {φ : (Int → Int) → O} (h : HM p φ) {f : Int → Int} (z : ∀ x, x < 0 → f x = 0) : φ f = φ (fun x => if x ≤ 19 then f x else 0) + φ t1 ^ 20 * φ (fun x => if x < 0 then 0 else f (x + 20)) := by
  rw [← h.shiftN (f := fun x => if x < 0 then 0 else f (x + 20)) (fun x hx => if_pos hx) 20, ← h.1]
  congr 1
  refine funext fun x => ?_
  show f x = (if x ≤ 19 then f x else 0) + (if x - ((20 : Nat) : Int) < 0 then 0 else f (x - ((20 : Nat) : Int) + 20))
  by_cases q : x ≤ 19
  · rw [if_pos q, if_pos (by omega), Int.add_zero]
  · rw [if_neg q, if_neg (by omega), show x - ((20 : Nat) : Int) + 20 = x by omega, Int.zero_add]
theorem ag_alg {O : Type} [I : Lean.Grind.CommRing O] {t G β S1 π S0 b c P : O} (e1 : t * S1 = b) (e0 : S0 = b - c) (ih : t * G = P) : t * (G + β * S1 + π * S0) = P + (β * b + π * (t * (b - c))) := by
  rw [e0, ← ih, show t * (G + β * S1 + π * (b - c)) = t * G + β * (t * S1) + π * (t * (b - c)) by clear e1 e0 ih; grind, e1]
  clear e1 e0 ih
  grind
/-- the rows of what is added, one by one -/
theorem ag_o {p n : Int} {O : Type} [I : Lean.Grind.CommRing O] {φ : (Int → Int) → O} (h : HM p φ) {fig f0 : Int → Int → Int → Int} (n4 : n ≤ 4) (tr : TRF n fig) (hb : ∀ l i, 0 ≤ l → l < n → 0 ≤ i → i < 4 → fig l i 20 = 0) (hf : ∀ l i m, 0 ≤ l → l < n → 0 ≤ i → i < 4 → 0 ≤ m → m ≤ 20 → f0 l i m = fig l i m) (bt pl : Int → Int) {i : Int} (i0 : 0 ≤ i) (i1 : i < n) : ∀ s : Nat, (s : Int) ≤ n → φ t1 * φ (gvR (agN p bt pl f0 s) i) = su s (fun a => φ (nC (bt a)) * φ (bR fig a i) + φ (nC (pl a)) * (φ t1 * (φ (bR fig a i) - φ t1 ^ 20 * φ (nC (fig a i 0)))))
  | 0, _ => by
    have e : gvR (agN p bt pl f0 0) i = fun _ => 0 := funext fun x => by
      unfold gvR
      split <;> rfl
    rw [e, h.2.2.2.2.2.1]
    show φ t1 * 0 = 0
    grind
  | s + 1, hs => by
    have ih := ag_o h n4 tr hb hf bt pl i0 i1 s (by omega)
    have zS1 : ∀ x, x < 0 → (fun x => if 0 ≤ x ∧ x ≤ 19 then fig s i (19 - x) else 0) x = 0 := fun x hx => if_neg (by omega)
    have zS0 : ∀ x, x < 0 → (fun x => if 0 ≤ x ∧ x ≤ 19 then fig s i (20 - x) else 0) x = 0 := fun x hx => if_neg (by omega)
    have e : φ (gvR (agN p bt pl f0 (s + 1)) i) = φ (gvR (agN p bt pl f0 s) i) + φ (nC (bt s)) * φ (fun x => if 0 ≤ x ∧ x ≤ 19 then fig s i (19 - x) else 0) + φ (nC (pl s)) * φ (fun x => if 0 ≤ x ∧ x ≤ 19 then fig s i (20 - x) else 0) := by
      rw [← h.scal zS1, ← h.scal zS0, ← h.1, ← h.1, ← h.2.2.1 (gvR (agN p bt pl f0 (s + 1)) i), ← h.2.2.1 (fun x => gvR (agN p bt pl f0 s) i x + _ + _)]
      congr 1
      refine funext fun x => ?_
      (try dsimp only)
      unfold gvR
      by_cases q : 0 ≤ x ∧ x ≤ 19
      · rw [if_pos q, if_pos q, if_pos q, if_pos q]
        have y1 : (21 * i + (20 - x)) / 21 = i := by omega
        have y2 : (21 * i + (20 - x)) % 21 = 20 - x := by omega
        show adO p (bt s) (pl s) (f0 s) (agN p bt pl f0 s) s (s + 1) 1 (21 * i + (20 - x)) % p = _
        by_cases q2 : i ≤ s
        · rw [adO_1 ⟨by omega, by omega, by omega, Or.inl (by omega)⟩, y1, y2, show 20 - x - 1 = 19 - x by omega, hf s i _ (by omega) (by omega) i0 (by omega) (by omega) (by omega), hf s i _ (by omega) (by omega) i0 (by omega) (by omega) (by omega), Int.emod_emod_of_dvd _ (Int.dvd_refl p), Int.add_assoc]
        · rw [adO_0 (by omega), tr s i _ (by omega) (by omega) (by omega) (by omega) (by omega) (by omega), tr s i _ (by omega) (by omega) (by omega) (by omega) (by omega) (by omega), Int.mul_zero, Int.mul_zero, Int.add_zero, Int.add_zero]
      · rw [if_neg q, if_neg q, if_neg q, if_neg q, Int.mul_zero, Int.mul_zero, Int.add_zero, Int.add_zero]
    have e1 : φ t1 * φ (fun x => if 0 ≤ x ∧ x ≤ 19 then fig s i (19 - x) else 0) = φ (bR fig s i) := by
      rw [← h.shift zS1]
      congr 1
      refine funext fun x => ?_
      show (if 0 ≤ x - 1 ∧ x - 1 ≤ 19 then fig s i (19 - (x - 1)) else 0) = if 0 ≤ x ∧ x ≤ 20 then fig s i (20 - x) else 0
      by_cases q : 0 ≤ x - 1 ∧ x - 1 ≤ 19
      · rw [if_pos q, if_pos (by omega), show 19 - (x - 1) = 20 - x by omega]
      · rw [if_neg q]
        split
        · rw [show 20 - x = 20 by omega, hb s i (by omega) (by omega) i0 (by omega)]
        · rfl
    have e0 : φ (fun x => if 0 ≤ x ∧ x ≤ 19 then fig s i (20 - x) else 0) = φ (bR fig s i) - φ t1 ^ 20 * φ (nC (fig s i 0)) := by
      have c := cut20 h (f := bR fig s i) (fun x hx => if_neg (by omega))
      rw [show (fun x => if x ≤ 19 then bR fig s i x else 0) = (fun x => if 0 ≤ x ∧ x ≤ 19 then fig s i (20 - x) else 0) from funext fun x => by
        unfold bR
        by_cases q : 0 ≤ x ∧ x ≤ 19
        · rw [if_pos q.2, if_pos q, if_pos (by omega)]
        · rw [if_neg q]
          split
          · exact if_neg (by omega)
          · rfl, show (fun x => if x < 0 then 0 else bR fig s i (x + 20)) = nC (fig s i 0) from funext fun x => by
        unfold bR nC
        by_cases q : x = 0
        · rw [if_neg (by omega), if_pos (by omega), if_pos q, show 20 - (x + 20) = 0 by omega]
        · rw [if_neg q]
          split
          · rfl
          · exact if_neg (by omega)] at c
      rw [c]
      clear c e e1 ih
      grind
    rw [e, su_succ]
    exact ag_alg e1 e0 ih
/-- b_i taken off where it stands by t^m -/
theorem tk_o {p : Int} {O : Type} [I : Lean.Grind.CommRing O] {φ : (Int → Int) → O} (h : HM p φ) {f' : Int → Int → Int → Int} {i dpi m l : Int} {g : Int → Int} (i0 : 0 ≤ i) (d1 : dpi ≤ 20) (hd : ∀ m, 0 ≤ m → m ≤ 20 → f' i i m = if m = dpi then 1 else 0) (hz : ∀ l m, i < l → l < 4 → 0 ≤ m → m ≤ 20 → f' i l m = 0) (m0 : 1 ≤ m) (m1 : m ≤ dpi) (l0 : 0 ≤ l) (l4 : l < 4) : ∃ w, φ (gvR (tkS p dpi (f' i) i m g i 1) l) = φ (gvR g l) - (φ (nC (g (21 * i + m))) * φ t1 ^ (dpi - m).toNat) * φ (bR f' i l) + φ t1 ^ 20 * w := by
  have zb : ∀ x, x < 0 → bR f' i l x = 0 := fun x hx => if_neg (by omega)
  have sh := h.shiftN zb (dpi - m).toNat
  have zs : ∀ x, x < 0 → (fun x => bR f' i l (x - ((dpi - m).toNat : Nat))) x = 0 := fun x hx => zb _ (by omega)
  have c := cut20 h zs
  rw [sh] at c
  have zt : ∀ x, x < 0 → (fun x => if x ≤ 19 then (fun x => bR f' i l (x - ((dpi - m).toNat : Nat))) x else 0) x = 0 := fun x hx => by
    (try dsimp only)
    rw [if_pos (by omega)]
    exact zb _ (by omega)
  have e : φ (gvR (tkS p dpi (f' i) i m g i 1) l) = φ (gvR g l) + φ (nC (-1 * g (21 * i + m))) * φ (fun x => if x ≤ 19 then (fun x => bR f' i l (x - ((dpi - m).toNat : Nat))) x else 0) := by
    rw [← h.scal zt, ← h.1, ← h.2.2.1 (gvR (tkS p dpi (f' i) i m g i 1) l), ← h.2.2.1 (fun x => gvR g l x + _)]
    congr 1
    refine funext fun x => ?_
    (try dsimp only)
    unfold gvR
    by_cases q : 0 ≤ x ∧ x ≤ 19
    · rw [if_pos q, if_pos q, if_pos q.2]
      have y1 : (21 * l + (20 - x)) / 21 = l := by omega
      have y2 : (21 * l + (20 - x)) % 21 = 20 - x := by omega
      have br : bR f' i l (x - ((dpi - m).toNat : Nat)) = if 20 - x + dpi - m ≤ 20 then f' i l (20 - x + dpi - m) else 0 := by
        unfold bR
        by_cases q2 : 20 - x + dpi - m ≤ 20
        · rw [if_pos q2, if_pos (by omega), show 20 - (x - ((dpi - m).toNat : Int)) = 20 - x + dpi - m by omega]
        · rw [if_neg q2, if_neg (by omega)]
      rw [br]
      by_cases q3 : 21 * l + (20 - x) = 21 * i + m
      · have li : l = i := by omega
        have xm : 20 - x = m := by omega
        rw [q3, tkS_at, if_pos (by omega), li, hd _ (by omega) (by omega), if_pos (by omega), show g (21 * i + m) + -1 * g (21 * i + m) * 1 = 0 by omega]
      · by_cases q4 : tkC dpi i m (g (21 * i + m)) i 1 (21 * l + (20 - x))
        · rw [tkS_1 q3 q4, y1, y2]
          have r := q4.2.2.2.2.1
          rw [y2] at r
          rw [if_pos r, Int.emod_emod_of_dvd _ (Int.dvd_refl p), show g (21 * l + (20 - x)) + (p - g (21 * i + m)) * f' i l (20 - x + dpi - m) = g (21 * l + (20 - x)) + -1 * g (21 * i + m) * f' i l (20 - x + dpi - m) + p * f' i l (20 - x + dpi - m) by rw [Int.sub_mul, Int.mul_assoc]; omega, Int.add_mul_emod_self_left]
        · rw [tkS_0 q3 q4]
          have z : -1 * g (21 * i + m) * (if 20 - x + dpi - m ≤ 20 then f' i l (20 - x + dpi - m) else 0) = 0 := by
            by_cases q5 : 20 - x + dpi - m ≤ 20
            · rw [if_pos q5]
              rcases Int.lt_trichotomy l i with w | w | w
              · have g0 : g (21 * i + m) = 0 := Classical.byContradiction (fun ne => q4 ⟨ne, by omega, by omega, by omega, by omega, Or.inl (by omega)⟩)
                rw [g0]
                omega
              · rw [w, hd _ (by omega) (by omega), if_neg (by omega), Int.mul_zero]
              · rw [hz l _ w l4 (by omega) (by omega), Int.mul_zero]
            · rw [if_neg q5, Int.mul_zero]
          rw [z, Int.add_zero]
    · rw [if_neg q, if_neg q]
      have z : (if x ≤ 19 then bR f' i l (x - ((dpi - m).toNat : Nat)) else 0) = 0 := by
        split
        · exact zb _ (by omega)
        · rfl
      rw [z, Int.mul_zero, Int.add_zero]
  refine ⟨φ (nC (g (21 * i + m))) * φ (fun x => if x < 0 then 0 else (fun x => bR f' i l (x - ((dpi - m).toNat : Nat))) (x + 20)), ?_⟩
  rw [e, h.nC_mul, hm_m1 h, show φ (nC (g (21 * i + m))) * φ t1 ^ (dpi - m).toNat * φ (bR f' i l) = φ (nC (g (21 * i + m))) * (φ t1 ^ (dpi - m).toNat * φ (bR f' i l)) by clear e c sh; grind, c]
  generalize φ (fun x => if x ≤ 19 then (fun x => bR f' i l (x - ((dpi - m).toNat : Nat))) x else 0) = u1
  generalize φ (fun x => if x < 0 then 0 else (fun x => bR f' i l (x - ((dpi - m).toNat : Nat))) (x + 20)) = u2
  clear e c sh
  grind
theorem tk_hi {p dp i : Int} {fig : Int → Int → Int} {g : Int → Int} {x : Int} (i0 : 0 ≤ i) (hx : i ≤ x / 21) : ∀ s : Nat, (∀ m : Int, 1 ≤ m → m ≤ s → x ≠ 21 * i + m) → tkN p dp fig i g s x = g x
  | 0, _ => rfl
  | s + 1, h => by
    show tkS p dp fig i (s + 1) (tkN p dp fig i g s) i 1 x = g x
    rw [tkS_0 (h (s + 1) (by omega) (by omega)) (by omega)]
    exact tk_hi i0 hx s (fun m m0 m1 => h m m0 (by omega))
theorem tk_zero {p dp i : Int} {fig : Int → Int → Int} {g : Int → Int} (i0 : 0 ≤ i) : ∀ s : Nat, s ≤ 20 → ∀ m : Int, 1 ≤ m → m ≤ s → tkN p dp fig i g s (21 * i + m) = 0
  | 0, _, m, m0, m1 => by omega
  | s + 1, hs, m, m0, m1 => by
    show tkS p dp fig i (s + 1) (tkN p dp fig i g s) i 1 (21 * i + m) = 0
    by_cases q : m = s + 1
    · rw [q]
      exact tkS_at
    · rw [tkS_0 (by omega) (by omega)]
      exact tk_zero i0 s (by omega) m m0 (by omega)
theorem td_hi {p j : Int} {dp : Int → Int} {fig : Int → Int → Int → Int} {g : Int → Int} (hd : ∀ i, 0 ≤ i → i < j → dp i ≤ 20) {x : Int} : ∀ s : Nat, (s : Int) ≤ j → j ≤ x / 21 → tdN p j dp fig g s x = g x
  | 0, _, _ => rfl
  | s + 1, hs, hx => by
    have b := hd (j - 1 - s) (by omega) (by omega)
    show tkN p (dp (j - 1 - s)) (fig (j - 1 - s)) (j - 1 - s) (tdN p j dp fig g s) (dp (j - 1 - s)).toNat x = g x
    rw [tk_hi (by omega) (by omega) _ (fun m m0 m1 => by omega)]
    exact td_hi hd s (by omega) hx
theorem td_zero {p j : Int} {dp : Int → Int} {fig : Int → Int → Int → Int} {g : Int → Int} (hd : ∀ i, 0 ≤ i → i < j → dp i ≤ 20) : ∀ s : Nat, (s : Int) ≤ j → ∀ i m : Int, j - s ≤ i → i < j → 1 ≤ m → m ≤ dp i → tdN p j dp fig g s (21 * i + m) = 0
  | 0, _, i, m, a, b, _, _ => by omega
  | s + 1, hs, i, m, a, b, m0, m1 => by
    have c := hd i (by omega) b
    show tkN p (dp (j - 1 - s)) (fig (j - 1 - s)) (j - 1 - s) (tdN p j dp fig g s) (dp (j - 1 - s)).toNat (21 * i + m) = 0
    by_cases q : i = j - 1 - s
    · rw [← q]
      exact tk_zero (by omega) _ (by omega) m m0 (by omega)
    · have b2 := hd (j - 1 - s) (by omega) (by omega)
      rw [tk_hi (by omega) (by omega) _ (fun m' m0' m1' => by omega)]
      exact td_zero hd s (by omega) i m (by omega) b m0 m1
theorem q_su {E : Type} [J : Lean.Grind.CommRing E] {Q : E → Prop} (q0 : Q 0) (qa : ∀ a b, Q a → Q b → Q (a + b)) {f : Int → E} : ∀ k : Nat, (∀ i : Int, 0 ≤ i → i < k → Q (f i)) → Q (su k f)
  | 0, _ => q0
  | k + 1, h => qa _ _ (q_su q0 qa k (fun i i0 i1 => h i i0 (by omega))) (h k (by omega) (by omega))
theorem q_lin {O E : Type} [I : Lean.Grind.CommRing O] [J : Lean.Grind.CommRing E] {φ : (Int → Int) → O} {ι : O → E} {y : E} {n : Nat} {c : Int → O} (A : ALG n c ι y) {Q : E → Prop} (q0 : Q 0) (qa : ∀ a b, Q a → Q b → Q (a + b)) (qs : ∀ x a, Q a → Q (ι x * a)) (qT : ∀ l : Int, 0 ≤ l → l < n → Q (ι (φ t1) ^ 20 * y ^ l.toNat)) {V V' W : Int → Int → Int} {a : O} {w : Int → O} (hV : ∀ l : Int, 0 ≤ l → l < n → φ (V' l) = φ (V l) - a * φ (W l) + φ t1 ^ 20 * w l) (QV : Q (vE φ ι y n V)) (QW : Q (vE φ ι y n W)) : Q (vE φ ι y n V') := by
  have e : vE φ ι y n V' = vE φ ι y n V + (ι (- a) * vE φ ι y n W + su n (fun l => ι (w l) * (ι (φ t1) ^ 20 * y ^ l.toNat))) := by
    unfold vE
    rw [← su_mul, ← su_add, ← su_add]
    refine su_congr fun l l0 l1 => ?_
    rw [hV l l0 l1, A.1, A.isub, A.2.1, A.2.1, A.ipow, A.ineg]
    grind
  rw [e]
  exact qa _ _ QV (qa _ _ (qs _ _ QW) (q_su q0 qa n (fun l l0 l1 => qs _ _ (qT l l0 l1))))
theorem tk_q {O E : Type} [I : Lean.Grind.CommRing O] [J : Lean.Grind.CommRing E] {φ : (Int → Int) → O} {ι : O → E} {y : E} {p : Int} {n : Nat} {c : Int → O} (h : HM p φ) (A : ALG n c ι y) (n4 : n ≤ 4) {Q : E → Prop} (q0 : Q 0) (qa : ∀ a b, Q a → Q b → Q (a + b)) (qs : ∀ x a, Q a → Q (ι x * a)) (qT : ∀ l : Int, 0 ≤ l → l < n → Q (ι (φ t1) ^ 20 * y ^ l.toNat)) {f' : Int → Int → Int → Int} {i dpi : Int} {g : Int → Int} (i0 : 0 ≤ i) (d1 : dpi ≤ 20) (hd : ∀ m, 0 ≤ m → m ≤ 20 → f' i i m = if m = dpi then 1 else 0) (hz : ∀ l m, i < l → l < 4 → 0 ≤ m → m ≤ 20 → f' i l m = 0) (Qg : Q (vE φ ι y n (gvR g))) (Qi : Q (vE φ ι y n (bR f' i))) : ∀ s : Nat, (s : Int) ≤ dpi → Q (vE φ ι y n (gvR (tkN p dpi (f' i) i g s)))
  | 0, _ => Qg
  | s + 1, hs => by
    have ih := tk_q h A n4 q0 qa qs qT i0 d1 hd hz Qg Qi s (by omega)
    have ex := fun (l : Int) (l0 : 0 ≤ l) (l1 : l < 4) => tk_o h (f' := f') (dpi := dpi) (m := (s : Int) + 1) (g := tkN p dpi (f' i) i g s) i0 d1 hd hz (by omega) (by omega) l0 l1
    refine q_lin (V := gvR (tkN p dpi (f' i) i g s)) (W := bR f' i) (a := φ (nC (tkN p dpi (f' i) i g s (21 * i + ((s : Int) + 1)))) * φ t1 ^ (dpi - ((s : Int) + 1)).toNat) (w := fun l => if q : 0 ≤ l ∧ l < 4 then Classical.choose (ex l q.1 q.2) else 0) A q0 qa qs qT (fun l l0 l1 => ?_) ih Qi
    (try dsimp only)
    rw [dif_pos ⟨l0, by omega⟩]
    exact Classical.choose_spec (ex l l0 (by omega))
theorem td_q {O E : Type} [I : Lean.Grind.CommRing O] [J : Lean.Grind.CommRing E] {φ : (Int → Int) → O} {ι : O → E} {y : E} {p : Int} {n : Nat} {c : Int → O} (h : HM p φ) (A : ALG n c ι y) (n4 : n ≤ 4) {Q : E → Prop} (q0 : Q 0) (qa : ∀ a b, Q a → Q b → Q (a + b)) (qs : ∀ x a, Q a → Q (ι x * a)) (qT : ∀ l : Int, 0 ≤ l → l < n → Q (ι (φ t1) ^ 20 * y ^ l.toNat)) {f' : Int → Int → Int → Int} {dp : Int → Int} {j : Int} {g : Int → Int} (d1 : ∀ i, 0 ≤ i → i < j → 0 ≤ dp i ∧ dp i ≤ 20) (hd : ∀ i m, 0 ≤ i → i < j → 0 ≤ m → m ≤ 20 → f' i i m = if m = dp i then 1 else 0) (hz : ∀ i l m, 0 ≤ i → i < j → i < l → l < 4 → 0 ≤ m → m ≤ 20 → f' i l m = 0) (Qg : Q (vE φ ι y n (gvR g))) (Qi : ∀ i, 0 ≤ i → i < j → Q (vE φ ι y n (bR f' i))) : ∀ s : Nat, (s : Int) ≤ j → Q (vE φ ι y n (gvR (tdN p j dp f' g s)))
  | 0, _ => Qg
  | s + 1, hs => by
    have ih := td_q h A n4 q0 qa qs qT d1 hd hz Qg Qi s (by omega)
    have b := d1 (j - 1 - s) (by omega) (by omega)
    exact tk_q h A n4 q0 qa qs qT (by omega) b.2 (fun m m0 m1 => hd (j - 1 - s) m (by omega) (by omega) m0 m1) (fun l m l0 l1 m0 m1 => hz (j - 1 - s) l m (by omega) (by omega) l0 l1 m0 m1) ih (Qi (j - 1 - s) (by omega) (by omega)) _ (by omega)
