/-! A ring's basis by its depths: b_l t^(depth of l) is whole. -/
theorem su_dv {O : Type} [I : Lean.Grind.CommRing O] {T : O} {f : Int → O} : ∀ k : Nat, (∀ b : Int, 0 ≤ b → b < k → ∃ w, f b = T * w) → ∃ w, su k f = T * w
  | 0, _ => ⟨0, by rw [show su 0 f = 0 from rfl]; grind⟩
  | k + 1, h => by
    obtain ⟨w, hw⟩ := su_dv k (fun b b0 b1 => h b b0 (by omega))
    obtain ⟨x, hx⟩ := h k (by omega) (by omega)
    exact ⟨w + x, by rw [su_succ, hw, hx]; grind⟩
theorem pow_ad {O : Type} [I : Lean.Grind.CommRing O] (t : O) (a b : Nat) : t ^ (a + b) = t ^ a * t ^ b := by
  induction b with
  | zero => rw [Nat.add_zero, Lean.Grind.Semiring.pow_zero]; grind
  | succ b ih => rw [← Nat.add_assoc, Lean.Grind.Semiring.pow_succ, ih, Lean.Grind.Semiring.pow_succ]; grind
theorem yT {E : Type} [I : Lean.Grind.CommRing E] (T y b : E) : T * y ^ 1 * b = T * (y * b) := by grind
theorem RNV.yB {O E : Type} [I : Lean.Grind.CommRing O] [J : Lean.Grind.CommRing E] {p n k : Int} {C : Int → Int → Int} {φ : (Int → Int) → O} {ι : O → E} {y : E} {fig : Int → Int → Int → Int} {dp : Int → Int} (v : RNV p n C φ ι y k fig dp) {l : Int} (l0 : 0 ≤ l) (l1 : l < n) : LT ι n.toNat (fun b => vE φ ι y n.toNat (bR fig b)) (y * vE φ ι y n.toNat (bR fig l)) := by
  obtain ⟨h, hp, hn, a, hk, r⟩ := v
  have ly := r.2.2.2.2.2.2 1 (by omega) (by omega)
  obtain ⟨g, lg, eg⟩ := LT.mul a (fun i j i0 i1 j0 j1 => r.2.2.2.2.2.1 i j i0 (by omega) j0 (by omega)) ly (LT.b (B := fun b => vE φ ι y n.toNat (bR fig b)) a l0 (by omega))
  have e : g = y * vE φ ι y n.toNat (bR fig l) := tau_canN h a 20 (by
    rw [← eg, show (1 : Int).toNat = 1 from rfl]
    exact yT (ι (φ t1) ^ 20) y _)
  rw [← e]
  exact lg
theorem yB_row {O E : Type} [I : Lean.Grind.CommRing O] [J : Lean.Grind.CommRing E] {n : Nat} {c : Int → O} {ι : O → E} {y : E} (a : ALG (n + 1) c ι y) {β : Int → O} (z : β n = 0) : y * su (n + 1) (fun l => ι (β l) * y ^ l.toNat) = su (n + 1) (fun l => ι (if l = 0 then 0 else β (l - 1)) * y ^ l.toNat) := by
  rw [su_succ, z, a.i0, su_first, if_pos rfl, a.i0]
  rw [show y * (su n (fun l => ι (β l) * y ^ l.toNat) + 0 * y ^ ((n : Int)).toNat) = y * su n (fun l => ι (β l) * y ^ l.toNat) by grind, ← su_mul]
  rw [show ∀ w : E, 0 * y ^ ((0 : Int)).toNat + w = w from fun w => by grind]
  refine su_congr fun i i0 i1 => ?_
  rw [if_neg (by omega), show i + 1 - 1 = i by omega, show (i + 1).toNat = i.toNat + 1 by omega, Lean.Grind.Semiring.pow_succ]
  grind
theorem no_tau {p : Int} {O : Type} [I : Lean.Grind.CommRing O] {φ : (Int → Int) → O} (h : HMs p φ) (hp : 2 ≤ p) {x : O} : 1 ≠ φ t1 * x := fun e => by
  have := h.low (f := fun x => if x = 0 then 1 else 0) (a := x) 1 (by rw [h.1.2.2.2.2.1, e]; grind) 0 (by omega) (by omega)
  rw [if_pos rfl, em_id (by omega) (by omega)] at this
  omega
/-- coefficients of y times one of the basis -/
theorem RNV.yC {O E : Type} [I : Lean.Grind.CommRing O] [J : Lean.Grind.CommRing E] {p n k : Int} {C : Int → Int → Int} {φ : (Int → Int) → O} {ι : O → E} {y : E} {fig : Int → Int → Int → Int} {dp : Int → Int} (v : RNV p n C φ ι y k fig dp) {l : Int} (l0 : 0 ≤ l) (l1 : l + 1 < n) : ∃ s : Int → O, ∀ i, 0 ≤ i → i < n → (if i = 0 then 0 else φ (bR fig l (i - 1))) = su (l + 2).toNat (fun b => s b * φ (bR fig b i)) := by
  have ly := v.yB l0 (by omega)
  obtain ⟨h, hp, hn, a, hk, r⟩ := v
  have e : y * vE φ ι y n.toNat (bR fig l) = su n.toNat (fun i => ι (if i = 0 then 0 else φ (bR fig l (i - 1))) * y ^ i.toNat) := by
    have a' := a
    have en : n.toNat = (n - 1).toNat + 1 := by omega
    unfold vE
    rw [en] at a' ⊢
    exact yB_row (β := fun i => φ (bR fig l i)) a' (bR_0 h r.2.1 l0 (by omega) (by omega) (by omega))
  obtain ⟨s, hs⟩ := tri_top (R := bR fig) (ex := fun b => (20 - dp b).toNat) (l := l + 1) h a (fun b i b0 bi i1 => bR_0 h r.2.1 b0 (by omega) bi (by omega)) (fun b b0 b1 => bR_d h r.1 b0 (by omega)) (by omega) (by omega) ly e (fun i i0 i1 => by
    rw [if_neg (by omega)]
    exact bR_0 h r.2.1 l0 (by omega) (by omega) (by omega))
  refine ⟨s, fun i i0 i1 => ?_⟩
  refine y_ind (v := fun i => if i = 0 then 0 else φ (bR fig l (i - 1))) (w := fun i => su (l + 2).toNat (fun b => s b * φ (bR fig b i))) a ?_ i i0 (by omega)
  rw [← e, hs, show l + 1 + 1 = l + 2 by omega, su_congr (n := n.toNat) (f := fun i => ι (su (l + 2).toNat (fun b => s b * φ (bR fig b i))) * y ^ i.toNat) (g := fun i => su (l + 2).toNat (fun b => ι (s b) * (ι (φ (bR fig b i)) * y ^ i.toNat))) (fun i _ _ => by
    rw [a.isu, show su (l + 2).toNat (fun b => ι (s b * φ (bR fig b i))) * y ^ i.toNat = y ^ i.toNat * su (l + 2).toNat (fun b => ι (s b * φ (bR fig b i))) by grind, ← su_mul]
    exact su_congr fun b _ _ => by rw [a.2.1]; grind), su_swap]
  exact su_congr fun b _ _ => by rw [su_mul]; rfl
theorem num_c {O : Type} [I : Lean.Grind.CommRing O] {a s u t : O} (e : a = 0 + s * (a * (u * t ^ 1))) : a * 1 = a * (t * (s * u)) := by
  have q : a * (t * (s * u)) = 0 + s * (a * (u * t ^ 1)) := by
    clear e
    grind
  rw [q, ← e]
  clear q e
  grind
theorem num_alg {O : Type} [I : Lean.Grind.CommRing O] {d1 T R S s b X x w : O} (hs : d1 * s = X) (hr : R = S + s * b) (hR : d1 * R = T * x) (hS : d1 * S = T * w) : X * b = T * (x - w) := by
  have e : X * b = d1 * R - d1 * S := by
    rw [hr, ← hs]
    clear hs hr hR hS
    grind
  rw [e, hR, hS]
  clear e hs hr hR hS
  grind
set_option maxHeartbeats 1000000 in
/-- depths rise, and a basis by its depth is whole -/
theorem RNV.num {O E : Type} [I : Lean.Grind.CommRing O] [J : Lean.Grind.CommRing E] {p n k : Int} {C : Int → Int → Int} {φ : (Int → Int) → O} {ι : O → E} {y : E} {fig : Int → Int → Int → Int} {dp : Int → Int} (v : RNV p n C φ ι y k fig dp) : ∀ m : Nat, (m : Int) < n → ∀ l : Int, 0 ≤ l → l ≤ m → dp l ≤ dp m ∧ ∀ i, 0 ≤ i → i < n → ∃ w, φ t1 ^ (dp m).toNat * φ (bR fig l i) = φ t1 ^ 20 * w := by
  intro m
  induction m with
  | zero =>
    intro hm l l0 l1
    rw [show ((0 : Nat) : Int) = 0 from rfl] at hm l1 ⊢
    have r := v.2.2.2.2.2
    have el : l = 0 := by omega
    rw [el]
    refine ⟨Int.le_refl _, fun i i0 i1 => ?_⟩
    have b := r.1.1 0 (by omega) hm
    by_cases q : i = 0
    · rw [q, bR_d v.1 r.1 (by omega) hm, ← pow_ad, show (dp 0).toNat + (20 - dp 0).toNat = 20 by omega]
      exact ⟨1, by grind⟩
    · rw [bR_0 v.1 r.2.1 (by omega) hm (by omega) (by have := v.2.2.1; omega)]
      exact ⟨0, by grind⟩
  | succ m ih =>
    intro hm
    have hm : (m : Int) + 1 < n := by omega
    have ih := ih (by omega)
    obtain ⟨s, hs⟩ := v.yC (l := m) (by omega) hm
    have r := v.2.2.2.2.2
    have h := v.1
    have hn := v.2.2.1
    have p2 := v.2.1.two.1
    have b0 := r.1.1 m (by omega) (by omega)
    have b1 := r.1.1 ((m : Int) + 1) (by omega) hm
    rw [show ((m + 1 : Nat) : Int) = (m : Int) + 1 by omega]
    have sp : ∀ f : Int → O, su ((m : Int) + 2).toNat f = su (m + 1) f + f ((m : Int) + 1) := fun f => by
      rw [show ((m : Int) + 2).toNat = m + 1 + 1 by omega, su_succ, show ((m + 1 : Nat) : Int) = (m : Int) + 1 by omega]
    have top := hs ((m : Int) + 1) (by omega) hm
    rw [if_neg (by omega), show (m : Int) + 1 - 1 = m by omega, bR_d h r.1 (by omega) (by omega), sp, su_zeros (fun b b0 b1 => by rw [bR_0 h r.2.1 b0 (by omega) (by omega) (by omega)]; grind), bR_d h r.1 (by omega) hm] at top
    have le : dp m ≤ dp ((m : Int) + 1) := by
      by_cases q : dp m ≤ dp ((m : Int) + 1)
      · exact q
      · rw [show (20 - dp ((m : Int) + 1)).toNat = (20 - dp m).toNat + ((dp m - dp ((m : Int) + 1)).toNat - 1 + 1) by omega, pow_ad, pow_ad] at top
        have e := h.can (a := 1) (b := φ t1 * (s ((m : Int) + 1) * φ t1 ^ ((dp m - dp ((m : Int) + 1)).toNat - 1))) (20 - dp m).toNat (num_c top)
        exact absurd e (no_tau h p2)
    have se : φ t1 ^ (dp m).toNat * s ((m : Int) + 1) = φ t1 ^ (dp ((m : Int) + 1)).toNat := by
      refine h.can (20 - dp ((m : Int) + 1)).toNat ?_
      rw [← pow_ad, show (20 - dp ((m : Int) + 1)).toNat + (dp ((m : Int) + 1)).toNat = (dp m).toNat + (20 - dp m).toNat by omega, pow_ad, top]
      clear top hs ih
      grind
    have low : ∀ l : Int, 0 ≤ l → l ≤ m → ∀ i, 0 ≤ i → i < n → ∃ w, φ t1 ^ (dp m).toNat * φ (bR fig l i) = φ t1 ^ 20 * w := fun l l0 l1 => (ih l l0 l1).2
    intro l l0 l1
    by_cases q : l = (m : Int) + 1
    · rw [q]
      refine ⟨Int.le_refl _, fun i i0 i1 => ?_⟩
      have hr := hs i i0 i1
      rw [sp] at hr
      have hS : ∃ w, φ t1 ^ (dp m).toNat * su (m + 1) (fun b => s b * φ (bR fig b i)) = φ t1 ^ 20 * w := by
        rw [← su_mul]
        refine su_dv (m + 1) (fun b b0 b1 => ?_)
        obtain ⟨w, hw⟩ := low b b0 (by omega) i i0 i1
        refine ⟨s b * w, ?_⟩
        rw [show φ t1 ^ (dp m).toNat * (s b * φ (bR fig b i)) = s b * (φ t1 ^ (dp m).toNat * φ (bR fig b i)) by clear hr hw hs top se ih; grind, hw]
        clear hr hw hs top se ih
        grind
      have hR : ∃ x, φ t1 ^ (dp m).toNat * (if i = 0 then 0 else φ (bR fig m (i - 1))) = φ t1 ^ 20 * x := by
        by_cases q2 : i = 0
        · rw [if_pos q2]
          exact ⟨0, by clear hr hs top se ih; grind⟩
        · rw [if_neg q2]
          exact low m (by omega) (by omega) (i - 1) (by omega) (by omega)
      obtain ⟨w, hw⟩ := hS
      obtain ⟨x, hx⟩ := hR
      exact ⟨x - w, num_alg se hr hx hw⟩
    · have a := ih l l0 (by omega)
      refine ⟨by omega, fun i i0 i1 => ?_⟩
      obtain ⟨w, hw⟩ := a.2 i i0 i1
      refine ⟨φ t1 ^ (dp ((m : Int) + 1) - dp m).toNat * w, ?_⟩
      rw [show (dp ((m : Int) + 1)).toNat = (dp ((m : Int) + 1) - dp m).toNat + (dp m).toNat by omega, pow_ad, show φ t1 ^ (dp ((m : Int) + 1) - dp m).toNat * φ t1 ^ (dp m).toNat * φ (bR fig l i) = φ t1 ^ (dp ((m : Int) + 1) - dp m).toNat * (φ t1 ^ (dp m).toNat * φ (bR fig l i)) by clear hw hs top se ih; grind, hw]
      clear hw hs top se ih
      grind
/-- no figure of b_l lies deeper than its depth -/
theorem RNV.deep {O E : Type} [I : Lean.Grind.CommRing O] [J : Lean.Grind.CommRing E] {p n k : Int} {C : Int → Int → Int} {φ : (Int → Int) → O} {ι : O → E} {y : E} {fig : Int → Int → Int → Int} {dp : Int → Int} (v : RNV p n C φ ι y k fig dp) {l i m : Int} (l0 : 0 ≤ l) (l1 : l < n) (i0 : 0 ≤ i) (i1 : i < n) (m0 : dp l < m) (m1 : m ≤ 20) : fig l i m = 0 := by
  have hn := v.2.2.1
  have b := v.2.2.2.2.2.1.1 l l0 l1
  obtain ⟨w, hw⟩ := (v.num l.toNat (by omega) l l0 (by omega)).2 i i0 i1
  rw [show ((l.toNat : Nat) : Int) = l by omega] at hw
  have e : φ (fun x => bR fig l i (x - ((dp l).toNat : Nat))) = φ t1 ^ 20 * w := by
    rw [v.1.1.shiftN (f := bR fig l i) (fun x hx => if_neg (by omega)), hw]
  have z := v.1.low 20 e (20 - m + (dp l)) (by omega) (by omega)
  have q : (20 - m + dp l) - (((dp l).toNat : Nat) : Int) = 20 - m := by omega
  (try dsimp only at z)
  rw [q] at z
  unfold bR at z
  rw [if_pos (by omega), show 20 - (20 - m) = m by omega] at z
  have bd := v.2.2.2.2.2.2.2.1 l i m l0 l1 i0 (by omega) (by omega) m1
  rw [em_id bd.1 bd.2] at z
  exact z
theorem RNV.isDp {O E : Type} [I : Lean.Grind.CommRing O] [J : Lean.Grind.CommRing E] {p n k : Int} {C : Int → Int → Int} {φ : (Int → Int) → O} {ι : O → E} {y : E} {fig : Int → Int → Int → Int} {dp : Int → Int} (v : RNV p n C φ ι y k fig dp) {l w : Int} (l0 : 0 ≤ l) (l1 : l < n) (d : isDp (fig l) l w) : w = dp l := by
  have b := v.2.2.2.2.2.1.1 l l0 l1
  have f := v.2.2.2.2.2.1.2.1 l (dp l) l0 l1 b.1 b.2
  rw [if_pos rfl] at f
  refine isDp_one d ⟨b.1, b.2, fun m m0 m1 i i0 i1 => v.deep l0 l1 i0 (by omega) m0 m1, fun _ => ⟨l, l0, Int.le_refl _, by omega⟩⟩
