/-! The chain of rings: each is a ring; lines lie in it. -/
theorem bR_f0 {p n : Int} {O : Type} [I : Lean.Grind.CommRing O] {φ : (Int → Int) → O} (h : HMs p φ) {fig : Int → Int → Int → Int} (f0 : ∀ l i m, 0 ≤ l → l < n → 0 ≤ i → i < 4 → 0 ≤ m → m < 21 → fig l i m = fg0 l i m) {l i : Int} (l0 : 0 ≤ l) (l1 : l < n) (i0 : 0 ≤ i) (i1 : i < 4) : φ (bR fig l i) = if i = l then φ t1 ^ 20 else 0 := by
  by_cases q : i = l
  · rw [if_pos q, ← h.1.tk]
    congr 1
    refine funext fun x => ?_
    unfold bR
    by_cases q2 : 0 ≤ x ∧ x ≤ 20
    · rw [if_pos q2, f0 l i _ l0 l1 i0 i1 (by omega) (by omega)]
      unfold fg0
      by_cases q3 : 20 - x = 0
      · rw [if_pos ⟨q, q3⟩, if_pos (by omega)]
      · rw [if_neg (fun z => q3 z.2), if_neg (by omega)]
    · rw [if_neg q2, if_neg (by omega)]
  · rw [if_neg q, ← h.1.2.2.2.2.2.1]
    congr 1
    refine funext fun x => ?_
    unfold bR
    split
    · rw [f0 l i _ l0 l1 i0 i1 (by omega) (by omega)]
      exact if_neg (fun z => q z.1)
    · rfl
theorem rst_0 {O E : Type} [I : Lean.Grind.CommRing O] [J : Lean.Grind.CommRing E] {p n : Int} {φ : (Int → Int) → O} {ι : O → E} {y : E} {c : Int → O} {fig : Int → Int → Int → Int} {dp : Int → Int} (h : HMs p φ) (hp : isPr p) (hn : 2 ≤ n ∧ n ≤ 4) (A : ALG n.toNat c ι y) (f0 : ∀ l i m, 0 ≤ l → l < n → 0 ≤ i → i < 4 → 0 ≤ m → m < 21 → fig l i m = fg0 l i m) (d0 : ∀ l, 0 ≤ l → l < n → dp l = 0) : RST p n φ ι y 0 fig dp := by
  have h2 := hp.two
  have eB : ∀ l, 0 ≤ l → l < n → vE φ ι y n.toNat (bR fig l) = ι (φ t1) ^ 20 * y ^ l.toNat := fun l l0 l1 => by
    unfold vE
    rw [su_one l l0 (by omega) (fun i i0 i1 ni => by rw [bR_f0 h f0 l0 l1 i0 (by omega), if_neg ni, A.i0]; grind), bR_f0 h f0 l0 l1 l0 (by omega), if_pos rfl, A.ipow]
  have lt : ∀ e, LT ι n.toNat (fun l => vE φ ι y n.toNat (bR fig l)) (ι (φ t1) ^ 20 * e) := fun e => by
    obtain ⟨w, rfl⟩ := A.2.2.2.1 e
    refine ⟨w, ?_⟩
    rw [← su_mul]
    exact su_congr fun l l0 l1 => by (try dsimp only); rw [eB l l0 (by omega)]; grind
  refine ⟨⟨fun l l0 l1 => by rw [d0 l l0 l1]; omega, fun l m l0 l1 m0 m1 => ?_, fun l i m i0 i1 l1 m0 m1 ne => absurd ?_ ne⟩, fun l i m l0 l1 i0 i1 m0 m1 => ?_, fun l i m l0 l1 i0 i1 m0 m1 => ?_, fun l i m l0 l1 i0 i1 m0 m1 => ?_, d0 0 (by omega) (by omega), fun i j i0 i1 j0 j1 => ?_, fun l l0 l1 => lt _⟩
  · rw [f0 l l m l0 l1 l0 (by omega) m0 (by omega), d0 l l0 l1]
    unfold fg0
    by_cases q : m = 0
    · rw [if_pos ⟨rfl, q⟩, if_pos q]
    · rw [if_neg (fun z => q z.2), if_neg q]
  · rw [f0 l i m (by omega) l1 i0 (by omega) m0 (by omega)]
    exact if_neg (fun z => by omega)
  · rw [f0 l i m l0 l1 (by omega) i1 m0 (by omega)]
    exact if_neg (fun z => by omega)
  · rw [f0 l i m l0 l1 i0 i1 m0 (by omega)]
    unfold fg0
    split <;> omega
  · rw [f0 l i m l0 l1 i0 i1 (by omega) (by omega)]
    exact if_neg (fun z => by omega)
  · refine ⟨ι (φ t1) ^ 20 * (y ^ i.toNat * y ^ j.toNat), lt _, ?_⟩
    rw [eB i i0 i1, eB j j0 j1]
    grind
theorem chain_rst {O E : Type} [I : Lean.Grind.CommRing O] [J : Lean.Grind.CommRing E] {p n L : Int} {C : Int → Int → Int} {φ : (Int → Int) → O} {ι : O → E} {y : E} {fK : Int → Int → Int → Int → Int} {dK : Int → Int → Int} (h : HMs p φ) (hp : isPr p) (hn : 2 ≤ n ∧ n ≤ 4) (A : ALG n.toNat (fun l => φ (C l)) ι y) (hL : L ≤ 19) (pch : PCH p n C fK dK L) : ∀ k : Nat, (k : Int) ≤ L → RNV p n C φ ι y k (fK k) (dK k)
  | 0, _ => ⟨h, hp, hn, A, by omega, rst_0 h hp hn A pch.1 pch.2.1⟩
  | k + 1, hk => by
    have ih := chain_rst h hp hn A hL pch k (by omega)
    obtain ⟨top, g, gn, -, nx⟩ := pch.2.2 k (by omega) (by omega)
    refine ⟨h, hp, hn, A, by omega, ?_⟩
    have := nx_rst ih (by omega) gn nx
    rw [show ((k + 1 : Nat) : Int) = (k : Int) + 1 by omega]
    exact this
/-- lines lie in every ring -/
theorem line_ok {O E : Type} [I : Lean.Grind.CommRing O] [J : Lean.Grind.CommRing E] {p n k : Int} {C : Int → Int → Int} {φ : (Int → Int) → O} {ι : O → E} {y : E} {fig : Int → Int → Int → Int} {dp : Int → Int} (v : RNV p n C φ ι y k fig dp) {w : Int} (w0 : 0 ≤ w) (w1 : w < p) : okE p n dp fig (lnE p w) := by
  obtain ⟨h, hp, hn, A, hk, r⟩ := v
  have h2 := hp.two
  obtain ⟨s0, e0⟩ := r.2.2.2.2.2.2 0 (by omega) (by omega)
  obtain ⟨s1, e1⟩ := r.2.2.2.2.2.2 1 (by omega) (by omega)
  have vx : ∃ x : Int, (0 ≤ x ∧ x < p) ∧ x = if w = 0 then 0 else p - w := ⟨_, by split <;> omega, rfl⟩
  obtain ⟨x, xb, hx⟩ := vx
  have f1 : φ (lnE p w 1) = φ t1 ^ 40 := by
    rw [← h.1.tk]
    congr 1
    refine funext fun z => ?_
    unfold lnE
    by_cases q : z = 40
    · rw [if_pos ⟨rfl, q⟩, if_pos (by omega)]
    · rw [if_neg (fun y => q y.2), if_neg (fun y => q y.2), if_neg (by omega)]
  have f0 : φ (lnE p w 0) = φ (nC x) * φ t1 ^ 40 := by
    rw [← h.1.tk, ← h.1.scal (f := fun z => if z = ((40 : Nat) : Int) then 1 else 0) (fun z hz => if_neg (by omega))]
    congr 1
    refine funext fun z => ?_
    unfold lnE
    rw [if_neg (by omega)]
    by_cases q : z = 40
    · rw [if_pos ⟨rfl, q⟩, ← hx, if_pos (show z = ((40 : Nat) : Int) by omega), Int.mul_one]
    · rw [if_neg (fun y => q y.2), if_neg (show ¬ z = ((40 : Nat) : Int) by omega), Int.mul_zero]
  have fz : ∀ i, i ≠ 0 → i ≠ 1 → φ (lnE p w i) = 0 := fun i i0 i1 => by
    rw [show lnE p w i = fun _ => 0 from funext fun z => by
      unfold lnE
      rw [if_neg (fun y => i1 y.1), if_neg (fun y => i0 y.1)]]
    exact h.1.2.2.2.2.2.1
  have ev : vE φ ι y n.toNat (lnE p w) = ι (φ t1) ^ 20 * su n.toNat (fun l => ι (s1 l + φ (nC x) * s0 l) * vE φ ι y n.toNat (bR fig l)) := by
    have t0 : vE φ ι y n.toNat (lnE p w) = ι (φ t1) ^ 20 * (ι (φ t1) ^ 20 * y ^ (1 : Int).toNat + ι (φ (nC x)) * (ι (φ t1) ^ 20 * y ^ (0 : Int).toNat)) := by
      unfold vE
      rw [su_more (n := 2) (m := n.toNat) (by omega) (fun i i0 i1 => by rw [fz i (by omega) (by omega), A.i0]; grind)]
      show 0 + ι (φ (lnE p w 0)) * y ^ (0 : Int).toNat + ι (φ (lnE p w 1)) * y ^ (1 : Int).toNat = _
      rw [f0, f1, A.2.1, A.ipow]
      grind
    rw [t0, e0, e1]
    refine congrArg (fun z => ι (φ t1) ^ 20 * z) ?_
    rw [← su_mul, ← su_add]
    exact su_congr fun l _ _ => by rw [A.1, A.2.1]; grind
  exact (ex_2 h h2.1 (by omega) r.1 r.2.1 ⟨fun i z => by
    unfold lnE
    split
    · omega
    · split
      · rw [← hx]
        exact xb
      · omega, fun i z hz => by
    unfold lnE
    rw [if_neg (by omega), if_neg (by omega)]⟩ ((cmb_vE (p := p) A).mpr ev)).1
