/-! One reduced basis. -/
theorem tri_co {p : Int} {O E : Type} [I : Lean.Grind.CommRing O] [J : Lean.Grind.CommRing E] {φ : (Int → Int) → O} {ι : O → E} {y : E} {n m : Nat} {c : Int → O} (a : ALG n c ι y) {R : Int → Int → Int → Int} {V : Int → Int → Int} {s : Int → O} (e : vE φ ι y n V = su m (fun b => ι (s b) * vE φ ι y n (R b))) {i : Int} (i0 : 0 ≤ i) (i1 : i < n) : φ (V i) = su m (fun b => s b * φ (R b i)) := by
  refine y_ind (v := fun i => φ (V i)) (w := fun i => su m (fun b => s b * φ (R b i))) a ?_ i i0 i1
  rw [show su n (fun l => ι (φ (V l)) * y ^ l.toNat) = vE φ ι y n V from rfl, e, su_congr (n := n) (f := fun i => ι (su m (fun b => s b * φ (R b i))) * y ^ i.toNat) (g := fun i => su m (fun b => ι (s b) * (ι (φ (R b i)) * y ^ i.toNat))) (fun i _ _ => by
    rw [a.isu, show su m (fun b => ι (s b * φ (R b i))) * y ^ i.toNat = y ^ i.toNat * su m (fun b => ι (s b * φ (R b i))) by grind, ← su_mul]
    exact su_congr fun b _ _ => by rw [a.2.1]; grind), su_swap]
  exact su_congr fun b _ _ => by rw [su_mul]; rfl
theorem one_red {p : Int} {O : Type} [I : Lean.Grind.CommRing O] {φ : (Int → Int) → O} (h : HMs p φ) {f g : Int → Int} {s : O} {k : Nat} (bf : ∀ x, 0 ≤ f x ∧ f x < p) (bg : ∀ x, 0 ≤ g x ∧ g x < p) (zf : ∀ x : Int, k ≤ x → f x = 0) (zg : ∀ x : Int, k ≤ x → g x = 0) (nf : ∀ x, x < 0 → f x = 0) (ng : ∀ x, x < 0 → g x = 0) (e : φ g = s * φ t1 ^ k + φ f) : s = 0 ∧ ∀ x, g x = f x := by
  have d : φ (fun x => g x + (fun x => -1 * f x) x) = φ t1 ^ k * s := by
    rw [h.1.1, h.1.2.2.2.1, e]
    clear e
    grind
  have eq : ∀ x, g x = f x := fun x => by
    by_cases q : x < 0
    · rw [nf x q, ng x q]
    · by_cases q2 : x < k
      · have z := h.low k d x (by omega) q2
        have b1 := bf x
        have b2 := bg x
        (try dsimp only at z)
        have m : p ∣ g x + -1 * f x := Int.dvd_of_emod_eq_zero z
        obtain ⟨t, ht⟩ := m
        have t0 : t = 0 := by
          rcases Int.lt_trichotomy t 0 with r | r | r
          · have : p * t ≤ p * (-1) := Int.mul_le_mul_of_nonneg_left (by omega) (by omega)
            omega
          · exact r
          · have : p * 1 ≤ p * t := Int.mul_le_mul_of_nonneg_left (by omega) (by omega)
            omega
        rw [t0] at ht
        omega
      · rw [zf x (by omega), zg x (by omega)]
  refine ⟨h.can k ?_, eq⟩
  rw [show f = g from funext fun x => (eq x).symm] at e
  have q : s * φ t1 ^ k = 0 := by
    have : s * φ t1 ^ k = s * φ t1 ^ k + φ g + - φ g := by clear e d; grind
    rw [this, ← e]
    clear this e d
    grind
  rw [show φ t1 ^ k * s = s * φ t1 ^ k by clear e d q; grind, q]
  clear e d q
  grind
set_option maxHeartbeats 1000000 in
theorem rdc_uniq {p n : Int} {O E : Type} [I : Lean.Grind.CommRing O] [J : Lean.Grind.CommRing E] {φ : (Int → Int) → O} {ι : O → E} {y : E} {c : Int → O} (h : HMs p φ) (hp : 2 ≤ p) (hn : 2 ≤ n ∧ n ≤ 4) (a : ALG n.toNat c ι y) {f f' : Int → Int → Int → Int} {dp : Int → Int} (r : RDC n f dp) (r' : RDC n f' dp) (t : TRF n f) (t' : TRF n f') (b : ∀ l i m, 0 ≤ l → l < n → 0 ≤ i → i < 4 → 0 ≤ m → m ≤ 20 → 0 ≤ f l i m ∧ f l i m < p) (b' : ∀ l i m, 0 ≤ l → l < n → 0 ≤ i → i < 4 → 0 ≤ m → m ≤ 20 → 0 ≤ f' l i m ∧ f' l i m < p) {j : Int} (j0 : 0 ≤ j) (j1 : j < n) (hu : LT ι n.toNat (fun l => vE φ ι y n.toNat (bR f l)) (vE φ ι y n.toNat (bR f' j))) {i m : Int} (i0 : 0 ≤ i) (i1 : i < 4) (m0 : 0 ≤ m) (m1 : m ≤ 20) : f' j i m = f j i m := by
  obtain ⟨s, hs⟩ := tri_top (R := bR f) (ex := fun b => (20 - dp b).toNat) (l := j) h a (fun b i b0 bi i1 => bR_0 h t b0 (by omega) bi (by omega)) (fun b b0 b1 => bR_d h r b0 (by omega)) j0 (by omega) hu (w := fun i => φ (bR f' j i)) rfl (fun i i0 i1 => bR_0 h t' j0 j1 i0 (by omega))
  have co : ∀ i, 0 ≤ i → i < n → φ (bR f' j i) = su j.toNat (fun b => s b * φ (bR f b i)) + s j * φ (bR f j i) := fun i i0 i1 => by
    have := tri_co (p := p) a hs i0 (by omega)
    rw [show (j + 1).toNat = j.toNat + 1 by omega, su_succ, show ((j.toNat : Nat) : Int) = j by omega] at this
    exact this
  have sj : s j = 1 := by
    have e := co j j0 j1
    rw [bR_d h r' j0 j1, su_zeros (fun b b0 b1 => by rw [bR_0 h t b0 (by omega) (by omega) (by omega)]; grind), bR_d h r j0 j1] at e
    refine h.can (20 - dp j).toNat ?_
    rw [show φ t1 ^ (20 - dp j).toNat * 1 = φ t1 ^ (20 - dp j).toNat by clear e; grind, show φ t1 ^ (20 - dp j).toNat * s j = 0 + s j * φ t1 ^ (20 - dp j).toNat by clear e; grind]
    exact e.symm
  have down : ∀ k : Nat, ∀ d : Int, j - k ≤ d → 0 ≤ d → d < j → s d = 0 ∧ ∀ x, bR f' j d x = bR f j d x := fun k => by
    induction k with
    | zero => exact fun d q _ q2 => by omega
    | succ k ih =>
      intro d q q0 q2
      have bd := r.1 d q0 (by omega)
      have e := co d q0 (by omega)
      rw [su_one d q0 (by omega) (fun c c0 c1 nc => by
        rcases Int.lt_or_lt_of_ne nc with w | w
        · rw [bR_0 h t c0 (by omega) w (by omega)]
          grind
        · rw [(ih c (by omega) c0 (by omega)).1]
          grind), bR_d h r q0 (by omega), sj, show 1 * φ (bR f j d) = φ (bR f j d) by clear e; grind] at e
      refine one_red (f := bR f j d) (g := bR f' j d) h (fun x => ?_) (fun x => ?_) (fun x hx => ?_) (fun x hx => ?_) (fun x hx => if_neg (by omega)) (fun x hx => if_neg (by omega)) e
      · unfold bR
        split
        · exact b j d _ j0 j1 q0 (by omega) (by omega) (by omega)
        · omega
      · unfold bR
        split
        · exact b' j d _ j0 j1 q0 (by omega) (by omega) (by omega)
        · omega
      · unfold bR
        split
        · refine Classical.byContradiction fun z => ?_
          have := r.2.2 j d (20 - x) q0 q2 j1 (by omega) (by omega) z
          omega
        · rfl
      · unfold bR
        split
        · refine Classical.byContradiction fun z => ?_
          have := r'.2.2 j d (20 - x) q0 q2 j1 (by omega) (by omega) z
          omega
        · rfl
  rcases Int.lt_trichotomy i j with q | q | q
  · have e := (down j.toNat i (by omega) i0 q).2 (20 - m)
    unfold bR at e
    rw [if_pos (by omega), if_pos (by omega), show 20 - (20 - m) = m by omega] at e
    exact e
  · rw [q, r.2.1 j m j0 j1 m0 m1, r'.2.1 j m j0 j1 m0 m1]
  · rw [t j i m j0 j1 q i1 m0 m1, t' j i m j0 j1 q i1 m0 m1]
