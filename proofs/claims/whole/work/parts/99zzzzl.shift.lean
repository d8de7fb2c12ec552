/-! Moving x by a number, in the ring of rows. -/
/-- a polynomial at a number of the ring -/
def evF {O : Type} [I : Lean.Grind.CommRing O] (φ : (Int → Int) → O) (a : O) (N : Nat) (f : Int → Int) : O := su N (fun i => φ (nC (f i)) * a ^ i.toNat)
theorem su_first {E : Type} [I : Lean.Grind.CommRing E] (n : Nat) (f : Int → E) : su (n + 1) f = f 0 + su n (fun i => f (i + 1)) := by
  induction n with
  | zero =>
    show 0 + f 0 = f 0 + 0
    grind
  | succ n ih =>
    rw [su_succ, ih, su_succ n (fun i => f (i + 1)), show ((n + 1 : Nat) : Int) = (n : Int) + 1 by omega]
    grind
theorem ev_first {O : Type} [I : Lean.Grind.CommRing O] (φ : (Int → Int) → O) (a : O) (N : Nat) (f : Int → Int) : evF φ a (N + 1) f = φ (nC (f 0)) + a * evF φ a N (fun i => f (i + 1)) := by
  unfold evF
  rw [su_first, ← su_mul]
  have e : su N (fun i => φ (nC (f (i + 1))) * a ^ (i + 1).toNat) = su N (fun i => a * (φ (nC (f (i + 1))) * a ^ i.toNat)) := su_congr fun i i0 i1 => by
    rw [show (i + 1).toNat = i.toNat + 1 by omega, Lean.Grind.Semiring.pow_succ]
    grind
  rw [e, show (0 : Int).toNat = 0 from rfl, Lean.Grind.Semiring.pow_zero]
  grind
theorem ev_more {p : Int} {O : Type} [I : Lean.Grind.CommRing O] {φ : (Int → Int) → O} (h : HM p φ) (a : O) {N M : Nat} {f : Int → Int} (hNM : N ≤ M) (z : ∀ x : Int, N ≤ x → f x = 0) : evF φ a M f = evF φ a N f := su_more hNM (fun i i0 i1 => by rw [z i i0, h.nC_0]; grind)
theorem ev_add {p : Int} {O : Type} [I : Lean.Grind.CommRing O] {φ : (Int → Int) → O} (h : HM p φ) (a : O) (N : Nat) (f g : Int → Int) : evF φ a N (fun x => f x + g x) = evF φ a N f + evF φ a N g := by
  unfold evF
  rw [← su_add]
  exact su_congr fun i _ _ => by rw [h.nC_add]; grind
theorem ev_sca {p : Int} {O : Type} [I : Lean.Grind.CommRing O] {φ : (Int → Int) → O} (h : HM p φ) (a : O) (N : Nat) (k : Int) (f : Int → Int) : evF φ a N (fun x => k * f x) = φ (nC k) * evF φ a N f := by
  unfold evF
  rw [← su_mul]
  exact su_congr fun i _ _ => by rw [h.nC_mul]; grind
theorem ev_mod {p : Int} {O : Type} [I : Lean.Grind.CommRing O] {φ : (Int → Int) → O} (h : HM p φ) (a : O) (N : Nat) (f : Int → Int) : evF φ a N (fun x => f x % p) = evF φ a N f := su_congr fun i _ _ => by rw [h.nC_mod]
theorem ev_zero {p : Int} {O : Type} [I : Lean.Grind.CommRing O] {φ : (Int → Int) → O} (h : HM p φ) (a : O) (N : Nat) : evF φ a N (fun _ => 0) = 0 := su_zeros fun i _ _ => by rw [h.nC_0]; grind
theorem ev_congr {O : Type} [I : Lean.Grind.CommRing O] {φ : (Int → Int) → O} {a : O} {N : Nat} {f g : Int → Int} (e : ∀ x : Int, 0 ≤ x → x < N → f x = g x) : evF φ a N f = evF φ a N g := su_congr fun i i0 i1 => by rw [e i i0 i1]
theorem ev_mul {p : Int} {O : Type} [I : Lean.Grind.CommRing O] {φ : (Int → Int) → O} (h : HM p φ) (a : O) (M : Nat) (g : Int → Int) (zg : ∀ x : Int, M ≤ x → g x = 0) : ∀ (N : Nat) (f : Int → Int), (∀ x : Int, N ≤ x → f x = 0) → evF φ a (N + M) (cnv f g) = evF φ a N f * evF φ a M g
  | 0, f, zf => by
    rw [show evF φ a 0 f = 0 from rfl, Nat.zero_add, ev_congr (f := cnv f g) (g := fun _ => 0) (fun x x0 x1 => sm_zeros fun i i0 i1 => by rw [zf i (by omega), Int.zero_mul]), ev_zero h]
    grind
  | N + 1, f, zf => by
    have e1 : evF φ a (N + 1 + M) (cnv f g) = evF φ a (N + 1 + M) (fun x => f 0 * g x) + evF φ a (N + 1 + M) (fun x => if x = 0 then 0 else cnv (fun i => f (i + 1)) g (x - 1)) := by
      rw [← ev_add h]
      refine ev_congr fun x x0 x1 => ?_
      by_cases q : x = 0
      · rw [if_pos q, q]
        unfold cnv
        rw [show ((0 : Int) + 1).toNat = 0 + 1 from rfl, sm_succ, sm_zero]
        show 0 + f 0 * g (0 - 0) = f 0 * g 0 + 0
        rw [Int.sub_zero]
        omega
      · rw [if_neg q]
        have := cnv_step f g (x - 1).toNat
        rw [show (((x - 1).toNat : Nat) : Int) + 1 = x by omega, show (((x - 1).toNat : Nat) : Int) = x - 1 by omega] at this
        exact this
    have e2 : evF φ a (N + 1 + M) (fun x => if x = 0 then 0 else cnv (fun i => f (i + 1)) g (x - 1)) = a * evF φ a (N + M) (cnv (fun i => f (i + 1)) g) := by
      rw [show N + 1 + M = (N + M) + 1 by omega, ev_first]
      (try dsimp only)
      rw [if_pos rfl, h.nC_0, ev_congr (g := cnv (fun i => f (i + 1)) g) (fun x x0 x1 => by rw [if_neg (by omega), show x + 1 - 1 = x by omega])]
      grind
    rw [e1, e2, ev_sca h, ev_more h a (N := M) (M := N + 1 + M) (by omega) zg, ev_mul h a M g zg N (fun i => f (i + 1)) (fun x hx => zf _ (by omega)), ev_first]
    grind
/-- at t it is the row itself -/
theorem ev_t {p : Int} {O : Type} [I : Lean.Grind.CommRing O] {φ : (Int → Int) → O} (h : HM p φ) {N : Nat} {f : Int → Int} (z0 : ∀ x, x < 0 → f x = 0) (z1 : ∀ x : Int, N ≤ x → f x = 0) : evF φ (φ t1) N f = φ f := by
  unfold evF
  rw [su_congr (g := fun i => φ (fun x => f i * (if x = i then 1 else 0))) (fun i i0 i1 => by
    have := h.scal (c := f i) (f := fun x => if x = ((i.toNat : Nat) : Int) then 1 else 0) (fun x hx => if_neg (by omega))
    rw [h.tk] at this
    rw [← this]
    congr 1
    exact funext fun x => by rw [show ((i.toNat : Nat) : Int) = i by omega]), ← hm_smsu h]
  congr 1
  refine funext fun x => ?_
  rw [sm_congr (g := fun i => if i = x then f i else 0) (fun i _ _ => by
    by_cases q : i = x
    · rw [if_pos q, if_pos q.symm, Int.mul_one]
    · rw [if_neg q, if_neg (fun y => q y.symm), Int.mul_zero]), sm_pick f x N]
  by_cases q : 0 ≤ x ∧ x < N
  · rw [if_pos q]
  · rw [if_neg q]
    by_cases q2 : x < 0
    · exact (z0 x q2).symm
    · exact (z1 x (by omega)).symm
/-- division by x - c, at t + c -/
theorem qr_ev {p c T k : Int} {O : Type} [I : Lean.Grind.CommRing O] {φ : (Int → Int) → O} (h : HM p φ) {P : Int → Int} {a : O} (ha : a = φ t1 + φ (nC c)) : ∀ m : Nat, k + m ≤ T + 1 → su m (fun j => φ (nC (P (k + j))) * a ^ j.toNat) = φ (nC (qr p c P T (k - 1))) + φ t1 * su m (fun j => φ (nC (qr p c P T (k + j))) * a ^ j.toNat) - φ (nC (qr p c P T (k + m - 1))) * a ^ m
  | 0, _ => by
    show (0 : O) = φ (nC (qr p c P T (k - 1))) + φ t1 * 0 - φ (nC (qr p c P T (k + ((0 : Nat) : Int) - 1))) * a ^ 0
    rw [show k + ((0 : Nat) : Int) - 1 = k - 1 by omega]
    grind
  | m + 1, hm => by
    have st := qr_step (p := p) (c := c) (P := P) (T := T) (i := k + m) (by omega)
    have e : φ (nC (qr p c P T (k + m - 1))) = φ (nC (P (k + m))) + φ (nC c) * φ (nC (qr p c P T (k + m))) := by rw [st, h.nC_mod, h.nC_add, h.nC_mul]
    rw [su_succ, su_succ, qr_ev (p := p) (c := c) (T := T) h ha m (by omega), e, show ((m : Int)).toNat = m by omega, show k + ((m + 1 : Nat) : Int) - 1 = k + m by omega, Lean.Grind.Semiring.pow_succ]
    generalize φ (nC (qr p c P T (k + m))) = u
    generalize su m (fun j => φ (nC (qr p c P T (k + j))) * a ^ j.toNat) = w
    generalize φ (nC (qr p c P T (k - 1))) = v
    generalize φ (nC (P (k + m))) = z
    generalize a ^ m = b
    rw [ha]
    grind
/-- passes of moving -/
theorem mvN_ev {p c T : Int} {O : Type} [I : Lean.Grind.CommRing O] {φ : (Int → Int) → O} (h : HM p φ) {P : Int → Int} {a : O} (ha : a = φ t1 + φ (nC c)) (hT : 0 ≤ T) : ∀ k : Nat, (k : Int) ≤ T → evF φ a (T + 1).toNat P = su k (fun i => φ (nC (mvN p c T k P i)) * φ t1 ^ i.toNat) + φ t1 ^ k * su (T + 1 - k).toNat (fun j => φ (nC (mvN p c T k P (k + j))) * a ^ j.toNat)
  | 0, _ => by
    show _ = 0 + φ t1 ^ 0 * su (T + 1 - ((0 : Nat) : Int)).toNat (fun j => φ (nC (P (((0 : Nat) : Int) + j))) * a ^ j.toNat)
    rw [show (T + 1 - ((0 : Nat) : Int)).toNat = (T + 1).toNat by omega, su_congr (n := (T + 1).toNat) (f := fun j => φ (nC (P (((0 : Nat) : Int) + j))) * a ^ j.toNat) (g := fun j => φ (nC (P j)) * a ^ j.toNat) (fun j _ _ => by rw [show ((0 : Nat) : Int) + j = j by omega])]
    unfold evF
    grind
  | k + 1, hk => by
    have ih := mvN_ev h ha hT k (by omega) (P := P) (p := p) (c := c)
    have q := qr_ev (p := p) (c := c) (T := T) (k := k) (P := mvN p c T k P) h ha (T + 1 - k).toNat (by omega)
    rw [show (k : Int) + ((T + 1 - k).toNat : Nat) - 1 = T by omega, qr_top (i := T) (T := T) (Int.le_refl T), h.nC_0, show (T + 1 - (k : Int)).toNat = (T + 1 - ((k + 1 : Nat) : Int)).toNat + 1 by omega, su_succ _ (fun j => φ (nC (qr p c (mvN p c T k P) T (k + j))) * a ^ j.toNat), show (k : Int) + (((T + 1 - ((k + 1 : Nat) : Int)).toNat : Nat) : Int) = T by omega, qr_top (i := T) (T := T) (Int.le_refl T), h.nC_0] at q
    rw [show (T + 1 - (k : Int)).toNat = (T + 1 - ((k + 1 : Nat) : Int)).toNat + 1 by omega, q] at ih
    have n1 : mvN p c T (k + 1) P k = qr p c (mvN p c T k P) T (k - 1) := if_neg (by omega)
    have e1 : su (k + 1) (fun i => φ (nC (mvN p c T (k + 1) P i)) * φ t1 ^ i.toNat) = su k (fun i => φ (nC (mvN p c T k P i)) * φ t1 ^ i.toNat) + φ (nC (qr p c (mvN p c T k P) T (k - 1))) * φ t1 ^ k := by
      rw [su_succ, n1, show ((k : Int)).toNat = k by omega, su_congr (g := fun i => φ (nC (mvN p c T k P i)) * φ t1 ^ i.toNat) (fun i i0 i1 => by rw [show mvN p c T (k + 1) P i = mvN p c T k P i from if_pos i1])]
    have e2 : su (T + 1 - ((k + 1 : Nat) : Int)).toNat (fun j => φ (nC (mvN p c T (k + 1) P (((k + 1 : Nat) : Int) + j))) * a ^ j.toNat) = su (T + 1 - ((k + 1 : Nat) : Int)).toNat (fun j => φ (nC (qr p c (mvN p c T k P) T (k + j))) * a ^ j.toNat) := su_congr fun j j0 j1 => by
      rw [show mvN p c T (k + 1) P (((k + 1 : Nat) : Int) + j) = qr p c (mvN p c T k P) T (((k + 1 : Nat) : Int) + j - 1) from if_neg (by omega), show ((k + 1 : Nat) : Int) + j - 1 = k + j by omega]
    rw [ih, e1, e2, Lean.Grind.Semiring.pow_succ]
    clear ih e1 e2 q
    grind
theorem shf_ev {p c T : Int} {O : Type} [I : Lean.Grind.CommRing O] {φ : (Int → Int) → O} (h : HM p φ) {P : Int → Int} {a : O} (ha : a = φ t1 + φ (nC c)) (hT : 0 ≤ T) (z0 : ∀ x, x < 0 → P x = 0) (z1 : ∀ x, T < x → P x = 0) : φ (shf p c T P) = evF φ a (T + 1).toNat P := by
  have e := mvN_ev (p := p) (c := c) (P := P) h ha hT T.toNat (by omega)
  rw [e, show (T + 1 - ((T.toNat : Nat) : Int)).toNat = 0 + 1 by omega, su_succ, ← ev_t h (N := (T + 1).toNat) (f := shf p c T P) (mvN_neg z0 _) (fun x hx => mvN_top z1 _ x (by omega) (by omega))]
  show evF φ (φ t1) (T + 1).toNat (shf p c T P) = _ + _ * (0 + _)
  unfold evF
  rw [show (T + 1).toNat = T.toNat + 1 by omega, su_succ]
  show su T.toNat (fun i => φ (nC (mvN p c T T.toNat P i)) * φ t1 ^ i.toNat) + φ (nC (mvN p c T T.toNat P ((T.toNat : Nat) : Int))) * φ t1 ^ ((T.toNat : Nat) : Int).toNat = _
  rw [show (((T.toNat : Nat) : Int)).toNat = T.toNat by omega, show ((T.toNat : Nat) : Int) + ((0 : Nat) : Int) = ((T.toNat : Nat) : Int) by omega, show (((0 : Nat) : Int)).toNat = 0 from rfl, Lean.Grind.Semiring.pow_zero]
  grind
