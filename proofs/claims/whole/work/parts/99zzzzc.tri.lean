/-! Triangular bases span the same. -/
theorem ltm_add {O E : Type} [I : Lean.Grind.CommRing O] [J : Lean.Grind.CommRing E] {ι : O → E} {y : E} {n m : Nat} {c : Int → O} (a : ALG n c ι y) {B : Int → E} {u v : E} (hu : LT ι m B u) (hv : LT ι m B v) : LT ι m B (u + v) := by
  obtain ⟨s, rfl⟩ := hu
  obtain ⟨r, rfl⟩ := hv
  refine ⟨fun l => s l + r l, ?_⟩
  rw [← su_add]
  exact su_congr fun l _ _ => by rw [a.1]; grind
theorem ltm_sca {O E : Type} [I : Lean.Grind.CommRing O] [J : Lean.Grind.CommRing E] {ι : O → E} {y : E} {n m : Nat} {c : Int → O} (a : ALG n c ι y) {B : Int → E} {u : E} (x : O) (hu : LT ι m B u) : LT ι m B (ι x * u) := by
  obtain ⟨s, rfl⟩ := hu
  refine ⟨fun l => x * s l, ?_⟩
  rw [← su_mul]
  exact su_congr fun l _ _ => by rw [a.2.1]; grind
theorem ltm_neg {O E : Type} [I : Lean.Grind.CommRing O] [J : Lean.Grind.CommRing E] {ι : O → E} {y : E} {n m : Nat} {c : Int → O} (a : ALG n c ι y) {B : Int → E} {u : E} (hu : LT ι m B u) : LT ι m B (- u) := by
  have := ltm_sca a (-1) hu
  rw [a.ineg, a.2.2.1, show -1 * u = - u by grind] at this
  exact this
theorem ltm_zero {O E : Type} [I : Lean.Grind.CommRing O] [J : Lean.Grind.CommRing E] {ι : O → E} {y : E} {n m : Nat} {c : Int → O} (a : ALG n c ι y) {B : Int → E} : LT ι m B 0 := ⟨fun _ => 0, (su_zeros (fun l _ _ => by rw [a.i0]; grind)).symm⟩
theorem ltm_su {O E : Type} [I : Lean.Grind.CommRing O] [J : Lean.Grind.CommRing E] {ι : O → E} {y : E} {n m : Nat} {c : Int → O} (a : ALG n c ι y) {B : Int → E} {f : Int → E} : ∀ k : Nat, (∀ i : Int, 0 ≤ i → i < k → LT ι m B (f i)) → LT ι m B (su k f)
  | 0, _ => ltm_zero a
  | k + 1, h => ltm_add a (ltm_su a k (fun i i0 i1 => h i i0 (by omega))) (h k (by omega) (by omega))
theorem su_more {E : Type} [I : Lean.Grind.CommRing E] {n m : Nat} {f : Int → E} (hnm : n ≤ m) (h : ∀ i : Int, n ≤ i → i < m → f i = 0) : su m f = su n f := by
  induction m with
  | zero => rw [show n = 0 by omega]
  | succ m ih =>
    by_cases e : n = m + 1
    · rw [e]
    · rw [su_succ, ih (by omega) (fun i i0 i1 => h i i0 (by omega)), h m (by omega) (by omega)]
      grind
theorem ltm_up {O E : Type} [I : Lean.Grind.CommRing O] [J : Lean.Grind.CommRing E] {ι : O → E} {y : E} {n m k : Nat} {c : Int → O} (a : ALG n c ι y) {B : Int → E} {u : E} (hk : m ≤ k) (hu : LT ι m B u) : LT ι k B u := by
  obtain ⟨s, rfl⟩ := hu
  refine ⟨fun l => if l < m then s l else 0, ?_⟩
  rw [su_more hk (fun i i0 i1 => by (try dsimp only); rw [if_neg (by omega), a.i0]; grind)]
  exact su_congr fun l l0 l1 => by (try dsimp only); rw [if_pos l1]
theorem ltm_b {O E : Type} [I : Lean.Grind.CommRing O] [J : Lean.Grind.CommRing E] {ι : O → E} {y : E} {n m : Nat} {c : Int → O} (a : ALG n c ι y) {B : Int → E} {j : Int} (j0 : 0 ≤ j) (j1 : j < m) : LT ι m B (B j) := by
  refine ⟨fun l => if l = j then 1 else 0, ?_⟩
  rw [su_one j j0 j1 (fun i _ _ ni => by (try dsimp only); rw [if_neg ni, a.i0]; grind)]
  (try dsimp only)
  rw [if_pos rfl, a.2.2.1]
  grind
/-- what has no y above l needs no more of a triangular basis -/
theorem tri_top {p : Int} {O E : Type} [I : Lean.Grind.CommRing O] [J : Lean.Grind.CommRing E] {φ : (Int → Int) → O} {ι : O → E} {y : E} {n : Nat} {c : Int → O} (h : HMs p φ) (a : ALG n c ι y) {R : Int → Int → Int → Int} {ex : Int → Nat} (rz : ∀ b i : Int, 0 ≤ b → b < i → i < n → φ (R b i) = 0) (rd : ∀ b : Int, 0 ≤ b → b < n → φ (R b b) = φ t1 ^ ex b) {l : Int} (l0 : 0 ≤ l) (l1 : l < n) {u : E} (hu : LT ι n (fun b => vE φ ι y n (R b)) u) {w : Int → O} (eu : u = su n (fun i => ι (w i) * y ^ i.toNat)) (wz : ∀ i, l < i → i < n → w i = 0) : LT ι (l + 1).toNat (fun b => vE φ ι y n (R b)) u := by
  obtain ⟨s, hs⟩ := hu
  have co : ∀ i : Int, 0 ≤ i → i < n → su n (fun b => s b * φ (R b i)) = w i := fun i i0 i1 => by
    refine y_ind (v := fun i => su n (fun b => s b * φ (R b i))) a ?_ i i0 i1
    rw [← eu, hs, su_congr (n := n) (f := fun l => ι (su n (fun b => s b * φ (R b l))) * y ^ l.toNat) (g := fun l => su n (fun b => ι (s b) * (ι (φ (R b l)) * y ^ l.toNat))) (fun i _ _ => by
      rw [a.isu, show su n (fun b => ι (s b * φ (R b i))) * y ^ i.toNat = y ^ i.toNat * su n (fun b => ι (s b * φ (R b i))) by grind, ← su_mul]
      exact su_congr fun b _ _ => by rw [a.2.1]; grind), su_swap]
    exact su_congr fun b _ _ => by rw [su_mul]; rfl
  have z : ∀ k : Nat, ∀ i : Int, (n : Int) - k ≤ i → l < i → i < n → s i = 0 := fun k => by
    induction k with
    | zero => exact fun i a b c => by omega
    | succ k ih =>
      intro i i0 i1 i2
      have e := co i (by omega) i2
      rw [su_one i (by omega) i2 (fun b b0 b1 nb => by
        rcases Int.lt_or_lt_of_ne nb with q | q
        · rw [rz b i b0 q i2]
          grind
        · rw [ih b (by omega) (by omega) b1]
          grind), wz i i1 i2, rd i (by omega) i2] at e
      exact h.can (ex i) (by rw [show φ t1 ^ ex i * s i = s i * φ t1 ^ ex i by grind, e]; grind)
  refine ⟨s, ?_⟩
  rw [hs]
  exact su_more (by omega) (fun i i0 i1 => by rw [z n i (by omega) (by omega) i1, a.i0]; grind)
/-- unipotent changes keep the spans -/
theorem span_eq {O E : Type} [I : Lean.Grind.CommRing O] [J : Lean.Grind.CommRing E] {ι : O → E} {y T : E} {n : Nat} {c : Int → O} (a : ALG n c ι y) {B1 B2 : Int → E} {σ x : Int → Int → O} (hB : ∀ j : Int, 0 ≤ j → j < n → B2 j = B1 j - su j.toNat (fun b => ι (σ j b) * B2 b) + su j.toNat (fun i => ι (x j i) * (T * y ^ i.toNat))) (hT : ∀ i : Int, 0 ≤ i → i < n → LT ι (i + 1).toNat B1 (T * y ^ i.toNat)) : ∀ m : Nat, m ≤ n → ∀ e, LT ι m B2 e ↔ LT ι m B1 e := by
  intro m
  induction m with
  | zero => exact fun _ e => ⟨fun ⟨s, hs⟩ => ⟨s, hs⟩, fun ⟨s, hs⟩ => ⟨s, hs⟩⟩
  | succ m ih =>
    intro hm e
    have ih := ih (by omega)
    have q := hB m (by omega) (by omega)
    rw [show ((m : Int)).toNat = m by omega] at q
    have p1 : LT ι m B2 (su m (fun b => ι (σ m b) * B2 b)) := ⟨_, rfl⟩
    have p2 : LT ι m B1 (su m (fun i => ι (x m i) * (T * y ^ i.toNat))) := ltm_su a m (fun i i0 i1 => ltm_sca a _ (ltm_up a (by omega) (hT i i0 (by omega))))
    constructor
    · rintro ⟨s, rfl⟩
      rw [su_succ, q]
      have e1 : LT ι m B1 (su m (fun l => ι (s l) * B2 l)) := (ih _).mp ⟨_, rfl⟩
      have e2 : LT ι m B1 (su m (fun b => ι (σ m b) * B2 b)) := (ih _).mp p1
      refine ltm_add a (ltm_up a (by omega) e1) (ltm_sca a _ (ltm_add a ?_ (ltm_up a (by omega) p2)))
      rw [show B1 m - su m (fun b => ι (σ m b) * B2 b) = B1 m + - su m (fun b => ι (σ m b) * B2 b) by grind]
      exact ltm_add a (ltm_b a (by omega) (by omega)) (ltm_up a (by omega) (ltm_neg a e2))
    · rintro ⟨s, rfl⟩
      have q' : B1 m = B2 m + su m (fun b => ι (σ m b) * B2 b) + - su m (fun i => ι (x m i) * (T * y ^ i.toNat)) := by
        rw [q]
        grind
      rw [su_succ, q']
      have e1 : LT ι m B2 (su m (fun l => ι (s l) * B1 l)) := (ih _).mpr ⟨_, rfl⟩
      have e2 : LT ι m B2 (su m (fun i => ι (x m i) * (T * y ^ i.toNat))) := (ih _).mpr p2
      exact ltm_add a (ltm_up a (by omega) e1) (ltm_sca a _ (ltm_add a (ltm_add a (ltm_b a (by omega) (by omega)) (ltm_up a (by omega) p1)) (ltm_up a (by omega) (ltm_neg a e2))))
