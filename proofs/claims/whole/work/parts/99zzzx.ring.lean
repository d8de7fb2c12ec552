/-! A ring's basis in the curve's ring. -/
theorem mb_e {p n : Int} {O E : Type} [I : Lean.Grind.CommRing O] [J : Lean.Grind.CommRing E] {φ : (Int → Int) → O} {ι : O → E} {y : E} {C : Int → Int → Int} (h : HMs p φ) (hn : 2 ≤ n ∧ n ≤ 4) (a : ALG n.toNat (fun l => φ (C l)) ι y) {fig : Int → Int → Int → Int} (tr : TRF n fig) {i j : Int} (i0 : 0 ≤ i) (i1 : i < n) (j0 : 0 ≤ j) (j1 : j < n) : vE φ ι y n.toNat (mbL p n C fig i j) = vE φ ι y n.toNat (bR fig i) * vE φ ι y n.toNat (bR fig j) := by
  rcases (show n = 2 ∨ n = 3 ∨ n = 4 by omega) with rfl | rfl | rfl
  · exact mb_e2 h a tr i0 i1 j0 j1
  · exact mb_e3 h a tr i0 i1 j0 j1
  · exact mb_e4 h a tr i0 i1 j0 j1
theorem y_ind {O E : Type} [I : Lean.Grind.CommRing O] [J : Lean.Grind.CommRing E] {ι : O → E} {y : E} {n : Nat} {c : Int → O} (a : ALG n c ι y) {v w : Int → O} (e : su n (fun l => ι (v l) * y ^ l.toNat) = su n (fun l => ι (w l) * y ^ l.toNat)) (l : Int) (l0 : 0 ≤ l) (l1 : l < n) : v l = w l := by
  have := a.2.2.2.2.1 (fun l => v l - w l) (by
    rw [su_congr (g := fun l => ι (v l) * y ^ l.toNat + (- (ι (w l) * y ^ l.toNat))) (fun l _ _ => by rw [a.isub]; grind), su_add, su_neg, e]
    grind) l.toNat (by omega) (by omega)
  (try dsimp only at this)
  rw [show ((l.toNat : Nat) : Int) = l by omega] at this
  grind
theorem cmb_vE {p : Int} {O E : Type} [I : Lean.Grind.CommRing O] [J : Lean.Grind.CommRing E] {φ : (Int → Int) → O} {ι : O → E} {y : E} {n : Nat} {c : Int → O} (a : ALG n c ι y) {fig : Int → Int → Int → Int} {s : Int → O} {V : Int → Int → Int} : cmb φ n fig s V ↔ vE φ ι y n V = ι (φ t1) ^ 20 * su n (fun l => ι (s l) * vE φ ι y n (bR fig l)) := by
  have e : ι (φ t1) ^ 20 * su n (fun l => ι (s l) * vE φ ι y n (bR fig l)) = su n (fun i => ι (φ t1 ^ 20 * su n (fun l => s l * φ (bR fig l i))) * y ^ i.toNat) := by
    rw [su_congr (g := fun l => su n (fun i => ι (s l * φ (bR fig l i)) * y ^ i.toNat)) (fun l _ _ => by
      unfold vE
      rw [← su_mul]
      exact su_congr fun i _ _ => by rw [a.2.1]; grind), su_swap, ← su_mul]
    refine su_congr fun i _ _ => ?_
    have e3 : su n (fun l => ι (s l * φ (bR fig l i)) * y ^ i.toNat) = y ^ i.toNat * su n (fun l => ι (s l * φ (bR fig l i))) := by
      rw [← su_mul]
      exact su_congr fun l _ _ => by grind
    rw [e3, a.2.1, a.ipow, a.isu]
    grind
  rw [e]
  constructor
  · intro h
    exact su_congr fun i i0 i1 => by rw [h i i0 i1]
  · intro h i i0 i1
    exact y_ind a h i i0 i1
theorem tau_can {p : Int} {O E : Type} [I : Lean.Grind.CommRing O] [J : Lean.Grind.CommRing E] {φ : (Int → Int) → O} {ι : O → E} {y : E} {n : Nat} {c : Int → O} (h : HMs p φ) (a : ALG n c ι y) {u v : E} (e : ι (φ t1) * u = ι (φ t1) * v) : u = v := by
  obtain ⟨x, rfl⟩ := a.2.2.2.1 u
  obtain ⟨z, rfl⟩ := a.2.2.2.1 v
  have k : ∀ w : Int → O, ι (φ t1) * su n (fun l => ι (w l) * y ^ l.toNat) = su n (fun l => ι (φ t1 * w l) * y ^ l.toNat) := fun w => by
    rw [← su_mul]
    exact su_congr fun l _ _ => by rw [a.2.1]; grind
  rw [k, k] at e
  exact su_congr fun l l0 l1 => by rw [h.can1 (y_ind a e l l0 l1)]
theorem tau_canN {p : Int} {O E : Type} [I : Lean.Grind.CommRing O] [J : Lean.Grind.CommRing E] {φ : (Int → Int) → O} {ι : O → E} {y : E} {n : Nat} {c : Int → O} (h : HMs p φ) (a : ALG n c ι y) {u v : E} : ∀ k : Nat, ι (φ t1) ^ k * u = ι (φ t1) ^ k * v → u = v
  | 0, e => by grind
  | k + 1, e => tau_can h a (tau_canN h a k (by rw [Lean.Grind.Semiring.pow_succ] at e; grind))
/-- a ring's state: its basis is reduced, has no digit above k, is closed -/
def RST {O E : Type} [I : Lean.Grind.CommRing O] [J : Lean.Grind.CommRing E] (p n : Int) (φ : (Int → Int) → O) (ι : O → E) (y : E) (k : Int) (fig : Int → Int → Int → Int) (dp : Int → Int) : Prop := RDC n fig dp ∧ TRF n fig ∧ (∀ l i m, 0 ≤ l → l < n → 0 ≤ i → i < 4 → 0 ≤ m → m ≤ 20 → 0 ≤ fig l i m ∧ fig l i m < p) ∧ (∀ l i m, 0 ≤ l → l < n → 0 ≤ i → i < 4 → k < m → m ≤ 20 → fig l i m = 0) ∧ dp 0 = 0 ∧ (∀ i j, 0 ≤ i → i < n → 0 ≤ j → j < n → ∃ g, LT ι n.toNat (fun l => vE φ ι y n.toNat (bR fig l)) g ∧ vE φ ι y n.toNat (bR fig i) * vE φ ι y n.toNat (bR fig j) = ι (φ t1) ^ 20 * g) ∧ ∀ l, 0 ≤ l → l < n → LT ι n.toNat (fun l => vE φ ι y n.toNat (bR fig l)) (ι (φ t1) ^ 20 * y ^ l.toNat)
theorem LT.add {O E : Type} [I : Lean.Grind.CommRing O] [J : Lean.Grind.CommRing E] {ι : O → E} {y : E} {n : Nat} {c : Int → O} (a : ALG n c ι y) {B : Int → E} {u v : E} (hu : LT ι n B u) (hv : LT ι n B v) : LT ι n B (u + v) := by
  obtain ⟨s, rfl⟩ := hu
  obtain ⟨r, rfl⟩ := hv
  refine ⟨fun l => s l + r l, ?_⟩
  rw [← su_add]
  exact su_congr fun l _ _ => by rw [a.1]; grind
theorem LT.sca {O E : Type} [I : Lean.Grind.CommRing O] [J : Lean.Grind.CommRing E] {ι : O → E} {y : E} {n : Nat} {c : Int → O} (a : ALG n c ι y) {B : Int → E} {u : E} (x : O) (hu : LT ι n B u) : LT ι n B (ι x * u) := by
  obtain ⟨s, rfl⟩ := hu
  refine ⟨fun l => x * s l, ?_⟩
  rw [← su_mul]
  exact su_congr fun l _ _ => by rw [a.2.1]; grind
theorem LT.zero {O E : Type} [I : Lean.Grind.CommRing O] [J : Lean.Grind.CommRing E] {ι : O → E} {y : E} {n : Nat} {c : Int → O} (a : ALG n c ι y) {B : Int → E} : LT ι n B 0 := ⟨fun _ => 0, (su_zeros (fun l _ _ => by rw [a.i0]; grind)).symm⟩
theorem LT.b {O E : Type} [I : Lean.Grind.CommRing O] [J : Lean.Grind.CommRing E] {ι : O → E} {y : E} {n : Nat} {c : Int → O} (a : ALG n c ι y) {B : Int → E} {j : Int} (j0 : 0 ≤ j) (j1 : j < n) : LT ι n B (B j) := by
  refine ⟨fun l => if l = j then 1 else 0, ?_⟩
  rw [su_one j j0 j1 (fun i _ _ ni => by (try dsimp only); rw [if_neg ni, a.i0]; grind)]
  (try dsimp only)
  rw [if_pos rfl, a.2.2.1]
  grind
theorem lt_su {O E : Type} [I : Lean.Grind.CommRing O] [J : Lean.Grind.CommRing E] {ι : O → E} {y : E} {n : Nat} {c : Int → O} (a : ALG n c ι y) {B : Int → E} {f : Int → E} : ∀ k : Nat, (∀ i : Int, 0 ≤ i → i < k → LT ι n B (f i)) → LT ι n B (su k f)
  | 0, _ => LT.zero a
  | k + 1, h => LT.add a (lt_su a k (fun i i0 i1 => h i i0 (by omega))) (h k (by omega) (by omega))
/-- a product of two sums, where the products of the basis are in T L -/
theorem LT.mul {O E : Type} [I : Lean.Grind.CommRing O] [J : Lean.Grind.CommRing E] {ι : O → E} {y T : E} {n : Nat} {c : Int → O} (a : ALG n c ι y) {B : Int → E} (hB : ∀ i j : Int, 0 ≤ i → i < n → 0 ≤ j → j < n → ∃ g, LT ι n B g ∧ B i * B j = T * g) {u v : E} (hu : LT ι n B u) (hv : LT ι n B v) : ∃ g, LT ι n B g ∧ u * v = T * g := by
  obtain ⟨s, rfl⟩ := hu
  obtain ⟨r, rfl⟩ := hv
  have inner : ∀ (i : Int), 0 ≤ i → i < n → ∀ k : Nat, k ≤ n → ∃ g, LT ι n B g ∧ B i * su k (fun l => ι (r l) * B l) = T * g := fun i i0 i1 k => by
    induction k with
    | zero =>
      intro _
      refine ⟨0, LT.zero a, ?_⟩
      show B i * 0 = _
      grind
    | succ k ih =>
      intro hk
      obtain ⟨g, lg, eg⟩ := ih (by omega)
      obtain ⟨x, lx, ex⟩ := hB i k i0 i1 (by omega) (by omega)
      refine ⟨g + ι (r k) * x, LT.add a lg (LT.sca a _ lx), ?_⟩
      rw [su_succ, show B i * (su k (fun l => ι (r l) * B l) + ι (r k) * B k) = B i * su k (fun l => ι (r l) * B l) + ι (r k) * (B i * B k) by clear eg ex; grind, eg, ex]
      clear eg ex
      grind
  have outer : ∀ k : Nat, k ≤ n → ∃ g, LT ι n B g ∧ su k (fun l => ι (s l) * B l) * su n (fun l => ι (r l) * B l) = T * g := fun k => by
    induction k with
    | zero =>
      intro _
      refine ⟨0, LT.zero a, ?_⟩
      show 0 * su n (fun l => ι (r l) * B l) = _
      grind
    | succ k ih =>
      intro hk
      obtain ⟨g, lg, eg⟩ := ih (by omega)
      obtain ⟨x, lx, ex⟩ := inner k (by omega) (by omega) n (Nat.le_refl n)
      refine ⟨g + ι (s k) * x, LT.add a lg (LT.sca a _ lx), ?_⟩
      rw [su_succ, show (su k (fun l => ι (s l) * B l) + ι (s k) * B k) * su n (fun l => ι (r l) * B l) = su k (fun l => ι (s l) * B l) * su n (fun l => ι (r l) * B l) + ι (s k) * (B k * su n (fun l => ι (r l) * B l)) by clear eg ex; grind, eg, ex]
      clear eg ex
      grind
  exact outer n (Nat.le_refl n)
theorem RST.div {O E : Type} [I : Lean.Grind.CommRing O] [J : Lean.Grind.CommRing E] {p n k : Int} {φ : (Int → Int) → O} {ι : O → E} {y : E} {c : Int → O} {fig : Int → Int → Int → Int} {dp : Int → Int} (h : HMs p φ) (hn : 2 ≤ n ∧ n ≤ 4) (a : ALG n.toNat c ι y) (hk : k ≤ 19) (r : RST p n φ ι y k fig dp) {u : E} (hu : LT ι n.toNat (fun l => vE φ ι y n.toNat (bR fig l)) u) : ∃ g, u = ι (φ t1) * g := by
  obtain ⟨s, rfl⟩ := hu
  have hb : ∀ l i : Int, 0 ≤ l → l < n → 0 ≤ i → i < n → ∃ x, φ (bR fig l i) = φ t1 * x := fun l i l0 l1 i0 i1 => by
    have hp : 0 < p := by
      have := r.2.2.1 l i 0 l0 l1 i0 (by omega) (by omega) (by omega)
      omega
    refine ⟨_, (h.up (f := bR fig l i) 1 (fun x => ?_) (fun x hx => ?_)).trans (by rw [show φ t1 ^ 1 = φ t1 by grind])⟩
    · unfold bR
      split
      · exact r.2.2.1 l i _ l0 l1 i0 (by omega) (by omega) (by omega)
      · omega
    · unfold bR
      split
      · exact r.2.2.2.1 l i _ l0 l1 i0 (by omega) (by omega) (by omega)
      · rfl
  have hB : ∀ l : Int, 0 ≤ l → l < n → ∃ g, vE φ ι y n.toNat (bR fig l) = ι (φ t1) * g := fun l l0 l1 => by
    have in1 : ∀ w : Nat, (w : Int) ≤ n → ∃ g, su w (fun i => ι (φ (bR fig l i)) * y ^ i.toNat) = ι (φ t1) * g := fun w => by
      induction w with
      | zero =>
        intro _
        exact ⟨0, by show (0 : E) = _; grind⟩
      | succ w ih =>
        intro hw
        obtain ⟨g, eg⟩ := ih (by omega)
        obtain ⟨x, ex⟩ := hb l w l0 l1 (by omega) (by omega)
        refine ⟨g + ι x * y ^ w, ?_⟩
        rw [su_succ, eg, ex, a.2.1]
        show ι (φ t1) * g + ι (φ t1) * ι x * y ^ (w : Int).toNat = _
        rw [show (w : Int).toNat = w by omega]
        grind
    exact in1 n.toNat (by omega)
  have in2 : ∀ w : Nat, (w : Int) ≤ n → ∃ g, su w (fun l => ι (s l) * vE φ ι y n.toNat (bR fig l)) = ι (φ t1) * g := fun w => by
    induction w with
    | zero =>
      intro _
      exact ⟨0, by show (0 : E) = _; grind⟩
    | succ w ih =>
      intro hw
      obtain ⟨g, eg⟩ := ih (by omega)
      obtain ⟨x, ex⟩ := hB w (by omega) (by omega)
      refine ⟨g + ι (s w) * x, ?_⟩
      rw [su_succ, eg, ex]
      grind
  exact in2 n.toNat (by omega)
theorem RST.lat {O E : Type} [I : Lean.Grind.CommRing O] [J : Lean.Grind.CommRing E] {p n k : Int} {φ : (Int → Int) → O} {ι : O → E} {y : E} {c : Int → O} {fig : Int → Int → Int → Int} {dp : Int → Int} (h : HMs p φ) (hn : 2 ≤ n ∧ n ≤ 4) (a : ALG n.toNat c ι y) (hk : k ≤ 19) (r : RST p n φ ι y k fig dp) : LAT (FI ι) (ι (φ t1)) (ι (φ t1) ^ 20) (LT ι n.toNat (fun l => vE φ ι y n.toNat (bR fig l))) := by
  refine ⟨fun u v hu hv => LT.add a hu hv, fun c u hc hu => ?_, ?_, fun u v hu hv => LT.mul a (fun i j i0 i1 j0 j1 => r.2.2.2.2.2.1 i j i0 (by omega) j0 (by omega)) hu hv, fun u hu => r.div h hn a hk hu, ⟨⟨_, rfl⟩, ⟨-1, ?_⟩⟩, fun u v e => tau_can h a e, fun u v e => tau_canN h a 20 e, ?_⟩
  · obtain ⟨x, rfl⟩ := hc
    exact LT.sca a x hu
  · have := r.2.2.2.2.2.2 0 (by omega) (by omega)
    rw [show (0 : Int).toNat = 0 from rfl, Lean.Grind.Semiring.pow_zero, show ι (φ t1) ^ 20 * 1 = ι (φ t1) ^ 20 by grind] at this
    exact this
  · rw [a.ineg, a.2.2.1]
  · rintro _ _ ⟨x, rfl⟩ ⟨z, rfl⟩
    exact ⟨x * z, (a.2.1 x z).symm⟩
/-- the basis is free -/
theorem RST.ind {O E : Type} [I : Lean.Grind.CommRing O] [J : Lean.Grind.CommRing E] {p n k : Int} {φ : (Int → Int) → O} {ι : O → E} {y : E} {c : Int → O} {fig : Int → Int → Int → Int} {dp : Int → Int} (h : HMs p φ) (hp : 2 ≤ p) (hn : 2 ≤ n ∧ n ≤ 4) (a : ALG n.toNat c ι y) (r : RST p n φ ι y k fig dp) {s w : Int → O} (e : su n.toNat (fun l => ι (s l) * vE φ ι y n.toNat (bR fig l)) = su n.toNat (fun l => ι (w l) * vE φ ι y n.toNat (bR fig l))) (l : Int) (l0 : 0 ≤ l) (l1 : l < n) : s l = w l := by
  obtain ⟨v, hv⟩ := a.2.2.2.1 (ι (φ t1) ^ 20 * su n.toNat (fun l => ι (s l) * vE φ ι y n.toNat (bR fig l)))
  have cx : ∃ V : Int → Int → Int, CAN p V ∧ ∀ i, φ (V i) = v i := by
    refine ⟨fun i => Classical.choose (h.2 (v i)), ⟨fun i x => (Classical.choose_spec (h.2 (v i))).1 x, fun i x hx => (Classical.choose_spec (h.2 (v i))).2.1 x hx⟩, fun i => (Classical.choose_spec (h.2 (v i))).2.2⟩
  obtain ⟨V, cV, eV⟩ := cx
  have vV : vE φ ι y n.toNat V = ι (φ t1) ^ 20 * su n.toNat (fun l => ι (s l) * vE φ ι y n.toNat (bR fig l)) := by
    rw [hv]
    exact su_congr fun i _ _ => by rw [eV]
  have c1 := (cmb_vE (p := p) (s := s) (fig := fig) (V := V) a).mpr vV
  rw [e] at vV
  have c2 := (cmb_vE (p := p) (s := w) (fig := fig) (V := V) a).mpr vV
  exact ((ex_2 h hp (by omega) r.1 r.2.1 cV c1).2 l l0 l1).symm.trans ((ex_2 h hp (by omega) r.1 r.2.1 cV c2).2 l l0 l1)
