/-! Nilpotent: the powers from n on. Sums to the p-th power. -/
set_option maxHeartbeats 1000000 in
theorem nil_q {p : Int} {O E : Type} [I : Lean.Grind.CommRing O] [J : Lean.Grind.CommRing E] {φ : (Int → Int) → O} {ι : O → E} {y : E} {n : Nat} {c : Int → O} (h : HMs p φ) (a : ALG n c ι y) (hp : isPr p) {N : Nat} (hn : n ≤ N) {B : Int → E} {T : E} (lat : LAT (FI ι) (ι (φ t1)) T (LT ι n B)) {e : E} (le : LT ι n B e) {M : Nat} {gM : E} (lM : LT ι n B gM) (eM : T * e ^ M = T ^ M * (ι (φ t1) * gM)) : ∃ g, LT ι n B g ∧ T * e ^ N = T ^ N * (ι (φ t1) * g) := by
  obtain ⟨G, hG, hGe⟩ := pow_ex lat le
  have P0 : ∀ m : Nat, M ≤ m → ∃ g, LT ι n B g ∧ G m = ι (φ t1) * g := fun m => by
    induction m with
    | zero =>
      intro q
      rw [show M = 0 by omega] at eM
      exact ⟨gM, lM, lat.canT 0 ((hG 0).2.symm.trans eM)⟩
    | succ m ih =>
      intro q
      by_cases q2 : M = m + 1
      · rw [q2] at eM
        exact ⟨gM, lM, lat.canT (m + 1) ((hG (m + 1)).2.symm.trans eM)⟩
      · obtain ⟨g, lg, eg⟩ := ih (by omega)
        obtain ⟨k, lk, ek⟩ := lat.2.2.2.1 g e lg le
        refine ⟨k, lk, lat.canT 1 ?_⟩
        have r := hGe m (by omega)
        rw [eg] at r
        rw [show ((m + 1 : Nat) : Int) = (m : Int) + 1 by omega, show T ^ 1 * G ((m : Int) + 1) = T * G ((m : Int) + 1) by clear r ek eg; grind, ← r, show ι (φ t1) * g * e = ι (φ t1) * (g * e) by clear r ek eg; grind, ek]
        clear r ek eg
        grind
  -- coordinates
  have cx : ∃ s : Int → Int → O, ∀ i : Int, 0 ≤ i → G i = su n (fun l => ι (s i l) * B l) := by
    have ex : ∀ i : Nat, ∃ s : Int → O, G i = su n (fun l => ι (s l) * B l) := fun i => (hG i).1
    refine ⟨fun i => Classical.choose (ex i.toNat), fun i i0 => ?_⟩
    have := Classical.choose_spec (ex i.toNat)
    exact (congrArg G (show i = ((i.toNat : Nat) : Int) by omega)).trans this
  obtain ⟨s, hs⟩ := cx
  have dx : ∃ (d : Int → Int → Int) (b : Int → Int → O), ∀ i l, s i l = φ (nC (d i l)) + φ t1 * b i l := by
    refine ⟨fun i l => Classical.choose (h.split (s i l)), fun i l => Classical.choose (Classical.choose_spec (h.split (s i l))), fun i l => ?_⟩
    exact (Classical.choose_spec (Classical.choose_spec (h.split (s i l)))).2
  obtain ⟨d, b, hd⟩ := dx
  obtain ⟨r, hr1, hr⟩ := ld hp n d
  obtain ⟨i0, i00, i01, nd, dv⟩ := first_nd n hr1
  -- the relation
  have rel : ∀ j : Nat, ∃ g, LT ι n B g ∧ su (n + 1) (fun i => ι (φ (nC (r i))) * G (i + j)) = ι (φ t1) * g := fun j => by
    induction j with
    | zero =>
      refine ⟨su n (fun l => ι (su (n + 1) (fun i => φ (nC (r i)) * b i l)) * B l), ⟨_, rfl⟩, ?_⟩
      rw [← su_mul, su_congr (g := fun i => su n (fun l => ι (φ (nC (r i)) * s i l) * B l)) (fun i q0 q1 => by
        rw [show i + ((0 : Nat) : Int) = i by omega, hs i q0, ← su_mul]
        exact su_congr fun l _ _ => by rw [a.2.1]; grind), su_swap]
      refine su_congr fun l l0 l1 => ?_
      have e1 : su (n + 1) (fun i => φ (nC (r i)) * s i l) = φ t1 * su (n + 1) (fun i => φ (nC (r i)) * b i l) := by
        rw [← su_mul, su_congr (g := fun i => φ (nC (r i * d i l)) + φ t1 * (φ (nC (r i)) * b i l)) (fun i q0 q1 => by rw [hd, h.1.nC_mul]; grind), su_add, ← hm_nC_sm h.1, h.1.nC_dv (hr l l0 l1)]
        grind
      rw [su_congr (g := fun i => B l * ι (φ (nC (r i)) * s i l)) (fun i _ _ => by grind), su_mul, ← a.isu, e1, a.2.1]
      grind
    | succ j ih =>
      obtain ⟨g, lg, eg⟩ := ih
      obtain ⟨k, lk, ek⟩ := lat.2.2.2.1 g e lg le
      refine ⟨k, lk, lat.canT 1 ?_⟩
      have e1 : T * su (n + 1) (fun i => ι (φ (nC (r i))) * G (i + ((j + 1 : Nat) : Int))) = su (n + 1) (fun i => ι (φ (nC (r i))) * G (i + j)) * e := by
        rw [← su_mul, show su (n + 1) (fun i => ι (φ (nC (r i))) * G (i + j)) * e = e * su (n + 1) (fun i => ι (φ (nC (r i))) * G (i + j)) by grind, ← su_mul]
        refine su_congr fun i q0 q1 => ?_
        have rr := hGe (i + j) (by omega)
        rw [show i + ((j + 1 : Nat) : Int) = i + j + 1 by omega, show T * (ι (φ (nC (r i))) * G (i + j + 1)) = ι (φ (nC (r i))) * (T * G (i + j + 1)) by clear rr; grind, ← rr]
        clear rr
        grind
      rw [show T ^ 1 * su (n + 1) (fun i => ι (φ (nC (r i))) * G (i + ((j + 1 : Nat) : Int))) = T * su (n + 1) (fun i => ι (φ (nC (r i))) * G (i + ((j + 1 : Nat) : Int))) by clear e1 eg ek; grind, e1, eg, show ι (φ t1) * g * e = ι (φ t1) * (g * e) by clear e1 eg ek; grind, ek]
      clear e1 eg ek
      grind
  -- downward
  obtain ⟨bi, hbi⟩ := inv_dv hp nd
  have inv : φ (nC bi) * φ (nC (r i0)) = 1 := by
    rw [← h.1.nC_mul, show bi * r i0 = (r i0 * bi - 1) + 1 by grind, h.1.nC_add, h.1.nC_dv hbi, h.1.nC_1]
    grind
  have z0 : LT ι n B 0 := ⟨fun _ => 0, (su_zeros (fun l _ _ => by rw [a.i0]; grind)).symm⟩
  have down : ∀ k : Nat, ∀ m : Nat, M ≤ m + k → i0 ≤ m → ∃ g, LT ι n B g ∧ G m = ι (φ t1) * g := fun k => by
    induction k with
    | zero => exact fun m q _ => P0 m (by omega)
    | succ k ih =>
      intro m q q2
      have hi : ∀ i : Int, i0 < i → ∃ g, LT ι n B g ∧ G (i + ((m - i0.toNat : Nat) : Int)) = ι (φ t1) * g := fun i hi => by
        have := ih (i + ((m - i0.toNat : Nat) : Int)).toNat (by omega) (by omega)
        rw [show (((i + ((m - i0.toNat : Nat) : Int)).toNat : Nat) : Int) = i + ((m - i0.toNat : Nat) : Int) by omega] at this
        exact this
      obtain ⟨g, lg, eg⟩ := rel (m - i0.toNat)
      have part : ∀ w : Nat, (w : Int) ≤ n + 1 → ∃ x, LT ι n B x ∧ su w (fun i => ι (φ (nC (r i))) * G (i + ((m - i0.toNat : Nat) : Int))) = (if i0 < w then ι (φ (nC (r i0))) * G m else 0) + ι (φ t1) * x := fun w => by
        induction w with
        | zero =>
          intro _
          refine ⟨0, z0, ?_⟩
          rw [if_neg (by omega)]
          show (0 : E) = _
          grind
        | succ w ih2 =>
          intro qw
          obtain ⟨x, lx, ex⟩ := ih2 (by omega)
          rw [su_succ, ex]
          rcases Int.lt_trichotomy (w : Int) i0 with q3 | q3 | q3
          · refine ⟨x, lx, ?_⟩
            rw [if_neg (by omega), if_neg (by omega), h.1.nC_dv (dv w (by omega) q3), a.i0]
            grind
          · refine ⟨x, lx, ?_⟩
            rw [if_neg (by omega), if_pos (by omega), q3, show i0 + ((m - i0.toNat : Nat) : Int) = m by omega]
            grind
          · obtain ⟨v, lv, ev⟩ := hi w q3
            refine ⟨x + ι (φ (nC (r w))) * v, lat.1 _ _ lx (lat.2.1 _ _ ⟨_, rfl⟩ lv), ?_⟩
            rw [if_pos (by omega), if_pos (by omega), ev]
            grind
      obtain ⟨x, lx, ex⟩ := part (n + 1) (by omega)
      rw [eg, if_pos (by omega)] at ex
      refine ⟨ι (φ (nC bi)) * (g + - x), lat.2.1 _ _ ⟨_, rfl⟩ (lat.1 _ _ lg (lat.neg lx)), ?_⟩
      have e2 : ι (φ (nC bi)) * (ι (φ (nC (r i0))) * G m) = G m := by
        rw [show ι (φ (nC bi)) * (ι (φ (nC (r i0))) * G m) = ι (φ (nC bi)) * ι (φ (nC (r i0))) * G m by grind, ← a.2.1, inv, a.2.2.1]
        grind
      rw [← e2, show ι (φ (nC (r i0))) * G m = ι (φ t1) * g - ι (φ t1) * x by rw [ex]; grind]
      grind
  obtain ⟨g, lg, eg⟩ := down M N (by omega) (by omega)
  refine ⟨g, lg, ?_⟩
  rw [(hG N).2, eg]
theorem frb_2 {E : Type} [J : Lean.Grind.CommRing E] (z : (1 + 1 : E) = 0) (a b : E) : (a + b) ^ 2 = a ^ 2 + b ^ 2 := by
  have e : (a + b) ^ 2 = a ^ 2 + b ^ 2 + (1 + 1 : E) * ((1) * (a ^ 1 * b ^ 1)) := by
    clear z
    grind
  rw [e, z]
  clear z e
  grind
theorem frb_3 {E : Type} [J : Lean.Grind.CommRing E] (z : (1 + 1 + 1 : E) = 0) (a b : E) : (a + b) ^ 3 = a ^ 3 + b ^ 3 := by
  have e : (a + b) ^ 3 = a ^ 3 + b ^ 3 + (1 + 1 + 1 : E) * ((1) * (a ^ 2 * b ^ 1) + (1) * (a ^ 1 * b ^ 2)) := by
    clear z
    grind
  rw [e, z]
  clear z e
  grind
theorem frb_5 {E : Type} [J : Lean.Grind.CommRing E] (z : (1 + 1 + 1 + 1 + 1 : E) = 0) (a b : E) : (a + b) ^ 5 = a ^ 5 + b ^ 5 := by
  have e : (a + b) ^ 5 = a ^ 5 + b ^ 5 + (1 + 1 + 1 + 1 + 1 : E) * ((1) * (a ^ 4 * b ^ 1) + (1 + 1) * (a ^ 3 * b ^ 2) + (1 + 1) * (a ^ 2 * b ^ 3) + (1) * (a ^ 1 * b ^ 4)) := by
    clear z
    grind
  rw [e, z]
  clear z e
  grind
theorem frb_7 {E : Type} [J : Lean.Grind.CommRing E] (z : (1 + 1 + 1 + 1 + 1 + 1 + 1 : E) = 0) (a b : E) : (a + b) ^ 7 = a ^ 7 + b ^ 7 := by
  have e : (a + b) ^ 7 = a ^ 7 + b ^ 7 + (1 + 1 + 1 + 1 + 1 + 1 + 1 : E) * ((1) * (a ^ 6 * b ^ 1) + (1 + 1 + 1) * (a ^ 5 * b ^ 2) + (1 + 1 + 1 + 1 + 1) * (a ^ 4 * b ^ 3) + (1 + 1 + 1 + 1 + 1) * (a ^ 3 * b ^ 4) + (1 + 1 + 1) * (a ^ 2 * b ^ 5) + (1) * (a ^ 1 * b ^ 6)) := by
    clear z
    grind
  rw [e, z]
  clear z e
  grind
theorem HM.nC_pow {p : Int} {O : Type} [I : Lean.Grind.CommRing O] {φ : (Int → Int) → O} (h : HM p φ) (d : Int) : ∀ k : Nat, φ (nC d) ^ k = φ (nC (d ^ k))
  | 0 => by rw [Lean.Grind.Semiring.pow_zero, Int.pow_zero, h.nC_1]
  | k + 1 => by rw [Lean.Grind.Semiring.pow_succ, HM.nC_pow h d k, ← h.nC_mul, Int.pow_succ]
theorem fermat {p : Int} {O : Type} [I : Lean.Grind.CommRing O] {φ : (Int → Int) → O} (h : HM p φ) (hp : isPr p) (d : Int) : φ (nC d) ^ p.toNat = φ (nC d) := by
  rw [← h.nC_mod d, h.nC_pow, ← h.nC_mod]
  have b : 0 ≤ d % p ∧ d % p < p := ⟨em_ge (by have := hp.two; omega), em_lt (by have := hp.two; omega)⟩
  generalize d % p = m at b
  congr 2
  rcases hp with rfl | rfl | rfl | rfl
  · rcases (show m = 0 ∨ m = 1 by omega) with rfl | rfl <;> decide
  · rcases (show m = 0 ∨ m = 1 ∨ m = 2 by omega) with rfl | rfl | rfl <;> decide
  · rcases (show m = 0 ∨ m = 1 ∨ m = 2 ∨ m = 3 ∨ m = 4 by omega) with rfl | rfl | rfl | rfl | rfl <;> decide
  · rcases (show m = 0 ∨ m = 1 ∨ m = 2 ∨ m = 3 ∨ m = 4 ∨ m = 5 ∨ m = 6 by omega) with rfl | rfl | rfl | rfl | rfl | rfl | rfl <;> decide
theorem char_p {p : Int} {O : Type} [I : Lean.Grind.CommRing O] {φ : (Int → Int) → O} (h : HM p φ) (k : Nat) : φ (nC ((k : Int) + 1)) = φ (nC k) + 1 := by
  rw [h.nC_add, h.nC_1]
theorem frb {p : Int} {O E : Type} [I : Lean.Grind.CommRing O] [J : Lean.Grind.CommRing E] {φ : (Int → Int) → O} {ι : O → E} {y : E} {n : Nat} {c : Int → O} (h : HM p φ) (A : ALG n c ι y) (hp : isPr p) (a b : E) : (a + b) ^ p.toNat = a ^ p.toNat + b ^ p.toNat := by
  have one : ∀ d : Int, ι (φ (nC (d + 1))) = ι (φ (nC d)) + 1 := fun d => by rw [h.nC_add, h.nC_1, A.1, A.2.2.1]
  have z : ι (φ (nC p)) = 0 := by rw [h.nC_dv (Int.dvd_refl p), A.i0]
  have o1 : ι (φ (nC 1)) = 1 := by rw [h.nC_1, A.2.2.1]
  rcases hp with rfl | rfl | rfl | rfl
  · rw [show (2 : Int) = 1 + 1 from rfl, one, o1] at z
    exact frb_2 z a b
  · rw [show (3 : Int) = 2 + 1 from rfl, one, show (2 : Int) = 1 + 1 from rfl, one, o1] at z
    exact frb_3 z a b
  · rw [show (5 : Int) = 4 + 1 from rfl, one, show (4 : Int) = 3 + 1 from rfl, one, show (3 : Int) = 2 + 1 from rfl, one, show (2 : Int) = 1 + 1 from rfl, one, o1] at z
    exact frb_5 z a b
  · rw [show (7 : Int) = 6 + 1 from rfl, one, show (6 : Int) = 5 + 1 from rfl, one, show (5 : Int) = 4 + 1 from rfl, one, show (4 : Int) = 3 + 1 from rfl, one, show (3 : Int) = 2 + 1 from rfl, one, show (2 : Int) = 1 + 1 from rfl, one, o1] at z
    exact frb_7 z a b
