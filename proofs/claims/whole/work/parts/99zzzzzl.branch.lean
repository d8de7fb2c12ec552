/-! Branches: the class's equations are the reference's classes. -/
theorem cl_mod {O E : Type} [I : Lean.Grind.CommRing O] [J : Lean.Grind.CommRing E] {φ : (Int → Int) → O} {ι : O → E} {y : E} {p : Int} {n : Nat} {c : Int → O} (h : HM p φ) {B : Int → E} (A : ALG n c ι y) {x z : Int → Int} (e : ∀ l : Int, 0 ≤ l → l < n → p ∣ x l - z l) : clE φ ι n B x = clE φ ι n B z := by
  unfold clE
  refine su_congr fun l l0 l1 => ?_
  rw [show x l = (x l - z l) + z l by omega, h.nC_add, h.nC_dv (e l l0 l1), show (0 : O) + φ (nC (z l)) = φ (nC (z l)) by grind]
theorem ys_a {E : Type} [J : Lean.Grind.CommRing E] {q c r d t z : E} (e : q * c = d + t * z) : r * (q * c) = r * d + t * (r * z) := by
  rw [e]
  clear e
  grind
/-- y - e times a sum of the basis -/
theorem df_s {O E : Type} [I : Lean.Grind.CommRing O] [J : Lean.Grind.CommRing E] {p n k : Int} {C : Int → Int → Int} {φ : (Int → Int) → O} {ι : O → E} {y : E} {fig : Int → Int → Int → Int} {dp : Int → Int} (v : RNV p n C φ ι y k fig dp) {D : Int → Int} {e : Int} (hd : ∀ i, 0 ≤ i → i < n → ∃ z, (LT ι n.toNat (fun l => vE φ ι y n.toNat (bR fig l))) z ∧ (y + - ι (φ (nC e))) * vE φ ι y n.toNat (bR fig i) = clE φ ι n.toNat (fun l => vE φ ι y n.toNat (bR fig l)) (fun l => D (4 * l + i)) + ι (φ t1) * z) (x : Int → Int) : ∃ z, (LT ι n.toNat (fun l => vE φ ι y n.toNat (bR fig l))) z ∧ (y + - ι (φ (nC e))) * clE φ ι n.toNat (fun l => vE φ ι y n.toNat (bR fig l)) x = clE φ ι n.toNat (fun l => vE φ ι y n.toNat (bR fig l)) (fun l => dot n D l x) + ι (φ t1) * z := by
  have h := v.1
  have A := v.2.2.2.1
  have hn := v.2.2.1
  have gx : ∃ g : Int → E, ∀ i, 0 ≤ i → i < n → (LT ι n.toNat (fun l => vE φ ι y n.toNat (bR fig l))) (g i) ∧ (y + - ι (φ (nC e))) * vE φ ι y n.toNat (bR fig i) = clE φ ι n.toNat (fun l => vE φ ι y n.toNat (bR fig l)) (fun l => D (4 * l + i)) + ι (φ t1) * g i := ⟨fun i => if w : 0 ≤ i ∧ i < n then Classical.choose (hd i w.1 w.2) else 0, fun i i0 i1 => by
    (try dsimp only)
    rw [dif_pos ⟨i0, i1⟩]
    exact Classical.choose_spec (hd i i0 i1)⟩
  obtain ⟨g, hg⟩ := gx
  refine ⟨su n.toNat (fun i => ι (φ (nC (x i))) * g i), lt_su A n.toNat (fun i i0 i1 => LT.sca A _ (hg i i0 (by omega)).1), ?_⟩
  have e1 : clE φ ι n.toNat (fun l => vE φ ι y n.toNat (bR fig l)) (fun l => dot n D l x) = su n.toNat (fun i => ι (φ (nC (x i))) * clE φ ι n.toNat (fun l => vE φ ι y n.toNat (bR fig l)) (fun l => D (4 * l + i))) := by
    unfold clE dot
    rw [su_congr (g := fun l => su n.toNat (fun i => ι (φ (nC (x i))) * (ι (φ (nC (D (4 * l + i)))) * vE φ ι y n.toNat (bR fig l)))) (fun l l0 l1 => by
      (try dsimp only)
      rw [hm_nC_sm h.1, A.isu, comm_E, ← su_mul]
      refine su_congr fun i _ _ => ?_
      rw [h.1.nC_mul, A.2.1]
      grind), su_swap]
    exact su_congr fun i _ _ => su_mul _ _ _
  rw [e1, ← su_mul, ← su_add]
  unfold clE
  rw [← su_mul]
  refine su_congr fun i i0 i1 => ?_
  have q := (hg i i0 (by omega)).2
  unfold clE at q
  (try dsimp only)
  rw [show (y + - ι (φ (nC e))) * (ι (φ (nC (x i))) * vE φ ι y n.toNat (bR fig i)) = ι (φ (nC (x i))) * ((y + - ι (φ (nC e))) * vE φ ι y n.toNat (bR fig i)) by clear q e1; grind, q]
  clear q e1
  grind
theorem RNV.yl {O E : Type} [I : Lean.Grind.CommRing O] [J : Lean.Grind.CommRing E] {p n k : Int} {C : Int → Int → Int} {φ : (Int → Int) → O} {ι : O → E} {y : E} {fig : Int → Int → Int → Int} {dp : Int → Int} (v : RNV p n C φ ι y k fig dp) {e : Int} {z : E} (lz : (LT ι n.toNat (fun l => vE φ ι y n.toNat (bR fig l))) z) : (LT ι n.toNat (fun l => vE φ ι y n.toNat (bR fig l))) ((y + - ι (φ (nC e))) * z) := by
  have A := v.2.2.2.1
  have lat := v.lat
  obtain ⟨s, rfl⟩ := lz
  have ey : (LT ι n.toNat (fun l => vE φ ι y n.toNat (bR fig l))) (y * su n.toNat (fun l => ι (s l) * vE φ ι y n.toNat (bR fig l))) := by
    rw [← su_mul]
    refine lt_su A n.toNat (fun l l0 l1 => ?_)
    rw [show y * (ι (s l) * vE φ ι y n.toNat (bR fig l)) = ι (s l) * (y * vE φ ι y n.toNat (bR fig l)) by grind]
    exact LT.sca A _ (v.yB l0 (by omega))
  rw [show (y + - ι (φ (nC e))) * su n.toNat (fun l => ι (s l) * vE φ ι y n.toNat (bR fig l)) = y * su n.toNat (fun l => ι (s l) * vE φ ι y n.toNat (bR fig l)) + - (ι (φ (nC e)) * su n.toNat (fun l => ι (s l) * vE φ ι y n.toNat (bR fig l))) by grind]
  exact LT.add A ey (lat.neg (LT.sca A _ ⟨s, rfl⟩))
theorem pwM_dot {p n : Int} {D x : Int → Int} (hn : 2 ≤ n ∧ n ≤ 4) (s : Nat) {l : Int} (l0 : 0 ≤ l) (l1 : l < n) : p ∣ dot n (pwM p n D (s + 1)) l x - dot n (pwM p n D s) l (fun i => dot n D i x) := by
  have e : dot n (pwM p n D s) l (fun i => dot n D i x) = sm n.toNat (fun j => sm n.toNat (fun i => pwM p n D s (4 * l + i) * D (4 * i + j)) * x j) := by
    unfold dot
    rw [sm_congr (g := fun i => sm n.toNat (fun j => pwM p n D s (4 * l + i) * (D (4 * i + j) * x j))) (fun i _ _ => by rw [← sm_mul]), sm_swap]
    refine sm_congr fun j _ _ => ?_
    rw [Int.mul_comm (sm n.toNat _) (x j), ← sm_mul]
    exact sm_congr fun i _ _ => by rw [← Int.mul_assoc, Int.mul_comm (x j)]
  rw [e]
  unfold dot
  refine sm_dvd fun j j0 j1 => ?_
  have q : pwM p n D (s + 1) (4 * l + j) = sm n.toNat (fun i => pwM p n D s (4 * l + i) * D (4 * i + j)) % p := by
    show sqM p n (pwM p n D s) D (fun _ => 0) (4 * l + j) = _
    unfold sqM
    rw [if_pos (show sqI n (4 * l + j) from ⟨by omega, by omega, by omega⟩), show (4 * l + j) / 4 = l by omega, show (4 * l + j) % 4 = j by omega]
  rw [q, ← Int.sub_mul]
  exact dvdL (emod_sub_dvd _ _) _
/-- powers of y - e -/
theorem df_p {O E : Type} [I : Lean.Grind.CommRing O] [J : Lean.Grind.CommRing E] {p n k : Int} {C : Int → Int → Int} {φ : (Int → Int) → O} {ι : O → E} {y : E} {fig : Int → Int → Int → Int} {dp : Int → Int} (v : RNV p n C φ ι y k fig dp) {D : Int → Int} {e : Int} (hd : ∀ i, 0 ≤ i → i < n → ∃ z, (LT ι n.toNat (fun l => vE φ ι y n.toNat (bR fig l))) z ∧ (y + - ι (φ (nC e))) * vE φ ι y n.toNat (bR fig i) = clE φ ι n.toNat (fun l => vE φ ι y n.toNat (bR fig l)) (fun l => D (4 * l + i)) + ι (φ t1) * z) : ∀ (s : Nat) (x : Int → Int), ∃ z, (LT ι n.toNat (fun l => vE φ ι y n.toNat (bR fig l))) z ∧ (y + - ι (φ (nC e))) ^ (s + 1) * clE φ ι n.toNat (fun l => vE φ ι y n.toNat (bR fig l)) x = clE φ ι n.toNat (fun l => vE φ ι y n.toNat (bR fig l)) (fun l => dot n (pwM p n D s) l x) + ι (φ t1) * z
  | 0, x => by
    obtain ⟨z, lz, ez⟩ := df_s v hd x
    refine ⟨z, lz, ?_⟩
    rw [show (y + - ι (φ (nC e))) ^ (0 + 1) = y + - ι (φ (nC e)) by grind]
    exact ez
  | s + 1, x => by
    obtain ⟨z, lz, ez⟩ := df_s v hd x
    obtain ⟨w, lw, ew⟩ := df_p v hd s (fun i => dot n D i x)
    have A := v.2.2.2.1
    have lp : ∀ (k : Nat) (z : E), (LT ι n.toNat (fun l => vE φ ι y n.toNat (bR fig l))) z → (LT ι n.toNat (fun l => vE φ ι y n.toNat (bR fig l))) ((y + - ι (φ (nC e))) ^ k * z) := fun k => by
      induction k with
      | zero =>
        intro z lz
        rw [Lean.Grind.Semiring.pow_zero, show (1 : E) * z = z by grind]
        exact lz
      | succ k ih =>
        intro z lz
        rw [Lean.Grind.Semiring.pow_succ, show (y + - ι (φ (nC e))) ^ k * (y + - ι (φ (nC e))) * z = (y + - ι (φ (nC e))) ^ k * ((y + - ι (φ (nC e))) * z) by grind]
        exact ih _ (v.yl lz)
    refine ⟨w + (y + - ι (φ (nC e))) ^ (s + 1) * z, LT.add A lw (lp _ _ lz), ?_⟩
    rw [cl_mod v.1.1 A (x := fun l => dot n (pwM p n D (s + 1)) l x) (z := fun l => dot n (pwM p n D s) l (fun i => dot n D i x)) (fun l l0 l1 => pwM_dot v.2.2.1 s l0 (by omega)), Lean.Grind.Semiring.pow_succ _ (s + 1), show (y + - ι (φ (nC e))) ^ (s + 1) * (y + - ι (φ (nC e))) * clE φ ι n.toNat (fun l => vE φ ι y n.toNat (bR fig l)) x = (y + - ι (φ (nC e))) ^ (s + 1) * ((y + - ι (φ (nC e))) * clE φ ι n.toNat (fun l => vE φ ι y n.toNat (bR fig l)) x) by clear ez ew; grind, ys_a ez, ew]
    clear ez ew
    grind
/-- the class of a line -/
theorem ln_e {O E : Type} [I : Lean.Grind.CommRing O] [J : Lean.Grind.CommRing E] {p n k : Int} {C : Int → Int → Int} {φ : (Int → Int) → O} {ι : O → E} {y : E} {fig : Int → Int → Int → Int} {dp : Int → Int} (v : RNV p n C φ ι y k fig dp) {e : Int} (e0 : 0 ≤ e) (e1 : e < p) : ∃ z, (LT ι n.toNat (fun l => vE φ ι y n.toNat (bR fig l))) z ∧ ι (φ t1) ^ 20 * (y + - ι (φ (nC e))) = vC p φ ι n.toNat (fun l => vE φ ι y n.toNat (bR fig l)) (lnC p n fig dp e) + ι (φ t1) * z := by
  have ok := line_ok v (w := e) e0 e1
  have p2 := v.2.1.two
  have hn := v.2.2.1
  have h := v.1
  have A := v.2.2.2.1
  have can : CAN p (lnE p e) := ⟨fun i x => lnE_bd p2.1 ⟨e0, e1⟩ i x, fun i x hx => lnE_z (Or.inl hx)⟩
  have c := (cmb_vE (p := p) A).mp (ex_1 h p2.1 (by omega) v.2.2.2.2.2.1 v.2.2.2.2.2.2.1 can ok)
  have l0 : φ (lnE p e 0) = - φ (nC e) * φ t1 ^ 40 := by
    rw [← h.1.tk 40, show - φ (nC e) = φ (nC (-1 * e)) by rw [h.1.nC_mul, hm_m1 h.1]; grind, ← h.1.scal (f := fun x => if x = ((40 : Nat) : Int) then 1 else 0) (fun x hx => if_neg (by omega)), ← h.1.2.2.1 (lnE p e 0), ← h.1.2.2.1 (fun x => -1 * e * _)]
    congr 1
    refine funext fun x => ?_
    unfold lnE
    (try dsimp only)
    rw [if_neg (by omega)]
    by_cases q : x = 40
    · rw [if_pos ⟨rfl, q⟩]
      by_cases q2 : e = 0
      · rw [if_pos q2, q2, if_pos (show x = ((40 : Nat) : Int) by omega)]
        rfl
      · rw [if_neg q2, if_pos (show x = ((40 : Nat) : Int) by omega), Int.mul_one, show p - e = -1 * e + p * 1 by omega, Int.add_mul_emod_self_left]
    · rw [if_neg (fun z => q z.2), if_neg (by omega), Int.mul_zero]
  have l1 : φ (lnE p e 1) = φ t1 ^ 40 := by
    rw [← h.1.tk 40]
    congr 1
    refine funext fun x => ?_
    unfold lnE
    by_cases q : x = 40
    · rw [if_pos ⟨rfl, q⟩, if_pos (by omega)]
    · rw [if_neg (fun z => q z.2), if_neg (by omega), if_neg (by omega)]
  have ev : vE φ ι y n.toNat (lnE p e) = ι (φ t1) ^ 20 * (ι (φ t1) ^ 20 * (y + - ι (φ (nC e)))) := by
    unfold vE
    have hm : n.toNat = (n.toNat - 2) + 1 + 1 := by omega
    rw [hm, su_first, su_first, su_zeros (fun i i0 i1 => by
      rw [show lnE p e (i + 1 + 1) = fun _ => 0 from funext fun x => by
        unfold lnE
        rw [if_neg (by omega), if_neg (by omega)], h.1.2.2.2.2.2.1, A.i0]
      grind), show (0 : Int) + 1 = 1 from rfl, l0, l1, A.2.1, A.ineg, A.ipow, show (0 : Int).toNat = 0 from rfl, show (1 : Int).toNat = 1 from rfl]
    grind
  rw [ev] at c
  have c2 := v.lat.2.2.2.2.2.2.2.1 _ _ c
  have zx : ∀ l, ∃ z, φ (shN p n dp fig (lnE p e) l) = φ (nC (shN p n dp fig (lnE p e) l 0)) + φ t1 * z := fun l => by
    obtain ⟨z, hz⟩ := h.two (f := shN p n dp fig (lnE p e) l) (fun x hx => (shN_can p2.1 can).2 l x hx)
    exact ⟨_, hz⟩
  have zx : ∃ z : Int → O, ∀ l, φ (shN p n dp fig (lnE p e) l) = φ (nC (shN p n dp fig (lnE p e) l 0)) + φ t1 * z l := ⟨fun l => Classical.choose (zx l), fun l => Classical.choose_spec (zx l)⟩
  obtain ⟨z, hz⟩ := zx
  refine ⟨su n.toNat (fun l => ι (z l) * vE φ ι y n.toNat (bR fig l)), ⟨z, rfl⟩, ?_⟩
  rw [c2]
  unfold vC lnC
  rw [← su_mul, ← su_add]
  refine su_congr fun l l0 l1 => ?_
  have cd := cdF_dgt (c := fun l => shN p n dp fig (lnE p e) l 0) p2 (fun i => (shN_can p2.1 can).1 i 0) l.toNat n.toNat 0 (by omega)
  rw [show ((l.toNat : Nat) : Int) = l by omega, show (0 : Int) + l = l by omega] at cd
  rw [cd, hz, A.1, A.2.1]
  grind
theorem mp_b {E : Type} [J : Lean.Grind.CommRing E] {T u b c t w0 q z g : E} (h : u * b = T * (c + t * w0)) (hb : T * q = b + t * z) (hg : u * z = T * g) (can : ∀ a b, T * a = T * b → a = b) : c = q * u + t * (- w0 + - g) := by
  refine can _ _ ?_
  rw [show T * c = T * (c + t * w0) + - (T * (t * w0)) by clear h hb hg; grind, ← h, show b = T * q + - (t * z) by rw [hb]; clear h hb hg; grind, show u * (T * q + - (t * z)) = T * (q * u) + - (t * (u * z)) by clear h hb hg; grind, hg]
  clear h hb hg
  grind
/-- a class times the line, time and again -/
theorem mp_e {O E : Type} [I : Lean.Grind.CommRing O] [J : Lean.Grind.CommRing E] {p n k : Int} {C : Int → Int → Int} {φ : (Int → Int) → O} {ι : O → E} {y : E} {fig : Int → Int → Int → Int} {dp : Int → Int} (v : RNV p n C φ ι y k fig dp) {e a : Int} (e0 : 0 ≤ e) (e1 : e < p) : ∀ k : Nat, ∃ z, (LT ι n.toNat (fun l => vE φ ι y n.toNat (bR fig l))) z ∧ (y + - ι (φ (nC e))) ^ k * vC p φ ι n.toNat (fun l => vE φ ι y n.toNat (bR fig l)) a = vC p φ ι n.toNat (fun l => vE φ ι y n.toNat (bR fig l)) (mpC p n (tb1 p n C fig dp 0) (lnC p n fig dp e) a k) + ι (φ t1) * z
  | 0 => ⟨0, LT.zero v.2.2.2.1, by
    rw [Lean.Grind.Semiring.pow_zero]
    show (1 : E) * vC p φ ι n.toNat (fun l => vE φ ι y n.toNat (bR fig l)) a = vC p φ ι n.toNat (fun l => vE φ ι y n.toNat (bR fig l)) a + ι (φ t1) * 0
    grind⟩
  | k + 1 => by
    obtain ⟨w, lw, ew⟩ := mp_e v (a := a) e0 e1 k
    obtain ⟨z, lz, ez⟩ := ln_e v e0 e1
    have A := v.2.2.2.1
    have lat := v.lat
    obtain ⟨w0, l0, h0⟩ := v.ab (mpC p n (tb1 p n C fig dp 0) (lnC p n fig dp e) a k) (lnC p n fig dp e)
    obtain ⟨g, lg, hg⟩ := lat.2.2.2.1 (vC p φ ι n.toNat (fun l => vE φ ι y n.toNat (bR fig l)) (mpC p n (tb1 p n C fig dp 0) (lnC p n fig dp e) a k)) z ⟨_, rfl⟩ lz
    have r := mp_b h0 ez hg (fun a b => lat.2.2.2.2.2.2.2.1 a b)
    have ly := v.yl (e := e) lw
    have l0' : (LT ι n.toNat (fun l => vE φ ι y n.toNat (bR fig l))) (vC p φ ι n.toNat (fun l => vE φ ι y n.toNat (bR fig l)) (pcC p n (tb1 p n C fig dp 1) (mpC p n (tb1 p n C fig dp 0) (lnC p n fig dp e) a k) (lnC p n fig dp e)) + ι (φ t1) * w0) := LT.add A ⟨_, rfl⟩ (LT.sca A _ l0)
    refine ⟨_, LT.add A ly (lat.neg (LT.add A (lat.neg l0') (lat.neg lg))), ?_⟩
    show (y + - ι (φ (nC e))) ^ (k + 1) * vC p φ ι n.toNat (fun l => vE φ ι y n.toNat (bR fig l)) a = vC p φ ι n.toNat (fun l => vE φ ι y n.toNat (bR fig l)) (pcC p n (tb1 p n C fig dp 0) (mpC p n (tb1 p n C fig dp 0) (lnC p n fig dp e) a k) (lnC p n fig dp e)) + _
    rw [r, Lean.Grind.Semiring.pow_succ, show (y + - ι (φ (nC e))) ^ k * (y + - ι (φ (nC e))) * vC p φ ι n.toNat (fun l => vE φ ι y n.toNat (bR fig l)) a = (y + - ι (φ (nC e))) * ((y + - ι (φ (nC e))) ^ k * vC p φ ι n.toNat (fun l => vE φ ι y n.toNat (bR fig l)) a) by clear r ew ez h0 hg; grind, ew]
    clear r ew ez h0 hg
    grind
/-- THE BRANCHES -/
theorem br_ker {O E : Type} [I : Lean.Grind.CommRing O] [J : Lean.Grind.CommRing E] {p n k : Int} {C : Int → Int → Int} {φ : (Int → Int) → O} {ι : O → E} {y : E} {fig : Int → Int → Int → Int} {dp : Int → Int} (v : RNV p n C φ ι y k fig dp) {low pw D : Int → Int} {e : Int} (e0 : 0 ≤ e) (e1 : e < p) (hl : ∀ i j l, 0 ≤ i → i < n → 0 ≤ j → j < n → 0 ≤ l → l < n → low ((4 * i + j) * 4 + l) = tb1 p n C fig dp 0 ((4 * i + j) * 4 + l)) (hw : ∀ l j, 0 ≤ l → l < n → 0 ≤ j → j < n → pw (4 * l + j) = pwC p n low j (p - 1).toNat l) (hD : ∀ l i, 0 ≤ l → l < n → 0 ≤ i → i < n → D (4 * l + i) = dfV p (dp 1) (fig 1 0 (dp 1)) e low l i) {a : Int} (a0 : 0 ≤ a) (a1 : a < pwI p n.toNat) : (mpC p n (tb1 p n C fig dp 0) (lnC p n fig dp e) a n.toNat = 0 ∧ fpC p n (tb1 p n C fig dp 0) a = a) ↔ ker p n (2 * n) (brE p n pw D) (dgt p a) := by
  have hn := v.2.2.1
  have p2 := v.2.1.two
  rw [pt_ker v hl hw a0 a1]
  have rowlo : ∀ r, 0 ≤ r → r < n → dot n (brE p n pw D) r (dgt p a) = dot n (ptE p pw) r (dgt p a) := fun r r0 r1 => by
    unfold dot
    refine sm_congr fun i i0 i1 => ?_
    unfold brE
    rw [if_pos (by omega)]
  have rowhi : ∀ r, 0 ≤ r → r < n → dot n (brE p n pw D) (n + r) (dgt p a) = dot n (pwM p n D (n - 1).toNat) r (dgt p a) := fun r r0 r1 => by
    unfold dot
    refine sm_congr fun i i0 i1 => ?_
    unfold brE
    rw [if_neg (by omega), show 4 * (n + r) + i - 4 * n = 4 * r + i by omega]
  have kk : ker p n (2 * n) (brE p n pw D) (dgt p a) ↔ (∀ r, 0 ≤ r → r < n → p ∣ dot n (pwM p n D (n - 1).toNat) r (dgt p a)) ∧ ker p n n (ptE p pw) (dgt p a) := by
    constructor
    · intro k
      refine ⟨fun r r0 r1 => ?_, fun r r0 r1 => ?_⟩
      · rw [← rowhi r r0 r1]
        exact k _ (by omega) (by omega)
      · rw [← rowlo r r0 r1]
        exact k r r0 (by omega)
    · rintro ⟨k1, k2⟩ r r0 r1
      by_cases q : r < n
      · rw [rowlo r r0 q]
        exact k2 r r0 q
      · have := k1 (r - n) (by omega) (by omega)
        rw [← rowhi (r - n) (by omega) (by omega), show n + (r - n) = r by omega] at this
        exact this
  rw [kk]
  refine and_congr ?_ Iff.rfl
  obtain ⟨z, lz, ez⟩ := df_p v (D := D) (e := e) (fun i i0 i1 => df_e v hl hD i0 i1) (n - 1).toNat (dgt p a)
  obtain ⟨w, lw, ew⟩ := mp_e v (a := a) e0 e1 n.toNat
  rw [show (n - 1).toNat + 1 = n.toNat by omega] at ez
  have s := cl_same v lz lw (x := fun l => dot n (pwM p n D (n - 1).toNat) l (dgt p a)) (z := dgt p (mpC p n (tb1 p n C fig dp 0) (lnC p n fig dp e) a n.toNat)) (ez.symm.trans ew)
  constructor
  · intro h r r0 r1
    have := s r r0 r1
    rw [h] at this
    have d0 : dgt p 0 r = 0 := by
      unfold dgt
      rw [Int.zero_ediv]
      exact Int.zero_emod p
    rw [d0, Int.sub_zero] at this
    exact this
  · intro h
    have hm : n.toNat = (n.toNat - 1) + 1 := by omega
    rw [hm]
    show pcC p n (tb1 p n C fig dp 0) (mpC p n (tb1 p n C fig dp 0) (lnC p n fig dp e) a (n.toNat - 1)) (lnC p n fig dp e) = 0
    refine pcC_z v.2.1 (by omega) (fun l l0 l1 => ?_)
    have s1 := s l l0 l1
    rw [hm] at s1
    have := Int.dvd_sub (h l l0 l1) s1
    rw [show ∀ u w : Int, u - (u - w) = w from fun u w => by omega] at this
    have b := dgt_bd (p := p) (a := mpC p n (tb1 p n C fig dp 0) (lnC p n fig dp e) a (n.toNat - 1 + 1)) (i := l) p2.1
    obtain ⟨q, hq⟩ := this
    have e3 : dgt p (mpC p n (tb1 p n C fig dp 0) (lnC p n fig dp e) a (n.toNat - 1 + 1)) l = 0 := by
      rw [← em_id b.1 b.2, hq]
      exact Int.mul_emod_right p q
    exact e3
