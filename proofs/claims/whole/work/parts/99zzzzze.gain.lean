/-! Who gains: the class's free unknowns are the reference's. -/
theorem c_co {O E : Type} [I : Lean.Grind.CommRing O] [J : Lean.Grind.CommRing E] {p n k : Int} {C : Int → Int → Int} {φ : (Int → Int) → O} {ι : O → E} {y : E} {fig : Int → Int → Int → Int} {dp : Int → Int} (v : RNV p n C φ ι y k fig dp) {M nb nil : Int → Int} {kn : Int} (sv : solved p n n M nil nb kn) {s w : Int → O} (e : su n.toNat (fun j => ι (s j) * cB φ ι n.toNat (fun l => vE φ ι y n.toNat (bR fig l)) nb nil j) = su n.toNat (fun a => ι (w a) * vE φ ι y n.toNat (bR fig a))) : ∀ a, 0 ≤ a → a < n → su n.toNat (fun j => s j * gaO φ nb nil j a) = w a := by
  have A := v.2.2.2.1
  have h := v.1
  have hn := v.2.2.1
  have cg : ∀ j : Int, 0 ≤ j → j < n → cB φ ι n.toNat (fun l => vE φ ι y n.toNat (bR fig l)) nb nil j = su n.toNat (fun a => ι (gaO φ nb nil j a) * vE φ ι y n.toNat (bR fig a)) := fun j j0 j1 => by
    unfold cB gaO
    by_cases q : nil j = 1
    · rw [if_pos q]
      unfold clE
      exact su_congr fun a _ _ => by rw [if_pos q]
    · rw [if_neg q, su_one j j0 (by omega) (fun a _ _ na => by (try dsimp only); rw [if_neg q, if_neg na, A.i0]; grind)]
      (try dsimp only)
      rw [if_neg q, if_pos rfl]
  intro a a0 a1
  refine v.2.2.2.2.2.ind (s := fun a => su n.toNat (fun j => s j * gaO φ nb nil j a)) (w := w) h v.2.1.two.1 hn A ?_ a a0 a1
  rw [← e]
  rw [su_congr (n := n.toNat) (f := fun j => ι (s j) * cB φ ι n.toNat (fun l => vE φ ι y n.toNat (bR fig l)) nb nil j) (g := fun j => su n.toNat (fun a => ι (s j) * (ι (gaO φ nb nil j a) * vE φ ι y n.toNat (bR fig a)))) (fun j j0 j1 => by rw [cg j j0 (by omega), su_mul]), su_swap]
  refine su_congr fun a _ _ => ?_
  rw [A.isu, comm_E, ← su_mul]
  exact su_congr fun j _ _ => by rw [A.2.1]; grind
theorem gaO_0 {O : Type} [I : Lean.Grind.CommRing O] {φ : (Int → Int) → O} {p n : Int} (h : HM p φ) {M nb nil : Int → Int} {kn : Int} (sv : solved p n n M nil nb kn) {i a : Int} (i0 : 0 ≤ i) (ia : i < a) (a1 : a < n) : gaO φ nb nil i a = 0 := by
  unfold gaO
  split
  · rw [sv.2.2.2.2.2.1 i a i0 ia a1, h.nC_0]
  · exact if_neg (by omega)
/-- what has no b_a above j has no c_i above j -/
theorem c_top {O E : Type} [I : Lean.Grind.CommRing O] [J : Lean.Grind.CommRing E] {p n k : Int} {C : Int → Int → Int} {φ : (Int → Int) → O} {ι : O → E} {y : E} {fig : Int → Int → Int → Int} {dp : Int → Int} (v : RNV p n C φ ι y k fig dp) {M nb nil : Int → Int} {kn : Int} (sv : solved p n n M nil nb kn) {s w : Int → O} (e : su n.toNat (fun j => ι (s j) * cB φ ι n.toNat (fun l => vE φ ι y n.toNat (bR fig l)) nb nil j) = su n.toNat (fun a => ι (w a) * vE φ ι y n.toNat (bR fig a))) {j : Int} (j0 : 0 ≤ j) (j1 : j < n) (hw : ∀ a, j < a → a < n → w a = 0) : (∀ i, j < i → i < n → s i = 0) ∧ s j * gaO φ nb nil j j = w j := by
  have co := c_co v sv e
  have h := v.1
  have ga := fun (i a : Int) (i0 : 0 ≤ i) (ia : i < a) (a1 : a < n) => gaO_0 (O := O) (φ := φ) h.1 sv i0 ia a1
  have z : ∀ r : Nat, ∀ i : Int, n - r ≤ i → j < i → i < n → s i = 0 := fun r => by
    induction r with
    | zero => exact fun i a b c => by omega
    | succ r ih =>
      intro a q a0 a1
      have r := co a (by omega) a1
      rw [hw a a0 a1, su_one a (by omega) (by omega) (fun i i0 i1 ni => by
        rcases Int.lt_or_lt_of_ne ni with w | w
        · rw [ga i a i0 w a1]
          grind
        · rw [ih i (by omega) (by omega) (by omega)]
          grind)] at r
      unfold gaO at r
      by_cases q2 : nil a = 1
      · rw [if_pos q2, sv.2.2.2.1 a (by omega) a1, h.1.nC_1] at r
        rw [← r]
        clear r
        grind
      · rw [if_neg q2, if_pos rfl] at r
        refine h.can 1 ?_
        rw [show φ t1 ^ 1 * s a = s a * φ t1 by clear r; grind, r]
        clear r
        grind
  have zz := fun i i0 i1 => z n.toNat i (by omega) i0 i1
  refine ⟨zz, ?_⟩
  rw [← co j j0 j1]
  refine (su_one (n := n.toNat) (f := fun i => s i * gaO φ nb nil i j) j j0 (by omega) (fun i i0 i1 ni => ?_)).symm
  (try dsimp only)
  rcases Int.lt_or_lt_of_ne ni with w | w
  · rw [ga i j i0 w j1]
    grind
  · rw [zz i w (by omega)]
    grind
theorem gaO_d {O : Type} [I : Lean.Grind.CommRing O] {φ : (Int → Int) → O} {p n : Int} (h : HM p φ) {M nb nil : Int → Int} {kn : Int} (sv : solved p n n M nil nb kn) {j : Int} (j0 : 0 ≤ j) (j1 : j < n) : (nil j = 1 → gaO φ nb nil j j = 1) ∧ (¬ nil j = 1 → gaO φ nb nil j j = φ t1) := by
  unfold gaO
  refine ⟨fun q => ?_, fun q => ?_⟩
  · rw [if_pos q, sv.2.2.2.1 j j0 j1, h.nC_1]
  · rw [if_neg q, if_pos rfl]
/-- the class's c_j in the basis -/
theorem cl_c {O E : Type} [I : Lean.Grind.CommRing O] [J : Lean.Grind.CommRing E] {p n k : Int} {C : Int → Int → Int} {φ : (Int → Int) → O} {ι : O → E} {y : E} {fig : Int → Int → Int → Int} {dp : Int → Int} (v : RNV p n C φ ι y k fig dp) {nb nil : Int → Int} (x : Int → Int) : clE φ ι n.toNat (cB φ ι n.toNat (fun l => vE φ ι y n.toNat (bR fig l)) nb nil) x = su n.toNat (fun a => ι (su n.toNat (fun i => φ (nC (x i)) * gaO φ nb nil i a)) * vE φ ι y n.toNat (bR fig a)) := by
  have A := v.2.2.2.1
  have cg : ∀ j : Int, 0 ≤ j → j < n → cB φ ι n.toNat (fun l => vE φ ι y n.toNat (bR fig l)) nb nil j = su n.toNat (fun a => ι (gaO φ nb nil j a) * vE φ ι y n.toNat (bR fig a)) := fun j j0 j1 => by
    unfold cB gaO
    by_cases q : nil j = 1
    · rw [if_pos q]
      unfold clE
      exact su_congr fun a _ _ => by rw [if_pos q]
    · rw [if_neg q, su_one j j0 (by omega) (fun a _ _ na => by (try dsimp only); rw [if_neg q, if_neg na, A.i0]; grind)]
      (try dsimp only)
      rw [if_neg q, if_pos rfl]
  unfold clE
  rw [su_congr (n := n.toNat) (f := fun j => ι (φ (nC (x j))) * cB φ ι n.toNat (fun l => vE φ ι y n.toNat (bR fig l)) nb nil j) (g := fun j => su n.toNat (fun a => ι (φ (nC (x j))) * (ι (gaO φ nb nil j a) * vE φ ι y n.toNat (bR fig a)))) (fun j j0 j1 => by rw [cg j j0 (by omega), su_mul]), su_swap]
  refine su_congr fun a _ _ => ?_
  rw [A.isu, comm_E, ← su_mul]
  exact su_congr fun j _ _ => by rw [A.2.1]; grind
/-- a class by t that keeps the radical stands as c_j: its first number there -/
theorem lead_c {O E : Type} [I : Lean.Grind.CommRing O] [J : Lean.Grind.CommRing E] {p n k : Int} {C : Int → Int → Int} {φ : (Int → Int) → O} {ι : O → E} {y : E} {fig : Int → Int → Int → Int} {dp : Int → Int} (v : RNV p n C φ ι y k fig dp) {nb nil M : Int → Int} {kn : Int} (sv : solved p n n M nil nb kn) (hk : ∀ x, ker p n n M x ↔ RAD (ι (φ t1)) (ι (φ t1) ^ 20) (LT ι n.toNat (fun l => vE φ ι y n.toNat (bR fig l))) (clE φ ι n.toNat (fun l => vE φ ι y n.toNat (bR fig l)) x)) {a j : Int} (j0 : 0 ≤ j) (j1 : j < n) (dj : dgt p a j = 1) (dz : ∀ i, j < i → dgt p a i = 0) (ra : RAD (ι (φ t1)) (ι (φ t1) ^ 20) (LT ι n.toNat (fun l => vE φ ι y n.toNat (bR fig l))) (vC p φ ι n.toNat (fun l => vE φ ι y n.toNat (bR fig l)) a)) : nil j = 1 ∧ ∃ (d : Int → Int) (r : E), RAD (ι (φ t1)) (ι (φ t1) ^ 20) (LT ι n.toNat (fun l => vE φ ι y n.toNat (bR fig l))) r ∧ vC p φ ι n.toNat (fun l => vE φ ι y n.toNat (bR fig l)) a = clE φ ι n.toNat (cB φ ι n.toNat (fun l => vE φ ι y n.toNat (bR fig l)) nb nil) d + ι (φ t1) * r ∧ ¬ p ∣ d j ∧ ∀ i, j < i → i < n → p ∣ d i := by
  have A := v.2.2.2.1
  have h := v.1
  have p2 := v.2.1.two.1
  have rc := fun e => rad_c v sv hk e
  obtain ⟨s, es⟩ := (rc _).mp ra
  have ct := c_top (s := s) (w := fun l => φ (nC (dgt p a l))) v sv (es.symm) j0 j1 (fun l l0 l1 => by (try dsimp only); rw [dz l l0, h.1.nC_0])
  (try dsimp only at ct)
  rw [dj, h.1.nC_1] at ct
  have gd := gaO_d (O := O) (φ := φ) h.1 sv j0 j1
  have nj : nil j = 1 := Classical.byContradiction (fun q => by
    have := ct.2
    rw [gd.2 q] at this
    exact no_tau h p2 (x := s j) (by rw [← this]; exact comm_E _ _))
  have sj : s j = 1 := by
    have := ct.2
    rw [gd.1 nj] at this
    rw [← this]
    clear this es ct
    grind
  have dx : ∃ (d : Int → Int) (w : Int → O), ∀ l, (0 ≤ d l ∧ d l < p) ∧ s l = φ (nC (d l)) + φ t1 * w l :=
    ⟨fun l => Classical.choose (h.split (s l)), fun l => Classical.choose (Classical.choose_spec (h.split (s l))), fun l => Classical.choose_spec (Classical.choose_spec (h.split (s l)))⟩
  obtain ⟨d, w, hd⟩ := dx
  refine ⟨nj, d, su n.toNat (fun i => ι (w i) * cB φ ι n.toNat (fun l => vE φ ι y n.toNat (bR fig l)) nb nil i), (rc _).mpr ⟨w, rfl⟩, ?_, fun q => ?_, fun i i0 i1 => ?_⟩
  · rw [es]
    unfold clE
    rw [← su_mul, ← su_add]
    refine su_congr fun l _ _ => ?_
    rw [(hd l).2, A.1, A.2.1]
    clear es ct
    grind
  · have e1 := (hd j).2
    rw [sj, h.1.nC_dv q] at e1
    exact no_tau h p2 (x := w j) (by rw [e1]; clear e1 es ct; grind)
  · have e1 := (hd i).2
    rw [ct.1 i i0 i1] at e1
    exact Int.dvd_of_emod_eq_zero (h.dig (d := d i) (b := - w i) (by
      rw [show φ (nC (d i)) = (φ (nC (d i)) + φ t1 * w i) + φ t1 * - w i by clear e1 es ct; grind, ← e1]
      clear e1 es ct
      grind))
theorem sm_dvs {p : Int} {f : Int → Int} : ∀ {n : Nat}, (∀ i : Int, 0 ≤ i → i < n → p ∣ f i) → p ∣ sm n f
  | 0, _ => ⟨0, by show (0 : Int) = p * 0; omega⟩
  | n + 1, h => by
    obtain ⟨a, ha⟩ := sm_dvs (n := n) (fun i i0 i1 => h i i0 (by omega))
    obtain ⟨b, hb⟩ := h n (by omega) (by omega)
    exact ⟨a + b, by rw [sm_succ, ha, hb, Int.mul_add]⟩
theorem no_dv1 {p a b : Int} (hp : 2 ≤ p) (h1 : p ∣ a - b) (hb : p ∣ b) (ha : ¬ p ∣ a) : False := ha (dvd_of_sub h1 hb)
/-- THE GAINS -/
theorem gain_eq {O E : Type} [I : Lean.Grind.CommRing O] [J : Lean.Grind.CommRing E] {p n k : Int} {C : Int → Int → Int} {φ : (Int → Int) → O} {ι : O → E} {y : E} {fig : Int → Int → Int → Int} {dp : Int → Int} (v : RNV p n C φ ι y k fig dp) {low high nb nil M Em fr so : Int → Int} {kn kq : Int} (hl : ∀ i j l, 0 ≤ i → i < n → 0 ≤ j → j < n → 0 ≤ l → l < n → low ((4 * i + j) * 4 + l) = tb1 p n C fig dp 0 ((4 * i + j) * 4 + l)) (hh : ∀ i j l, 0 ≤ i → i < n → 0 ≤ j → j < n → 0 ≤ l → l < n → high ((4 * i + j) * 4 + l) = tb1 p n C fig dp 1 ((4 * i + j) * 4 + l)) (sv : solved p n n M nil nb kn) (hk : ∀ x, ker p n n M x ↔ RAD (ι (φ t1)) (ι (φ t1) ^ 20) (LT ι n.toNat (fun l => vE φ ι y n.toNat (bR fig l))) (clE φ ι n.toNat (fun l => vE φ ι y n.toNat (bR fig l)) x)) (hE : ∀ l i j, 0 ≤ l → l < n → 0 ≤ i → i < n → 0 ≤ j → j < n → Em (4 * (n * l + i) + j) = muV p n nb nil low high j l i) (sm' : solved p n (n * n) Em fr so kq) {top g : Int → Int} (gn : GN p n (tb1 p n C fig dp 0) (tb1 p n C fig dp 1) top g) {j : Int} (j0 : 0 ≤ j) (j1 : j < n) : gnF fr nil j = gbF (g j) ∧ (nil j = 0 → fr j = 1) := by
  have mk := fun u => mul_ker v hl hh sv hk hE u
  have kp := fun a => kp_mul v.rab gn.1 a
  have A := v.2.2.2.1
  have h := v.1
  have hp := v.2.1
  have p2 := hp.two.1
  have hn := v.2.2.1
  have lat := v.lat
  have n4 := v.n4
  have gj := gn.2 j j0 j1
  have ni := sv.1 j j0 j1
  have fi := sm'.1 j j0 j1
  have lead1 := fun (q : 0 ≤ g j) => (show nil j = 1 ∧ fr j = 1 from by
    have f : pwI p j.toNat ≤ g j ∧ g j < 2 * pwI p j.toNat ∧ kpR p n (tb1 p n C fig dp 0) (tb1 p n C fig dp 1) (isN p n (tb1 p n C fig dp 0)) top (g j) := by
      rcases gj with f | f
      · omega
      · exact ⟨f.1, f.2.1, f.2.2.1⟩
    have dg := code_dg hp.two j0 f.1 f.2.1
    have mu := (kp (g j)).mp f.2.2
    obtain ⟨nj, d, r, rr, ed, nd, dz⟩ := lead_c v sv hk j0 j1 dg.1 dg.2 mu.1
    refine ⟨nj, Classical.byContradiction (fun q2 => ?_)⟩
    have f0 : fr j = 0 := by omega
    have md : MUL (ι (φ t1)) (ι (φ t1) ^ 20) (LT ι n.toNat (fun l => vE φ ι y n.toNat (bR fig l))) (clE φ ι n.toNat (cB φ ι n.toNat (fun l => vE φ ι y n.toNat (bR fig l)) nb nil) d) := by
      have := mu.add lat n4 (MUL.tau lat (lat.neg rr.1))
      rw [ed, show clE φ ι n.toNat (cB φ ι n.toNat (fun l => vE φ ι y n.toNat (bR fig l)) nb nil) d + ι (φ t1) * r + ι (φ t1) * -r = clE φ ι n.toNat (cB φ ι n.toNat (fun l => vE φ ι y n.toNat (bR fig l)) nb nil) d by clear ed; grind] at this
      exact this
    have kd := (mk d).mpr md
    refine no_dv1 p2 (sm'.2.2.2.2.2.2.1 d kd j j0 j1 f0) (sm_dvs fun i i0 i1 => ?_) nd
    (try dsimp only)
    split
    · rename_i fi1
      rcases Int.lt_trichotomy i j with w | w | w
      · rw [sm'.2.2.2.2.2.1 i j i0 w j1, Int.mul_zero]
        exact ⟨0, by omega⟩
      · rw [w] at fi1
        omega
      · exact dvdL (dz i w (by omega)) _
    · exact ⟨0, by omega⟩)
  unfold gnF gbF
  by_cases nj : nil j = 1
  · refine ⟨?_, fun q => by omega⟩
    by_cases fj : fr j = 1
    · have mu := (mk _).mp (sm'.2.2.1 j j0 j1 fj)
      rw [cl_c v] at mu
      obtain ⟨bi, a, z, a0, a1, lz, ea⟩ := lead (B := (fun l => vE φ ι y n.toNat (bR fig l))) (s := fun a => su n.toNat (fun i => φ (nC (so (4 * j + i))) * gaO φ nb nil i a)) (m := j) (d := 1) (b := 0) h hp hn A j0 j1 (fun q => by
        obtain ⟨w, hw⟩ := q
        have := Int.le_of_dvd (by omega) ⟨w, hw⟩
        omega) (by
        (try dsimp only)
        rw [su_one j j0 (by omega) (fun i i0 i1 nij => by
          rcases Int.lt_or_lt_of_ne nij with w | w
          · rw [gaO_0 h.1 sv i0 w j1]
            grind
          · rw [sm'.2.2.2.2.2.1 j i j0 w (by omega), h.1.nC_0]
            grind), sm'.2.2.2.1 j j0 j1, (gaO_d h.1 sv j0 j1).1 nj]
        grind) (fun l l0 l1 => ⟨0, by
        (try dsimp only)
        rw [su_zeros (fun i i0 i1 => by
          rcases (show i < l ∨ j < i by omega) with w | w
          · rw [gaO_0 h.1 sv i0 w l1]
            grind
          · rw [sm'.2.2.2.2.2.1 j i j0 w (by omega), h.1.nC_0]
            grind)]
        grind⟩)
      have ra : MUL (ι (φ t1)) (ι (φ t1) ^ 20) (LT ι n.toNat (fun l => vE φ ι y n.toNat (bR fig l))) (vC p φ ι n.toNat (fun l => vE φ ι y n.toNat (bR fig l)) a) := by
        have r1 := mu.sca lat (c := ι (φ (nC bi))) ⟨_, rfl⟩
        have r2 := MUL.tau lat (lat.neg lz)
        have := r1.add lat n4 r2
        rw [ea, show vC p φ ι n.toNat (fun l => vE φ ι y n.toNat (bR fig l)) a + ι (φ t1) * z + ι (φ t1) * -z = vC p φ ι n.toNat (fun l => vE φ ι y n.toNat (bR fig l)) a by clear ea; grind] at this
        exact this
      have : 0 ≤ g j := by
        have w := (pwI_le p2 j.toNat 0).1
        rcases gj with f | f
        · exact absurd ((kp a).mpr ra) (f.2 a a0 a1)
        · omega
      rw [if_pos this]
      omega
    · rw [if_neg (fun q => fj (lead1 q).2)]
      omega
  · have n0 : nil j = 0 := by omega
    have fj : fr j = 1 := Classical.byContradiction (fun q => by
      have f0 : fr j = 0 := by omega
      have md : MUL (ι (φ t1)) (ι (φ t1) ^ 20) (LT ι n.toNat (fun l => vE φ ι y n.toNat (bR fig l))) (clE φ ι n.toNat (cB φ ι n.toNat (fun l => vE φ ι y n.toNat (bR fig l)) nb nil) (fun l => if l = j then 1 else 0)) := by
        rw [cl_dl h.1 A j0 (by omega), show cB φ ι n.toNat (fun l => vE φ ι y n.toNat (bR fig l)) nb nil j = ι (φ t1) * vE φ ι y n.toNat (bR fig j) from if_neg nj]
        exact MUL.tau lat (LT.b A j0 (by omega))
      have kd := (mk _).mpr md
      have := sm'.2.2.2.2.2.2.1 _ kd j j0 j1 f0
      refine no_dv1 p2 this (sm_dvs fun i i0 i1 => ?_) ?_
      · (try dsimp only)
        by_cases w : i = j
        · rw [w, if_neg (by omega)]
          exact ⟨0, by omega⟩
        · rw [if_neg w]
          split
          · exact ⟨0, by omega⟩
          · exact ⟨0, by omega⟩
      · (try dsimp only)
        rw [if_pos rfl]
        intro q3
        have := Int.le_of_dvd (by omega) q3
        omega)
    refine ⟨?_, fun _ => fj⟩
    rw [if_neg (fun q => by have := (lead1 q).1; omega)]
    omega
