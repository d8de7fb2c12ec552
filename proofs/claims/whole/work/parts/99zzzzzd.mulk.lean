/-! What multiplies the radical into itself: the class's equations. -/
theorem rm_a {E : Type} [J : Lean.Grind.CommRing E] {τ T b c g z : E} (e : c * b = T * g) (hz : z = 0) : τ * b * c = T * (z + τ * g) := by
  rw [hz, show τ * b * c = τ * (c * b) by clear e hz; grind, e]
  clear e hz
  grind
theorem rad_any {O E : Type} [I : Lean.Grind.CommRing O] [J : Lean.Grind.CommRing E] {p n k : Int} {C : Int → Int → Int} {φ : (Int → Int) → O} {ι : O → E} {y : E} {fig : Int → Int → Int → Int} {dp : Int → Int} (v : RNV p n C φ ι y k fig dp) {low high nb nil M : Int → Int} {kn : Int} (hl : ∀ i j l, 0 ≤ i → i < n → 0 ≤ j → j < n → 0 ≤ l → l < n → low ((4 * i + j) * 4 + l) = tb1 p n C fig dp 0 ((4 * i + j) * 4 + l)) (hh : ∀ i j l, 0 ≤ i → i < n → 0 ≤ j → j < n → 0 ≤ l → l < n → high ((4 * i + j) * 4 + l) = tb1 p n C fig dp 1 ((4 * i + j) * 4 + l)) (sv : solved p n n M nil nb kn) (hk : ∀ x, ker p n n M x ↔ RAD (ι (φ t1)) (ι (φ t1) ^ 20) (LT ι n.toNat (fun l => vE φ ι y n.toNat (bR fig l))) (clE φ ι n.toNat (fun l => vE φ ι y n.toNat (bR fig l)) x)) {r q : Int} (r0 : 0 ≤ r) (r1 : r < n) (q0 : 0 ≤ q) (q1 : q < n) : ∃ g, LT ι n.toNat (cB φ ι n.toNat (fun l => vE φ ι y n.toNat (bR fig l)) nb nil) g ∧ cB φ ι n.toNat (fun l => vE φ ι y n.toNat (bR fig l)) nb nil r * cB φ ι n.toNat (fun l => vE φ ι y n.toNat (bR fig l)) nb nil q = ι (φ t1) ^ 20 * (su n.toNat (fun i => ι (φ (nC (muV p n nb nil low high r q i))) * cB φ ι n.toNat (fun l => vE φ ι y n.toNat (bR fig l)) nb nil i) + ι (φ t1) * g) := by
  by_cases nr : nil r = 1
  · by_cases nq : nil q = 1
    · obtain ⟨g, lg, eg⟩ := rad_pr v hl hh sv hk r0 r1 q0 q1 nr nq
      refine ⟨g, lg, ?_⟩
      rw [eg]
      refine congrArg (fun w => ι (φ t1) ^ 20 * (w + ι (φ t1) * g)) (su_congr fun i _ _ => ?_)
      unfold muV
      rw [if_neg (by omega)]
    · have z := sv.1 q q0 q1
      have A := v.2.2.2.1
      have h := v.1
      have lat := v.lat
      have rc := fun e => rad_c v sv hk e
      generalize hB : (fun l => vE φ ι y n.toNat (bR fig l)) = B at *
      have cr := (rc _).mpr (ltm_b (m := n.toNat) (B := cB φ ι n.toNat B nb nil) A r0 (by omega))
      have lb : LT ι n.toNat B (B q) := ltm_b A q0 (by omega)
      obtain ⟨g, lg, eg⟩ := lat.2.2.2.1 _ _ cr.1 lb
      refine ⟨g, (rc g).mp (RAD.mul lat cr lb lg eg), ?_⟩
      rw [comm_E]
      have e : cB φ ι n.toNat B nb nil q = ι (φ t1) * B q := if_neg nq
      rw [e]
      refine rm_a eg (su_zeros fun i _ _ => ?_)
      unfold muV
      rw [if_pos (by omega), h.1.nC_0, A.i0]
      clear eg
      grind
  · have z := sv.1 r r0 r1
    have A := v.2.2.2.1
    have h := v.1
    have lat := v.lat
    have rc := fun e => rad_c v sv hk e
    generalize hB : (fun l => vE φ ι y n.toNat (bR fig l)) = B at *
    have cr := (rc _).mpr (ltm_b (m := n.toNat) (B := cB φ ι n.toNat B nb nil) A q0 (by omega))
    have lb : LT ι n.toNat B (B r) := ltm_b A r0 (by omega)
    obtain ⟨g, lg, eg⟩ := lat.2.2.2.1 _ _ cr.1 lb
    refine ⟨g, (rc g).mp (RAD.mul lat cr lb lg eg), ?_⟩
    have e : cB φ ι n.toNat B nb nil r = ι (φ t1) * B r := if_neg nr
    rw [e]
    refine rm_a eg (su_zeros fun i _ _ => ?_)
    unfold muV
    rw [if_pos (by omega), h.1.nC_0, A.i0]
    clear eg
    grind
theorem nn_split {n r : Int} (hn : 2 ≤ n ∧ n ≤ 4) (r0 : 0 ≤ r) (r1 : r < n * n) : ∃ l i, 0 ≤ l ∧ l < n ∧ 0 ≤ i ∧ i < n ∧ r = n * l + i := by
  rcases (show n = 2 ∨ n = 3 ∨ n = 4 by omega) with rfl | rfl | rfl
  · exact ⟨r / 2, r % 2, by omega, by omega, by omega, by omega, by omega⟩
  · exact ⟨r / 3, r % 3, by omega, by omega, by omega, by omega, by omega⟩
  · exact ⟨r / 4, r % 4, by omega, by omega, by omega, by omega, by omega⟩
theorem nn_join {n l i : Int} (hn : 2 ≤ n ∧ n ≤ 4) (l0 : 0 ≤ l) (l1 : l < n) (i0 : 0 ≤ i) (i1 : i < n) : 0 ≤ n * l + i ∧ n * l + i < n * n := by
  rcases (show n = 2 ∨ n = 3 ∨ n = 4 by omega) with rfl | rfl | rfl <;> omega
theorem mk_a {E : Type} [J : Lean.Grind.CommRing E] {T X x c s τ g cl : E} (e : c * cl = T * (s + τ * g)) : cl * (x * c) = T * (x * s + τ * (x * g)) := by
  rw [show cl * (x * c) = x * (c * cl) by clear e; grind, e]
  clear e
  grind
theorem mk_b {E : Type} [J : Lean.Grind.CommRing E] {T U r s τ g : E} (e : U * r = T * (τ * g)) : U * (s * r) = T * (τ * (s * g)) := by
  rw [show U * (s * r) = s * (U * r) by clear e; grind, e]
  clear e
  grind
theorem mk_c {E : Type} [J : Lean.Grind.CommRing E] {s τ g g' : E} (e : s + τ * g = τ * g') : s = τ * (g' + - g) := by
  rw [show s = s + τ * g + - (τ * g) by clear e; grind, e]
  clear e
  grind
set_option maxHeartbeats 1000000 in
theorem mul_ker {O E : Type} [I : Lean.Grind.CommRing O] [J : Lean.Grind.CommRing E] {p n k : Int} {C : Int → Int → Int} {φ : (Int → Int) → O} {ι : O → E} {y : E} {fig : Int → Int → Int → Int} {dp : Int → Int} (v : RNV p n C φ ι y k fig dp) {low high nb nil M : Int → Int} {kn : Int} (hl : ∀ i j l, 0 ≤ i → i < n → 0 ≤ j → j < n → 0 ≤ l → l < n → low ((4 * i + j) * 4 + l) = tb1 p n C fig dp 0 ((4 * i + j) * 4 + l)) (hh : ∀ i j l, 0 ≤ i → i < n → 0 ≤ j → j < n → 0 ≤ l → l < n → high ((4 * i + j) * 4 + l) = tb1 p n C fig dp 1 ((4 * i + j) * 4 + l)) (sv : solved p n n M nil nb kn) (hk : ∀ x, ker p n n M x ↔ RAD (ι (φ t1)) (ι (φ t1) ^ 20) (LT ι n.toNat (fun l => vE φ ι y n.toNat (bR fig l))) (clE φ ι n.toNat (fun l => vE φ ι y n.toNat (bR fig l)) x)) {Em : Int → Int} (hE : ∀ l i j, 0 ≤ l → l < n → 0 ≤ i → i < n → 0 ≤ j → j < n → Em (4 * (n * l + i) + j) = muV p n nb nil low high j l i) (u : Int → Int) : ker p n (n * n) Em u ↔ MUL (ι (φ t1)) (ι (φ t1) ^ 20) (LT ι n.toNat (fun l => vE φ ι y n.toNat (bR fig l))) (clE φ ι n.toNat (cB φ ι n.toNat (fun l => vE φ ι y n.toNat (bR fig l)) nb nil) u) := by
  have A := v.2.2.2.1
  have h := v.1
  have hn := v.2.2.1
  have lat := v.lat
  have rc := fun e => rad_c v sv hk e
  have pr := fun j l j0 j1 l0 l1 => rad_any v hl hh sv hk (r := j) (q := l) j0 j1 l0 l1
  have cd := fun u => c_dig (u := u) v sv
  clear hl hh hk
  generalize hB : (fun l => vE φ ι y n.toNat (bR fig l)) = B at *
  generalize hc : cB φ ι n.toNat B nb nil = c at *
  have up : ∀ l, 0 ≤ l → l < n → ∃ g, LT ι n.toNat c g ∧ clE φ ι n.toNat c u * c l = ι (φ t1) ^ 20 * (su n.toNat (fun i => ι (φ (nC (dot n Em (n * l + i) u))) * c i) + ι (φ t1) * g) := fun l l0 l1 => by
    have gx : ∃ g : Int → E, ∀ j, 0 ≤ j → j < n → LT ι n.toNat c (g j) ∧ c j * c l = ι (φ t1) ^ 20 * (su n.toNat (fun i => ι (φ (nC (muV p n nb nil low high j l i))) * c i) + ι (φ t1) * g j) := ⟨fun j => if w : 0 ≤ j ∧ j < n then Classical.choose (pr j l w.1 w.2 l0 l1) else 0, fun j j0 j1 => by
      (try dsimp only)
      rw [dif_pos ⟨j0, j1⟩]
      exact Classical.choose_spec (pr j l j0 j1 l0 l1)⟩
    obtain ⟨g, hg⟩ := gx
    refine ⟨su n.toNat (fun j => ι (φ (nC (u j))) * g j), ltm_su A _ (fun j j0 j1 => ltm_sca A _ (hg j j0 (by omega)).1), ?_⟩
    have e1 : clE φ ι n.toNat c u * c l = su n.toNat (fun j => ι (φ t1) ^ 20 * (su n.toNat (fun i => ι (φ (nC (u j))) * (ι (φ (nC (muV p n nb nil low high j l i))) * c i)) + ι (φ t1) * (ι (φ (nC (u j))) * g j))) := by
      unfold clE
      rw [comm_E, ← su_mul]
      refine su_congr fun j j0 j1 => ?_
      rw [su_mul]
      exact mk_a (X := (1 : E)) (hg j j0 (by omega)).2
    rw [e1, su_mul, su_add, su_swap, su_mul]
    refine congrArg (fun w => ι (φ t1) ^ 20 * (w + ι (φ t1) * su n.toNat (fun j => ι (φ (nC (u j))) * g j))) (su_congr fun i i0 i1 => ?_)
    unfold dot
    rw [hm_nC_sm h.1, A.isu, comm_E, ← su_mul]
    refine su_congr fun j j0 j1 => ?_
    rw [hE l i j l0 l1 i0 (by omega) j0 (by omega), h.1.nC_mul, A.2.1]
    clear e1
    grind
  constructor
  · intro ku
    refine ⟨(rc _).mpr ⟨fun j => φ (nC (u j)), rfl⟩, fun r hr => ?_⟩
    obtain ⟨s, rfl⟩ := (rc r).mp hr
    have up2 : ∀ l, 0 ≤ l → l < n → ∃ g, LT ι n.toNat c g ∧ clE φ ι n.toNat c u * c l = ι (φ t1) ^ 20 * (ι (φ t1) * g) := fun l l0 l1 => by
      obtain ⟨g, lg, eg⟩ := up l l0 l1
      refine ⟨g, lg, ?_⟩
      rw [eg, su_zeros (fun i i0 i1 => by
        have b := nn_join hn l0 l1 i0 (show i < n by omega)
        rw [h.1.nC_dv (ku (n * l + i) b.1 b.2), A.i0]
        clear eg
        grind), z_add]
    have gx : ∃ g : Int → E, ∀ l, 0 ≤ l → l < n → LT ι n.toNat c (g l) ∧ clE φ ι n.toNat c u * c l = ι (φ t1) ^ 20 * (ι (φ t1) * g l) := ⟨fun j => if w : 0 ≤ j ∧ j < n then Classical.choose (up2 j w.1 w.2) else 0, fun j j0 j1 => by
      (try dsimp only)
      rw [dif_pos ⟨j0, j1⟩]
      exact Classical.choose_spec (up2 j j0 j1)⟩
    obtain ⟨g, hg⟩ := gx
    refine ⟨su n.toNat (fun l => ι (s l) * g l), (rc _).mpr (ltm_su A _ (fun l l0 l1 => ltm_sca A _ (hg l l0 (by omega)).1)), ?_⟩
    rw [← su_mul, ← su_mul, ← su_mul]
    exact su_congr fun l l0 l1 => mk_b (hg l l0 (by omega)).2
  · intro m r r0 r1
    obtain ⟨l, i, l0, l1, i0, i1, er⟩ := nn_split hn r0 r1
    obtain ⟨g, lg, eg⟩ := up l l0 l1
    obtain ⟨g', rg, eg'⟩ := m.2 (c l) ((rc _).mpr (ltm_b A l0 (by omega)))
    have lg' := (rc g').mp rg
    have e := mk_c (lat.2.2.2.2.2.2.2.1 _ _ (eg.symm.trans eg'))
    have := (cd (fun i => dot n Em (n * l + i) u)).mp ⟨g' + - g, ltm_add A lg' (ltm_neg A lg), e⟩ i i0 i1
    rw [er]
    exact this
