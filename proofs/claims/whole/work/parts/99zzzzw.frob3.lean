/-! What is nilpotent is the kernel of the Frobenius. -/
theorem fr_alg {E : Type} [J : Lean.Grind.CommRing E] (x T c t z : E) : x * (T * (c + t * z)) = T * (x * c) + T * (t * (x * z)) := by grind
theorem cl_fr {O E : Type} [I : Lean.Grind.CommRing O] [J : Lean.Grind.CommRing E] {p n k : Int} {C : Int → Int → Int} {φ : (Int → Int) → O} {ι : O → E} {y : E} {fig : Int → Int → Int → Int} {dp : Int → Int} (v : RNV p n C φ ι y k fig dp) {low pw : Int → Int} (hl : ∀ i j l, 0 ≤ i → i < n → 0 ≤ j → j < n → 0 ≤ l → l < n → low ((4 * i + j) * 4 + l) = tb1 p n C fig dp 0 ((4 * i + j) * 4 + l)) (hw : ∀ l j, 0 ≤ l → l < n → 0 ≤ j → j < n → pw (4 * l + j) = pwC p n low j (p - 1).toNat l) (x : Int → Int) : ∃ z, LT ι n.toNat (fun l => vE φ ι y n.toNat (bR fig l)) z ∧ clE φ ι n.toNat (fun l => vE φ ι y n.toNat (bR fig l)) x ^ p.toNat = (ι (φ t1) ^ 20) ^ (p - 1).toNat * (clE φ ι n.toNat (fun l => vE φ ι y n.toNat (bR fig l)) (fun l => dot n pw l x) + ι (φ t1) * z) := by
  have hp := v.2.1.two
  have h := v.1
  have A := v.2.2.2.1
  have tw : ∀ j : Int, ∃ z, 0 ≤ j → j < n → LT ι n.toNat (fun l => vE φ ι y n.toNat (bR fig l)) z ∧ vE φ ι y n.toNat (bR fig j) ^ p.toNat = (ι (φ t1) ^ 20) ^ (p - 1).toNat * (clE φ ι n.toNat (fun l => vE φ ι y n.toNat (bR fig l)) (pwC p n low j (p - 1).toNat) + ι (φ t1) * z) := fun j => by
    by_cases q : 0 ≤ j ∧ j < n
    · obtain ⟨z, lz, ez⟩ := cl_pow v q.1 q.2 (fun i l i0 i1 l0 l1 => hl i j l i0 i1 q.1 q.2 l0 l1) (p - 1).toNat
      rw [show (p - 1).toNat + 1 = p.toNat by omega] at ez
      exact ⟨z, fun _ _ => ⟨lz, ez⟩⟩
    · exact ⟨0, fun a b => absurd ⟨a, b⟩ q⟩
  have wx : ∃ w : Int → E, ∀ j : Int, 0 ≤ j → j < n → LT ι n.toNat (fun l => vE φ ι y n.toNat (bR fig l)) (w j) ∧ vE φ ι y n.toNat (bR fig j) ^ p.toNat = (ι (φ t1) ^ 20) ^ (p - 1).toNat * (clE φ ι n.toNat (fun l => vE φ ι y n.toNat (bR fig l)) (pwC p n low j (p - 1).toNat) + ι (φ t1) * w j) := ⟨fun j => Classical.choose (tw j), fun j => Classical.choose_spec (tw j)⟩
  obtain ⟨w, hw2⟩ := wx
  clear tw
  generalize hB : (fun l => vE φ ι y n.toNat (bR fig l)) = B at *
  have eB : ∀ l, vE φ ι y n.toNat (bR fig l) = B l := fun l => by rw [← hB]
  refine ⟨su n.toNat (fun j => ι (φ (nC (x j))) * w j), ltm_su A n.toNat (fun j j0 j1 => ltm_sca A _ (hw2 j j0 (by omega)).1), ?_⟩
  have e1 : clE φ ι n.toNat B x ^ p.toNat = su n.toNat (fun j => (ι (φ t1) ^ 20) ^ (p - 1).toNat * (ι (φ (nC (x j))) * clE φ ι n.toNat B (pwC p n low j (p - 1).toNat)) + (ι (φ t1) ^ 20) ^ (p - 1).toNat * (ι (φ t1) * (ι (φ (nC (x j))) * w j))) := by
    unfold clE
    rw [su_frb h.1 A v.2.1]
    refine su_congr fun j j0 j1 => ?_
    have q := (hw2 j j0 (by omega)).2
    unfold clE at q
    rw [mul_pw, ← A.ipow, fermat h.1 v.2.1, ← eB j, q]
    exact fr_alg _ _ _ _ _
  have e2 : su n.toNat (fun j => ι (φ (nC (x j))) * clE φ ι n.toNat B (pwC p n low j (p - 1).toNat)) = clE φ ι n.toNat B (fun l => dot n pw l x) := by
    unfold clE
    rw [su_congr (g := fun j => su n.toNat (fun l => ι (φ (nC (x j))) * (ι (φ (nC (pwC p n low j (p - 1).toNat l))) * B l))) (fun j _ _ => (su_mul _ _ _).symm), su_swap]
    refine su_congr fun l l0 l1 => ?_
    unfold dot
    rw [hm_nC_sm h.1, A.isu, comm_E, ← su_mul]
    refine su_congr fun j j0 j1 => ?_
    rw [hw l j l0 (by omega) j0 (by omega), h.1.nC_mul, A.2.1]
    grind
  rw [e1, su_add, su_mul, su_mul, su_mul, e2]
  grind
theorem cl_z {O E : Type} [I : Lean.Grind.CommRing O] [J : Lean.Grind.CommRing E] {p n k : Int} {C : Int → Int → Int} {φ : (Int → Int) → O} {ι : O → E} {y : E} {fig : Int → Int → Int → Int} {dp : Int → Int} (v : RNV p n C φ ι y k fig dp) (x : Int → Int) : (∃ z, LT ι n.toNat (fun l => vE φ ι y n.toNat (bR fig l)) z ∧ clE φ ι n.toNat (fun l => vE φ ι y n.toNat (bR fig l)) x = ι (φ t1) * z) ↔ ∀ l, 0 ≤ l → l < n → p ∣ x l := by
  have A := v.2.2.2.1
  constructor
  · rintro ⟨z, ⟨s, rfl⟩, e⟩ l l0 l1
    have q := v.2.2.2.2.2.ind (s := fun l => φ (nC (x l))) (w := fun l => φ t1 * s l) v.1 v.2.1.two.1 v.2.2.1 A (e.trans (by
      rw [← su_mul]
      exact su_congr fun l _ _ => by rw [A.2.1]; grind)) l l0 l1
    exact Int.dvd_of_emod_eq_zero (v.1.dig q)
  · intro d
    refine ⟨0, LT.zero A, ?_⟩
    unfold clE
    rw [su_zeros (fun l l0 l1 => by rw [v.1.1.nC_dv (d l l0 (by omega)), A.i0]; grind)]
    grind
theorem core_a {E : Type} [J : Lean.Grind.CommRing E] {T c t z g X : E} (e : X * (c + t * z) = X * (t * g)) (can : ∀ a b, X * a = X * b → a = b) : c = t * (g + - z) := by
  have := can _ _ e
  rw [show c = c + t * z + - (t * z) by clear e this; grind, this]
  clear e this
  grind
/-- by one power, as good as by the fourth -/
theorem nil_core {O E : Type} [I : Lean.Grind.CommRing O] [J : Lean.Grind.CommRing E] {p n k : Int} {C : Int → Int → Int} {φ : (Int → Int) → O} {ι : O → E} {y : E} {fig : Int → Int → Int → Int} {dp : Int → Int} (v : RNV p n C φ ι y k fig dp) {N : Nat} (hN : n ≤ (N : Int) + 1) {e : E} (le : LT ι n.toNat (fun l => vE φ ι y n.toNat (bR fig l)) e) {x2 : Int → Int} (hx : ∃ z, LT ι n.toNat (fun l => vE φ ι y n.toNat (bR fig l)) z ∧ e ^ (N + 1) = (ι (φ t1) ^ 20) ^ N * (clE φ ι n.toNat (fun l => vE φ ι y n.toNat (bR fig l)) x2 + ι (φ t1) * z)) : (∀ l, 0 ≤ l → l < n → p ∣ x2 l) ↔ RAD (ι (φ t1)) (ι (φ t1) ^ 20) (LT ι n.toNat (fun l => vE φ ι y n.toNat (bR fig l))) e := by
  have lat := v.lat
  have A := v.2.2.2.1
  have hn := v.2.2.1
  obtain ⟨z, lz, ez⟩ := hx
  rw [← cl_z v x2]
  constructor
  · rintro ⟨z0, l0, e0⟩
    refine ⟨le, nil_4 (M := N + 1) v.1 A v.2.1 (by omega) lat le (LT.add A l0 lz) ?_⟩
    rw [ez, e0, Lean.Grind.Semiring.pow_succ (ι (φ t1) ^ 20)]
    clear e0 ez
    grind
  · rintro ⟨-, g, lg, eg⟩
    obtain ⟨g2, l2, e2⟩ := nil_q (M := 4) (N := N + 1) v.1 A v.2.1 (by omega) lat le lg (by rw [eg]; clear eg ez; grind)
    rw [ez] at e2
    refine ⟨g2 + - z, lat.1 _ _ l2 (lat.neg lz), core_a (T := 0) (X := (ι (φ t1) ^ 20) ^ (N + 1)) ?_ (fun a b q => lat.canT (N + 1) q)⟩
    rw [← e2, Lean.Grind.Semiring.pow_succ (ι (φ t1) ^ 20)]
    clear e2 eg ez
    grind
