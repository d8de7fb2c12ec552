/-! A basis of the radical. -/
theorem su_pick {E : Type} [I : Lean.Grind.CommRing E] {n : Nat} {f : Int → E} {l : Int} (l0 : 0 ≤ l) (l1 : l < n) : su n f = f l + su n (fun a => if a = l then 0 else f a) := by
  have e : su n f = su n (fun a => (if a = l then f a else 0) + (if a = l then 0 else f a)) := su_congr fun a _ _ => by
    by_cases q : a = l
    · rw [if_pos q, if_pos q]
      grind
    · rw [if_neg q, if_neg q]
      grind
  rw [e, su_add, su_one l l0 l1 (fun i _ _ ni => if_neg ni), if_pos rfl]
/-- c_j: of the class's nil basis, or t b_j -/
def cB {O E : Type} [I : Lean.Grind.CommRing O] [J : Lean.Grind.CommRing E] (φ : (Int → Int) → O) (ι : O → E) (n : Nat) (B : Int → E) (nb nil : Int → Int) : Int → E := fun j => if nil j = 1 then clE φ ι n B (fun a => nb (4 * j + a)) else ι (φ t1) * B j
theorem tB_c {O E : Type} [I : Lean.Grind.CommRing O] [J : Lean.Grind.CommRing E] {p n k : Int} {C : Int → Int → Int} {φ : (Int → Int) → O} {ι : O → E} {y : E} {fig : Int → Int → Int → Int} {dp : Int → Int} (v : RNV p n C φ ι y k fig dp) {B : Int → E} {M nb nil : Int → Int} {kn : Int} (sv : solved p n n M nil nb kn) {l : Int} (l0 : 0 ≤ l) (l1 : l < n) : LT ι n.toNat (cB φ ι n.toNat B nb nil) (ι (φ t1) * B l) := by
  have A := v.2.2.2.1
  have h := v.1
  have no : ∀ a, 0 ≤ a → a < n → nil a ≠ 1 → LT ι n.toNat (cB φ ι n.toNat B nb nil) (ι (φ t1) * B a) := fun a a0 a1 na => by
    have := ltm_b (m := n.toNat) (B := cB φ ι n.toNat B nb nil) A a0 (by omega)
    rw [show cB φ ι n.toNat B nb nil a = ι (φ t1) * B a from if_neg na] at this
    exact this
  by_cases q : nil l = 1
  · have e : ι (φ t1) * B l = ι (φ t1) * cB φ ι n.toNat B nb nil l + - su n.toNat (fun a => if a = l then 0 else ι (φ (nC (nb (4 * l + a)))) * (ι (φ t1) * B a)) := by
      have c : cB φ ι n.toNat B nb nil l = B l + su n.toNat (fun a => if a = l then 0 else ι (φ (nC (nb (4 * l + a)))) * B a) := by
        rw [show cB φ ι n.toNat B nb nil l = su n.toNat (fun a => ι (φ (nC (nb (4 * l + a)))) * B a) from if_pos q, su_pick l0 (by omega), sv.2.2.2.1 l l0 l1, h.1.nC_1, A.2.2.1]
        grind
      have d : su n.toNat (fun a => if a = l then 0 else ι (φ (nC (nb (4 * l + a)))) * (ι (φ t1) * B a)) = ι (φ t1) * su n.toNat (fun a => if a = l then 0 else ι (φ (nC (nb (4 * l + a)))) * B a) := by
        rw [← su_mul]
        refine su_congr fun a _ _ => ?_
        split <;> grind
      rw [c, d]
      clear c d
      grind
    rw [e]
    refine ltm_add A (ltm_sca A _ (ltm_b A l0 (by omega))) (ltm_neg A (ltm_su A n.toNat (fun a a0 a1 => ?_)))
    by_cases q2 : a = l
    · rw [if_pos q2]
      exact ltm_zero A
    · rw [if_neg q2]
      by_cases q3 : nil a = 1
      · rw [sv.2.2.2.2.1 l a l0 l1 a0 (by omega) q2 q3, h.1.nC_0, A.i0, show 0 * (ι (φ t1) * B a) = 0 by grind]
        exact ltm_zero A
      · exact ltm_sca A _ (no a a0 (by omega) q3)
  · exact no l l0 l1 q
theorem cl_nb {O E : Type} [I : Lean.Grind.CommRing O] [J : Lean.Grind.CommRing E] {p n : Int} {φ : (Int → Int) → O} {ι : O → E} {y : E} {c : Int → O} (h : HM p φ) (A : ALG n.toNat c ι y) {B : Int → E} {M nb nil : Int → Int} {kn : Int} (sv : solved p n n M nil nb kn) {d : Int → Int} (kd : ker p n n M d) : clE φ ι n.toNat B d = su n.toNat (fun j => if nil j = 1 then ι (φ (nC (d j))) * clE φ ι n.toNat B (fun a => nb (4 * j + a)) else 0) := by
  have e : ∀ l, 0 ≤ l → l < n → φ (nC (d l)) = su n.toNat (fun j => if nil j = 1 then φ (nC (d j)) * φ (nC (nb (4 * j + l))) else 0) := fun l l0 l1 => by
    by_cases q : nil l = 1
    · rw [su_one l l0 (by omega) (fun j j0 j1 nj => by
        (try dsimp only)
        split
        · rw [sv.2.2.2.2.1 j l j0 (by omega) l0 l1 (fun e => nj e.symm) q, h.nC_0]
          grind
        · rfl)]
      (try dsimp only)
      rw [if_pos q, sv.2.2.2.1 l l0 l1, h.nC_1]
      grind
    · have q0 : nil l = 0 := by
        have := sv.1 l l0 l1
        omega
      have dv := sv.2.2.2.2.2.2.1 d kd l l0 l1 q0
      have z := h.nC_dv dv
      rw [show d l = (d l - sm n.toNat (fun j => if nil j = 1 then d j * nb (4 * j + l) else 0)) + sm n.toNat (fun j => if nil j = 1 then d j * nb (4 * j + l) else 0) by omega, h.nC_add, z, hm_nC_sm h]
      rw [show ∀ w : O, 0 + w = w from fun w => by clear z; grind]
      refine su_congr fun j _ _ => ?_
      split
      · exact h.nC_mul _ _
      · exact h.nC_0
  unfold clE
  rw [su_congr (g := fun l => su n.toNat (fun j => if nil j = 1 then ι (φ (nC (d j))) * (ι (φ (nC (nb (4 * j + l)))) * B l) else 0)) (fun l l0 l1 => by
    (try dsimp only)
    rw [e l l0 (by omega), A.isu, comm_E, ← su_mul]
    refine su_congr fun j _ _ => ?_
    split
    · rw [A.2.1]
      grind
    · rw [A.i0]
      grind), su_swap]
  refine su_congr fun j _ _ => ?_
  split
  · rw [su_mul]
  · exact su_zeros fun _ _ _ => rfl
/-- the radical is spanned by the c_j -/
theorem rad_c {O E : Type} [I : Lean.Grind.CommRing O] [J : Lean.Grind.CommRing E] {p n k : Int} {C : Int → Int → Int} {φ : (Int → Int) → O} {ι : O → E} {y : E} {fig : Int → Int → Int → Int} {dp : Int → Int} (v : RNV p n C φ ι y k fig dp) {M nb nil : Int → Int} {kn : Int} (sv : solved p n n M nil nb kn) (hk : ∀ x, ker p n n M x ↔ RAD (ι (φ t1)) (ι (φ t1) ^ 20) (LT ι n.toNat (fun l => vE φ ι y n.toNat (bR fig l))) (clE φ ι n.toNat (fun l => vE φ ι y n.toNat (bR fig l)) x)) (e : E) : RAD (ι (φ t1)) (ι (φ t1) ^ 20) (LT ι n.toNat (fun l => vE φ ι y n.toNat (bR fig l))) e ↔ LT ι n.toNat (cB φ ι n.toNat (fun l => vE φ ι y n.toNat (bR fig l)) nb nil) e := by
  have A := v.2.2.2.1
  have h := v.1
  have lat := v.lat
  have n4 := v.n4
  generalize hB : (fun l => vE φ ι y n.toNat (bR fig l)) = B at *
  constructor
  · intro re
    obtain ⟨u, hu⟩ := re.1
    have dx : ∃ (d : Int → Int) (w : Int → O), ∀ l, u l = φ (nC (d l)) + φ t1 * w l := by
      refine ⟨fun l => Classical.choose (h.split (u l)), fun l => Classical.choose (Classical.choose_spec (h.split (u l))), fun l => ?_⟩
      exact (Classical.choose_spec (Classical.choose_spec (h.split (u l)))).2
    obtain ⟨d, w, hd⟩ := dx
    have e1 : e = clE φ ι n.toNat B d + su n.toNat (fun l => ι (w l) * (ι (φ t1) * B l)) := by
      rw [hu]
      unfold clE
      rw [← su_add]
      refine su_congr fun l _ _ => ?_
      rw [hd, A.1, A.2.1]
      grind
    have e2 : su n.toNat (fun l => ι (w l) * (ι (φ t1) * B l)) = ι (φ t1) * su n.toNat (fun l => ι (w l) * B l) := by
      rw [← su_mul]
      exact su_congr fun l _ _ => by grind
    have rd : RAD (ι (φ t1)) (ι (φ t1) ^ 20) (LT ι n.toNat B) (clE φ ι n.toNat B d) := by
      have q : clE φ ι n.toNat B d = e + ι (φ t1) * (- su n.toNat (fun l => ι (w l) * B l)) := by
        rw [e1, e2]
        clear e1 e2
        grind
      rw [q]
      exact RAD.add lat n4 re (RAD.tau lat (lat.neg ⟨_, rfl⟩))
    have kd := (hk d).mpr rd
    rw [e1]
    refine ltm_add A ?_ (ltm_su A n.toNat (fun l l0 l1 => ltm_sca A _ (tB_c v sv l0 (by omega))))
    rw [cl_nb h.1 A sv kd]
    refine ltm_su A n.toNat (fun j j0 j1 => ?_)
    split
    · rename_i q
      have := ltm_b (m := n.toNat) (B := cB φ ι n.toNat B nb nil) A j0 j1
      rw [show cB φ ι n.toNat B nb nil j = clE φ ι n.toNat B (fun a => nb (4 * j + a)) from if_pos q] at this
      exact ltm_sca A _ this
    · exact ltm_zero A
  · rintro ⟨s, rfl⟩
    have z : RAD (ι (φ t1)) (ι (φ t1) ^ 20) (LT ι n.toNat B) 0 := by
      have := RAD.tau lat (LT.zero (B := B) A)
      rw [show ι (φ t1) * 0 = 0 by grind] at this
      exact this
    have each : ∀ j, 0 ≤ j → j < n → RAD (ι (φ t1)) (ι (φ t1) ^ 20) (LT ι n.toNat B) (cB φ ι n.toNat B nb nil j) := fun j j0 j1 => by
      unfold cB
      split
      · rename_i q
        exact (hk _).mp (sv.2.2.1 j j0 j1 q)
      · exact RAD.tau lat (ltm_b A j0 (by omega))
    have go : ∀ m : Nat, (m : Int) ≤ n → RAD (ι (φ t1)) (ι (φ t1) ^ 20) (LT ι n.toNat B) (su m (fun l => ι (s l) * cB φ ι n.toNat B nb nil l)) := fun m => by
      induction m with
      | zero => exact fun _ => z
      | succ m ih => exact fun hm => RAD.add lat n4 (ih (by omega)) (RAD.sca lat ⟨_, rfl⟩ (each m (by omega) (by omega)))
    exact go n.toNat (by have := v.2.2.1; omega)
