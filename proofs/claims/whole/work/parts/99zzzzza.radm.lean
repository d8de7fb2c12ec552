/-! Products in the radical, by the class's tables. -/
/-- b_a in c_j -/
def gaO {O : Type} [I : Lean.Grind.CommRing O] (φ : (Int → Int) → O) (nb nil : Int → Int) (j a : Int) : O := if nil j = 1 then φ (nC (nb (4 * j + a))) else if a = j then φ t1 else 0
theorem c_ind {O E : Type} [I : Lean.Grind.CommRing O] [J : Lean.Grind.CommRing E] {p n k : Int} {C : Int → Int → Int} {φ : (Int → Int) → O} {ι : O → E} {y : E} {fig : Int → Int → Int → Int} {dp : Int → Int} (v : RNV p n C φ ι y k fig dp) {M nb nil : Int → Int} {kn : Int} (sv : solved p n n M nil nb kn) {s : Int → O} (e : su n.toNat (fun j => ι (s j) * cB φ ι n.toNat (fun l => vE φ ι y n.toNat (bR fig l)) nb nil j) = 0) : ∀ j, 0 ≤ j → j < n → s j = 0 := by
  have A := v.2.2.2.1
  have h := v.1
  have hn := v.2.2.1
  have cg : ∀ j : Int, 0 ≤ j → j < n → cB φ ι n.toNat (fun l => vE φ ι y n.toNat (bR fig l)) nb nil j = su n.toNat (fun a => ι (gaO φ nb nil j a) * vE φ ι y n.toNat (bR fig a)) := fun j j0 j1 => by
    unfold cB gaO
    by_cases q : nil j = 1
    · rw [if_pos q]
      unfold clE
      exact su_congr fun a _ _ => by rw [if_pos q]
    · rw [if_neg q, su_one j j0 (by omega) (fun a _ _ na => by (try dsimp only); rw [if_neg q, if_neg na, A.i0]; grind)]
      (try dsimp only)
      rw [if_neg q, if_pos rfl]
  have co : ∀ a, 0 ≤ a → a < n → su n.toNat (fun j => s j * gaO φ nb nil j a) = 0 := fun a a0 a1 => by
    refine v.2.2.2.2.2.ind (s := fun a => su n.toNat (fun j => s j * gaO φ nb nil j a)) (w := fun _ => 0) h v.2.1.two.1 hn A ?_ a a0 a1
    rw [su_zeros (n := n.toNat) (f := fun l => ι 0 * vE φ ι y n.toNat (bR fig l)) (fun l _ _ => by rw [A.i0]; grind), ← e]
    rw [su_congr (n := n.toNat) (f := fun j => ι (s j) * cB φ ι n.toNat (fun l => vE φ ι y n.toNat (bR fig l)) nb nil j) (g := fun j => su n.toNat (fun a => ι (s j) * (ι (gaO φ nb nil j a) * vE φ ι y n.toNat (bR fig a)))) (fun j j0 j1 => by rw [cg j j0 (by omega), su_mul]), su_swap]
    refine su_congr fun a _ _ => ?_
    rw [A.isu, comm_E, ← su_mul]
    exact su_congr fun j _ _ => by rw [A.2.1]; grind
  have z : ∀ k : Nat, ∀ j : Int, n - k ≤ j → 0 ≤ j → j < n → s j = 0 := fun k => by
    induction k with
    | zero => exact fun j a b c => by omega
    | succ k ih =>
      intro a q a0 a1
      have r := co a a0 a1
      rw [su_one a a0 (by omega) (fun j j0 j1 nj => by
        rcases Int.lt_or_lt_of_ne nj with w | w
        · unfold gaO
          split
          · rw [sv.2.2.2.2.2.1 j a j0 w a1, h.1.nC_0]
            grind
          · rw [if_neg (by omega)]
            grind
        · rw [ih j (by omega) j0 (by omega)]
          grind)] at r
      unfold gaO at r
      by_cases q2 : nil a = 1
      · rw [if_pos q2, sv.2.2.2.1 a a0 a1, h.1.nC_1] at r
        rw [← r]
        clear r
        grind
      · rw [if_neg q2, if_pos rfl] at r
        refine h.can 1 ?_
        rw [show φ t1 ^ 1 * s a = s a * φ t1 by clear r; grind, r]
        clear r
        grind
  exact fun j j0 j1 => z n.toNat j (by omega) j0 j1
/-- by t in the radical: no digit -/
theorem c_dig {O E : Type} [I : Lean.Grind.CommRing O] [J : Lean.Grind.CommRing E] {p n k : Int} {C : Int → Int → Int} {φ : (Int → Int) → O} {ι : O → E} {y : E} {fig : Int → Int → Int → Int} {dp : Int → Int} (v : RNV p n C φ ι y k fig dp) {M nb nil : Int → Int} {kn : Int} (sv : solved p n n M nil nb kn) {u : Int → Int} : (∃ g, LT ι n.toNat (cB φ ι n.toNat (fun l => vE φ ι y n.toNat (bR fig l)) nb nil) g ∧ su n.toNat (fun j => ι (φ (nC (u j))) * cB φ ι n.toNat (fun l => vE φ ι y n.toNat (bR fig l)) nb nil j) = ι (φ t1) * g) ↔ ∀ j, 0 ≤ j → j < n → p ∣ u j := by
  have A := v.2.2.2.1
  have h := v.1
  constructor
  · rintro ⟨g, ⟨s, rfl⟩, e⟩ j j0 j1
    have z := c_ind v sv (s := fun j => φ (nC (u j)) - φ t1 * s j) (by
      rw [su_congr (g := fun j => ι (φ (nC (u j))) * cB φ ι n.toNat (fun l => vE φ ι y n.toNat (bR fig l)) nb nil j + - (ι (φ t1) * (ι (s j) * cB φ ι n.toNat (fun l => vE φ ι y n.toNat (bR fig l)) nb nil j))) (fun j _ _ => by rw [A.isub, A.2.1]; grind), su_add, su_neg, e, su_mul]
      grind) j j0 j1
    exact Int.dvd_of_emod_eq_zero (h.dig (d := u j) (b := s j) (by
      have q : φ (nC (u j)) = φ (nC (u j)) - φ t1 * s j + φ t1 * s j := by clear z; grind
      rw [q, z]
      clear q z
      grind))
  · intro d
    refine ⟨0, ltm_zero A, ?_⟩
    rw [su_zeros (fun j j0 j1 => by rw [h.1.nC_dv (d j j0 (by omega)), A.i0]; grind)]
    grind
theorem cl_cl {O E : Type} [I : Lean.Grind.CommRing O] [J : Lean.Grind.CommRing E] {p n k : Int} {C : Int → Int → Int} {φ : (Int → Int) → O} {ι : O → E} {y : E} {fig : Int → Int → Int → Int} {dp : Int → Int} (v : RNV p n C φ ι y k fig dp) {low high nb : Int → Int} (hl : ∀ i j l, 0 ≤ i → i < n → 0 ≤ j → j < n → 0 ≤ l → l < n → low ((4 * i + j) * 4 + l) = tb1 p n C fig dp 0 ((4 * i + j) * 4 + l)) (hh : ∀ i j l, 0 ≤ i → i < n → 0 ≤ j → j < n → 0 ≤ l → l < n → high ((4 * i + j) * 4 + l) = tb1 p n C fig dp 1 ((4 * i + j) * 4 + l)) (r q : Int) : ∃ z, LT ι n.toNat (fun l => vE φ ι y n.toNat (bR fig l)) z ∧ clE φ ι n.toNat (fun l => vE φ ι y n.toNat (bR fig l)) (fun a => nb (4 * r + a)) * clE φ ι n.toNat (fun l => vE φ ι y n.toNat (bR fig l)) (fun a => nb (4 * q + a)) = ι (φ t1) ^ 20 * (clE φ ι n.toNat (fun l => vE φ ι y n.toNat (bR fig l)) (rcS p n nb low r q) + ι (φ t1) * (clE φ ι n.toNat (fun l => vE φ ι y n.toNat (bR fig l)) (rcS p n nb high r q) + ι (φ t1) * z)) := by
  have pr := fun i j i0 i1 j0 j1 => (v.pr (i := i) (j := j) i0 i1 j0 j1).2
  obtain ⟨h, hp, hn, A, hk, rr⟩ := v
  generalize hB : (fun l => vE φ ι y n.toNat (bR fig l)) = B at *
  have eB : ∀ l, vE φ ι y n.toNat (bR fig l) = B l := fun l => by rw [← hB]
  have tw : ∀ i j l, ∃ z, φ (shN p n dp fig (mbL p n C fig i j) l) = φ (nC (shN p n dp fig (mbL p n C fig i j) l 0)) + φ t1 * (φ (nC (shN p n dp fig (mbL p n C fig i j) l 1)) + φ t1 * z) := fun i j l => h.two (fun x hx => (shN_can hp.two.1 (mbL_can hp.two.1)).2 l x hx)
  have zx : ∃ z : Int → Int → Int → O, ∀ i j l, φ (shN p n dp fig (mbL p n C fig i j) l) = φ (nC (shN p n dp fig (mbL p n C fig i j) l 0)) + φ t1 * (φ (nC (shN p n dp fig (mbL p n C fig i j) l 1)) + φ t1 * z i j l) := ⟨fun i j l => Classical.choose (tw i j l), fun i j l => Classical.choose_spec (tw i j l)⟩
  obtain ⟨z, hz⟩ := zx
  have bil := su_bil (T := ι (φ t1) ^ 20) (B := B) (c := fun i j l => φ (shN p n dp fig (mbL p n C fig i j) l)) A (fun i j i0 i1 j0 j1 => by
    have := pr i j i0 (by omega) j0 (by omega)
    rw [eB, eB] at this
    rw [this]
    exact congrArg (fun w => ι (φ t1) ^ 20 * w) (su_congr fun l _ _ => by rw [eB])) (fun i => φ (nC (nb (4 * r + i)))) (fun j => φ (nC (nb (4 * q + j))))
  have pd : ∀ (t : Int → Int) (w l : Int), (∀ i j, 0 ≤ i → i < n → 0 ≤ j → j < n → t ((4 * i + j) * 4 + l) = shN p n dp fig (mbL p n C fig i j) l w) → su n.toNat (fun i => su n.toNat (fun j => φ (nC (nb (4 * r + i))) * φ (nC (nb (4 * q + j))) * φ (nC (shN p n dp fig (mbL p n C fig i j) l w)))) = φ (nC (rcS p n nb t r q l)) := fun t w l ht => by
    unfold rcS
    rw [h.1.nC_mod, hm_nC_sm h.1]
    refine su_congr fun i i0 i1 => ?_
    rw [hm_nC_sm h.1]
    refine su_congr fun j j0 j1 => ?_
    rw [h.1.nC_mul, h.1.nC_mod, h.1.nC_mul, ht i j i0 (by omega) j0 (by omega)]
  refine ⟨su n.toNat (fun l => ι (su n.toNat (fun i => su n.toNat (fun j => φ (nC (nb (4 * r + i))) * φ (nC (nb (4 * q + j))) * z i j l))) * B l), ⟨_, rfl⟩, ?_⟩
  unfold clE
  rw [bil]
  refine congrArg (fun w => ι (φ t1) ^ 20 * w) ?_
  rw [← su_mul, ← su_add, ← su_mul, ← su_add]
  refine su_congr fun l l0 l1 => ?_
  rw [← pd low 0 l (fun i j i0 i1 j0 j1 => (hl i j l i0 i1 j0 j1 l0 (by omega)).trans (tb1_ij j0 (by omega) l0 (by omega))), ← pd high 1 l (fun i j i0 i1 j0 j1 => (hh i j l i0 i1 j0 j1 l0 (by omega)).trans (tb1_ij j0 (by omega) l0 (by omega)))]
  have e : su n.toNat (fun i => su n.toNat (fun j => φ (nC (nb (4 * r + i))) * φ (nC (nb (4 * q + j))) * φ (shN p n dp fig (mbL p n C fig i j) l))) = su n.toNat (fun i => su n.toNat (fun j => φ (nC (nb (4 * r + i))) * φ (nC (nb (4 * q + j))) * φ (nC (shN p n dp fig (mbL p n C fig i j) l 0)))) + φ t1 * (su n.toNat (fun i => su n.toNat (fun j => φ (nC (nb (4 * r + i))) * φ (nC (nb (4 * q + j))) * φ (nC (shN p n dp fig (mbL p n C fig i j) l 1)))) + φ t1 * su n.toNat (fun i => su n.toNat (fun j => φ (nC (nb (4 * r + i))) * φ (nC (nb (4 * q + j))) * z i j l))) := by
    rw [← su_mul, ← su_add, ← su_mul, ← su_add]
    refine su_congr fun i _ _ => ?_
    rw [← su_mul, ← su_add, ← su_mul, ← su_add]
    refine su_congr fun j _ _ => ?_
    rw [hz]
    grind
  rw [e, A.1, A.2.1, A.1, A.2.1]
  grind
