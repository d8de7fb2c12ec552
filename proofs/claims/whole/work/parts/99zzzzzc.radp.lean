/-! c_j c_l in the c_i: the class's rcF. -/
theorem rp_a {E : Type} [J : Lean.Grind.CommRing E] {X T a t b z s1 s2 g1 g2 : E} (e : X = T * (a + t * (b + t * z))) (h1 : a = s1) (h2 : t * b = s2 + t * g1) (h3 : t * z = g2) : X = T * (s1 + s2 + t * (g1 + g2)) := by
  rw [e, h1, show s1 + t * (b + t * z) = s1 + t * b + t * (t * z) by clear e h1 h2 h3; grind, h2, h3]
  clear e h1 h2 h3
  grind
theorem rad_pr {O E : Type} [I : Lean.Grind.CommRing O] [J : Lean.Grind.CommRing E] {p n k : Int} {C : Int → Int → Int} {φ : (Int → Int) → O} {ι : O → E} {y : E} {fig : Int → Int → Int → Int} {dp : Int → Int} (v : RNV p n C φ ι y k fig dp) {low high nb nil M : Int → Int} {kn : Int} (hl : ∀ i j l, 0 ≤ i → i < n → 0 ≤ j → j < n → 0 ≤ l → l < n → low ((4 * i + j) * 4 + l) = tb1 p n C fig dp 0 ((4 * i + j) * 4 + l)) (hh : ∀ i j l, 0 ≤ i → i < n → 0 ≤ j → j < n → 0 ≤ l → l < n → high ((4 * i + j) * 4 + l) = tb1 p n C fig dp 1 ((4 * i + j) * 4 + l)) (sv : solved p n n M nil nb kn) (hk : ∀ x, ker p n n M x ↔ RAD (ι (φ t1)) (ι (φ t1) ^ 20) (LT ι n.toNat (fun l => vE φ ι y n.toNat (bR fig l))) (clE φ ι n.toNat (fun l => vE φ ι y n.toNat (bR fig l)) x)) {r q : Int} (r0 : 0 ≤ r) (r1 : r < n) (q0 : 0 ≤ q) (q1 : q < n) (nr : nil r = 1) (nq : nil q = 1) : ∃ g, LT ι n.toNat (cB φ ι n.toNat (fun l => vE φ ι y n.toNat (bR fig l)) nb nil) g ∧ cB φ ι n.toNat (fun l => vE φ ι y n.toNat (bR fig l)) nb nil r * cB φ ι n.toNat (fun l => vE φ ι y n.toNat (bR fig l)) nb nil q = ι (φ t1) ^ 20 * (su n.toNat (fun i => ι (φ (nC (rcF p n nb nil low high r q i))) * cB φ ι n.toNat (fun l => vE φ ι y n.toNat (bR fig l)) nb nil i) + ι (φ t1) * g) := by
  obtain ⟨z, lz, ez⟩ := cl_cl (nb := nb) v hl hh r q
  have rc := fun e => rad_c v sv hk e
  have inv := rc_inv (B := fun l => vE φ ι y n.toNat (bR fig l)) v.1.1 v.2.2.2.1 sv (rcS p n nb high r q) n.toNat (by have := v.2.2.1; omega)
  have cr := (rc _).mpr (ltm_b (m := n.toNat) (B := cB φ ι n.toNat (fun l => vE φ ι y n.toNat (bR fig l)) nb nil) v.2.2.2.1 r0 (by omega))
  have cq := (rc _).mpr (ltm_b (m := n.toNat) (B := cB φ ι n.toNat (fun l => vE φ ι y n.toNat (bR fig l)) nb nil) v.2.2.2.1 q0 (by omega))
  have A := v.2.2.2.1
  have h := v.1
  have hn := v.2.2.1
  have lat := v.lat
  have n4 := v.n4
  generalize hB : (fun l => vE φ ι y n.toNat (bR fig l)) = B at *
  have er : cB φ ι n.toNat B nb nil r = clE φ ι n.toNat B (fun a => nb (4 * r + a)) := if_pos nr
  have eq : cB φ ι n.toNat B nb nil q = clE φ ι n.toNat B (fun a => nb (4 * q + a)) := if_pos nq
  rw [← er, ← eq] at ez
  have rt : RAD (ι (φ t1)) (ι (φ t1) ^ 20) (LT ι n.toNat B) (ι (φ t1) * (clE φ ι n.toNat B (rcS p n nb high r q) + ι (φ t1) * z)) := RAD.tau lat (LT.add A ⟨_, rfl⟩ (LT.sca A _ lz))
  have kd : ker p n n M (rcS p n nb low r q) := by
    refine (hk _).mpr ?_
    have ra : RAD (ι (φ t1)) (ι (φ t1) ^ 20) (LT ι n.toNat B) (clE φ ι n.toNat B (rcS p n nb low r q) + ι (φ t1) * (clE φ ι n.toNat B (rcS p n nb high r q) + ι (φ t1) * z)) := RAD.mul lat cr cq.1 (LT.add A ⟨_, rfl⟩ rt.1) ez
    have e : clE φ ι n.toNat B (rcS p n nb low r q) = (clE φ ι n.toNat B (rcS p n nb low r q) + ι (φ t1) * (clE φ ι n.toNat B (rcS p n nb high r q) + ι (φ t1) * z)) + ι (-1) * (ι (φ t1) * (clE φ ι n.toNat B (rcS p n nb high r q) + ι (φ t1) * z)) := by
      rw [A.ineg, A.2.2.1]
      clear ez
      grind
    rw [e]
    exact RAD.add lat n4 ra (RAD.sca lat ⟨_, rfl⟩ rt)
  obtain ⟨g1, l1, e1⟩ := inv
  have l2 := (rc _).mp (RAD.tau lat lz)
  refine ⟨g1 + ι (φ t1) * z, ltm_add A l1 l2, ?_⟩
  have fin := rp_a ez (cl_nb h.1 A sv kd) e1 rfl
  rw [fin]
  refine congrArg (fun w => ι (φ t1) ^ 20 * (w + ι (φ t1) * (g1 + ι (φ t1) * z))) ?_
  rw [← su_add]
  refine su_congr fun i i0 i1 => ?_
  unfold rcF cB
  by_cases ni : nil i = 1
  · rw [if_pos ni, if_pos ⟨ni, by omega⟩, if_neg (show ¬ nil i = 0 by omega), if_pos ni]
    clear fin ez e1
    grind
  · have z0 : nil i = 0 := by
      have := sv.1 i i0 (by omega)
      omega
    have e3 : rcT p n nb nil (rcS p n nb high r q) n.toNat i = rcT p n nb nil (rcS p n nb high r q) (n - 1 - i).toNat i := by
      rcases rcT_st (p := p) (n := n) (nb := nb) (nil := nil) (T := rcS p n nb high r q) (a := i) n.toNat (by omega) with w | w
      · exact w
      · omega
    rw [if_neg ni, if_neg (fun w => ni w.1), if_pos z0, if_neg ni, e3]
    clear fin ez e1
    grind
