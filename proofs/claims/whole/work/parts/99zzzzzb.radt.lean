/-! What stands in front of t b_a, by the c_i. -/
theorem rcT_st {p n : Int} {nb nil T : Int → Int} {a : Int} : ∀ k : Nat, n - 1 - a ≤ k → rcT p n nb nil T k a = rcT p n nb nil T (n - 1 - a).toNat a ∨ k < (n - 1 - a).toNat
  | 0, h => by
    by_cases q : (n - 1 - a).toNat = 0
    · exact Or.inl (by rw [q])
    · exact Or.inr (by omega)
  | k + 1, h => by
    by_cases q : n - 1 - a ≤ k
    · left
      have e : rcT p n nb nil T (k + 1) a = rcT p n nb nil T k a := if_neg (by omega)
      rcases rcT_st (p := p) (nb := nb) (nil := nil) (T := T) k q with r | r
      · rw [e, r]
      · omega
    · left
      rw [show (n - 1 - a).toNat = k + 1 by omega]
theorem rc_inv {O E : Type} [I : Lean.Grind.CommRing O] [J : Lean.Grind.CommRing E] {p n : Int} {φ : (Int → Int) → O} {ι : O → E} {y : E} {c : Int → O} (h : HM p φ) (A : ALG n.toNat c ι y) {B : Int → E} {M nb nil : Int → Int} {kn : Int} (sv : solved p n n M nil nb kn) (T : Int → Int) : ∀ s : Nat, (s : Int) ≤ n → ∃ g, LT ι n.toNat (cB φ ι n.toNat B nb nil) g ∧ ι (φ t1) * clE φ ι n.toNat B T = su n.toNat (fun a => if nil a = 1 ∧ n - s ≤ a then 0 else ι (φ (nC (rcT p n nb nil T s a))) * (ι (φ t1) * B a)) + ι (φ t1) * g
  | 0, _ => by
    refine ⟨0, ltm_zero A, ?_⟩
    unfold clE
    rw [← su_mul, su_congr (g := fun a => if nil a = 1 ∧ n - ((0 : Nat) : Int) ≤ a then 0 else ι (φ (nC (rcT p n nb nil T 0 a))) * (ι (φ t1) * B a)) (fun a a0 a1 => by
      rw [if_neg (by omega), show rcT p n nb nil T 0 a = T a from rfl]
      grind)]
    grind
  | s + 1, hs => by
    obtain ⟨g, lg, eg⟩ := rc_inv h A sv T s (by omega)
    rw [eg]
    have i0 : 0 ≤ n - 1 - (s : Int) := by omega
    by_cases q : nil (n - 1 - s) = 1
    · refine ⟨g + ι (φ (nC (rcT p n nb nil T s (n - 1 - s)))) * cB φ ι n.toNat B nb nil (n - 1 - s), ltm_add A lg (ltm_sca A _ (ltm_b A i0 (by omega))), ?_⟩
      have hc : cB φ ι n.toNat B nb nil (n - 1 - s) = su n.toNat (fun a => ι (φ (nC (nb (4 * (n - 1 - s) + a)))) * B a) := if_pos q
      rw [hc]
      generalize hr : rcT p n nb nil T s (n - 1 - s) = ri
      have e2 : ι (φ t1) * (g + ι (φ (nC ri)) * su n.toNat (fun a => ι (φ (nC (nb (4 * (n - 1 - s) + a)))) * B a)) = su n.toNat (fun a => ι (φ (nC (nb (4 * (n - 1 - s) + a)))) * (ι (φ (nC ri)) * (ι (φ t1) * B a))) + ι (φ t1) * g := by
        rw [show su n.toNat (fun a => ι (φ (nC (nb (4 * (n - 1 - s) + a)))) * (ι (φ (nC ri)) * (ι (φ t1) * B a))) = ι (φ t1) * ι (φ (nC ri)) * su n.toNat (fun a => ι (φ (nC (nb (4 * (n - 1 - s) + a)))) * B a) by
          rw [← su_mul]
          exact su_congr fun a _ _ => by grind]
        grind
      rw [e2, show ∀ u w z : E, u + (w + z) = u + w + z from fun u w z => by grind, ← su_add]
      refine congrArg (fun w => w + ι (φ t1) * g) (su_congr fun a a0 a1 => ?_)
      rcases Int.lt_trichotomy a (n - 1 - s) with w | w | w
      · rw [if_neg (show ¬ (nil a = 1 ∧ n - (s : Int) ≤ a) by omega), if_neg (show ¬ (nil a = 1 ∧ n - ((s + 1 : Nat) : Int) ≤ a) by omega)]
        have e3 : rcT p n nb nil T (s + 1) a = (rcT p n nb nil T s a + (p - nb (4 * (n - 1 - s) + a)) % p * rcT p n nb nil T s (n - 1 - s)) % p := if_pos ⟨a0, w, by omega⟩
        have e4 : φ (nC (p - nb (4 * (n - 1 - s) + a))) = - φ (nC (nb (4 * (n - 1 - s) + a))) := by
          have z : φ (nC (p - nb (4 * (n - 1 - s) + a) + nb (4 * (n - 1 - s) + a))) = 0 := by
            rw [show p - nb (4 * (n - 1 - s) + a) + nb (4 * (n - 1 - s) + a) = p by omega]
            exact h.nC_dv (Int.dvd_refl p)
          rw [h.nC_add] at z
          rw [show φ (nC (p - nb (4 * (n - 1 - s) + a))) = φ (nC (p - nb (4 * (n - 1 - s) + a))) + φ (nC (nb (4 * (n - 1 - s) + a))) + - φ (nC (nb (4 * (n - 1 - s) + a))) by clear z; grind, z]
          clear z
          grind
        rw [e3, hr, h.nC_mod, h.nC_add, h.nC_mul, h.nC_mod, e4, A.1, A.2.1, A.ineg]
        clear e4 e3
        grind
      · rw [if_neg (show ¬ (nil a = 1 ∧ n - (s : Int) ≤ a) by omega), if_pos (show nil a = 1 ∧ n - ((s + 1 : Nat) : Int) ≤ a from ⟨by rw [w]; exact q, by omega⟩), w, sv.2.2.2.1 (n - 1 - s) i0 (by omega), h.nC_1, A.2.2.1, hr]
        grind
      · rw [sv.2.2.2.2.2.1 (n - 1 - s) a i0 w (by omega), h.nC_0, A.i0]
        have e3 : rcT p n nb nil T (s + 1) a = rcT p n nb nil T s a := if_neg (by omega)
        rw [e3]
        by_cases q3 : nil a = 1
        · rw [if_pos ⟨q3, by omega⟩, if_pos ⟨q3, by omega⟩]
          grind
        · rw [if_neg (fun z => q3 z.1), if_neg (fun z => q3 z.1)]
          grind
    · refine ⟨g, lg, congrArg (fun w => w + ι (φ t1) * g) (su_congr fun a a0 a1 => ?_)⟩
      have z : nil (n - 1 - s) = 0 := by
        have := sv.1 (n - 1 - s) i0 (by omega)
        omega
      have e3 : rcT p n nb nil T (s + 1) a = rcT p n nb nil T s a := if_neg (fun w => w.2.2 z)
      rw [e3]
      by_cases q3 : nil a = 1
      · by_cases q4 : n - (s : Int) ≤ a
        · rw [if_pos ⟨q3, q4⟩, if_pos ⟨q3, by omega⟩]
        · by_cases q5 : a = n - 1 - s
          · rw [q5] at q3
            exact absurd q3 q
          · rw [if_neg (fun w => q4 w.2), if_neg (by omega)]
      · rw [if_neg (fun w => q3 w.1), if_neg (fun w => q3 w.1)]
