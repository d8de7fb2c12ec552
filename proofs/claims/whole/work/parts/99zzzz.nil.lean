/-! Classes: nil, and what keeps the radical. -/
/-- the element of a class -/
def vC {O E : Type} [I : Lean.Grind.CommRing O] [J : Lean.Grind.CommRing E] (p : Int) (φ : (Int → Int) → O) (ι : O → E) (n : Nat) (B : Int → E) (a : Int) : E := su n (fun l => ι (φ (nC (dgt p a l))) * B l)
/-- what stands fixed: the curve's ring, a ring of it -/
def RNV {O E : Type} [I : Lean.Grind.CommRing O] [J : Lean.Grind.CommRing E] (p n : Int) (C : Int → Int → Int) (φ : (Int → Int) → O) (ι : O → E) (y : E) (k : Int) (fig : Int → Int → Int → Int) (dp : Int → Int) : Prop := HMs p φ ∧ isPr p ∧ (2 ≤ n ∧ n ≤ 4) ∧ ALG n.toNat (fun l => φ (C l)) ι y ∧ k ≤ 19 ∧ RST p n φ ι y k fig dp
theorem isPr.two {p : Int} (h : isPr p) : 2 ≤ p ∧ p ≤ 7 := by
  rcases h with rfl | rfl | rfl | rfl <;> decide
theorem RNV.lat {O E : Type} [I : Lean.Grind.CommRing O] [J : Lean.Grind.CommRing E] {p n k : Int} {C : Int → Int → Int} {φ : (Int → Int) → O} {ι : O → E} {y : E} {fig : Int → Int → Int → Int} {dp : Int → Int} (v : RNV p n C φ ι y k fig dp) : LAT (FI ι) (ι (φ t1)) (ι (φ t1) ^ 20) (LT ι n.toNat (fun l => vE φ ι y n.toNat (bR fig l))) := v.2.2.2.2.2.lat v.1 v.2.2.1 v.2.2.2.1 v.2.2.2.2.1
theorem RNV.n4 {O E : Type} [I : Lean.Grind.CommRing O] [J : Lean.Grind.CommRing E] {p n k : Int} {C : Int → Int → Int} {φ : (Int → Int) → O} {ι : O → E} {y : E} {fig : Int → Int → Int → Int} {dp : Int → Int} (v : RNV p n C φ ι y k fig dp) : NIL4 (ι (φ t1)) (ι (φ t1) ^ 20) (LT ι n.toNat (fun l => vE φ ι y n.toNat (bR fig l))) := fun e le ⟨g, lg, eg⟩ => nil_4 (M := 7) v.1 v.2.2.2.1 v.2.1 (by have := v.2.2.1; omega) v.lat le lg (by rw [eg]; grind)
/-- products of the basis, by what is found -/
theorem RNV.pr {O E : Type} [I : Lean.Grind.CommRing O] [J : Lean.Grind.CommRing E] {p n k : Int} {C : Int → Int → Int} {φ : (Int → Int) → O} {ι : O → E} {y : E} {fig : Int → Int → Int → Int} {dp : Int → Int} (v : RNV p n C φ ι y k fig dp) {i j : Int} (i0 : 0 ≤ i) (i1 : i < n) (j0 : 0 ≤ j) (j1 : j < n) : okE p n dp fig (mbL p n C fig i j) ∧ vE φ ι y n.toNat (bR fig i) * vE φ ι y n.toNat (bR fig j) = ι (φ t1) ^ 20 * su n.toNat (fun l => ι (φ (shN p n dp fig (mbL p n C fig i j) l)) * vE φ ι y n.toNat (bR fig l)) := by
  obtain ⟨h, hp, hn, a, hk, r⟩ := v
  obtain ⟨g, ⟨s, rfl⟩, eg⟩ := r.2.2.2.2.2.1 i j i0 i1 j0 j1
  have e := eg
  rw [← mb_e h hn a r.2.1 i0 i1 j0 j1] at eg
  obtain ⟨ok, sh⟩ := ex_2 h hp.two.1 (by omega) r.1 r.2.1 (mbL_can hp.two.1) ((cmb_vE (p := p) a).mpr eg)
  refine ⟨ok, e.trans (congrArg (fun z => ι (φ t1) ^ 20 * z) (su_congr fun l l0 l1 => ?_))⟩
  rw [sh l l0 (by omega)]
theorem RNV.ab {O E : Type} [I : Lean.Grind.CommRing O] [J : Lean.Grind.CommRing E] {p n k : Int} {C : Int → Int → Int} {φ : (Int → Int) → O} {ι : O → E} {y : E} {fig : Int → Int → Int → Int} {dp : Int → Int} (v : RNV p n C φ ι y k fig dp) (a b : Int) : ∃ z, LT ι n.toNat (fun l => vE φ ι y n.toNat (bR fig l)) z ∧ vC p φ ι n.toNat (fun l => vE φ ι y n.toNat (bR fig l)) a * vC p φ ι n.toNat (fun l => vE φ ι y n.toNat (bR fig l)) b = ι (φ t1) ^ 20 * (vC p φ ι n.toNat (fun l => vE φ ι y n.toNat (bR fig l)) (pcC p n (tb1 p n C fig dp 0) a b) + ι (φ t1) * (vC p φ ι n.toNat (fun l => vE φ ι y n.toNat (bR fig l)) (pcC p n (tb1 p n C fig dp 1) a b) + ι (φ t1) * z)) := by
  have pr := fun i j i0 i1 j0 j1 => (v.pr (i := i) (j := j) i0 i1 j0 j1).2
  obtain ⟨h, hp, hn, A, hk, r⟩ := v
  generalize hB : (fun l => vE φ ι y n.toNat (bR fig l)) = B at *
  have eB : ∀ l, vE φ ι y n.toNat (bR fig l) = B l := fun l => by rw [← hB]
  have tw : ∀ i j l, ∃ z, φ (shN p n dp fig (mbL p n C fig i j) l) = φ (nC (shN p n dp fig (mbL p n C fig i j) l 0)) + φ t1 * (φ (nC (shN p n dp fig (mbL p n C fig i j) l 1)) + φ t1 * z) := fun i j l => h.two (fun x hx => (shN_can hp.two.1 (mbL_can hp.two.1)).2 l x hx)
  have zx : ∃ z : Int → Int → Int → O, ∀ i j l, φ (shN p n dp fig (mbL p n C fig i j) l) = φ (nC (shN p n dp fig (mbL p n C fig i j) l 0)) + φ t1 * (φ (nC (shN p n dp fig (mbL p n C fig i j) l 1)) + φ t1 * z i j l) := ⟨fun i j l => Classical.choose (tw i j l), fun i j l => Classical.choose_spec (tw i j l)⟩
  obtain ⟨z, hz⟩ := zx
  have bil := su_bil (T := ι (φ t1) ^ 20) (B := B) (c := fun i j l => φ (shN p n dp fig (mbL p n C fig i j) l)) A (fun i j i0 i1 j0 j1 => by
    have := pr i j i0 (by omega) j0 (by omega)
    rw [eB, eB] at this
    rw [this]
    exact congrArg (fun w => ι (φ t1) ^ 20 * w) (su_congr fun l _ _ => by rw [eB])) (fun i => φ (nC (dgt p a i))) (fun j => φ (nC (dgt p b j)))
  have pd : ∀ (q l : Int), 0 ≤ l → l < n → su n.toNat (fun i => su n.toNat (fun j => φ (nC (dgt p a i)) * φ (nC (dgt p b j)) * φ (nC (shN p n dp fig (mbL p n C fig i j) l q)))) = φ (nC (dgt p (pcC p n (tb1 p n C fig dp q) a b) l)) := fun q l l0 l1 => by
    have cd := cdF_dgt (c := fun l => pdS p n (tb1 p n C fig dp q) a b l % p) hp.two (fun i => ⟨em_ge (by have := hp.two; omega), em_lt (by have := hp.two; omega)⟩) l.toNat n.toNat 0 (by omega)
    rw [show ((l.toNat : Nat) : Int) = l by omega, show (0 : Int) + l = l by omega] at cd
    unfold pcC
    rw [cd, h.1.nC_mod]
    unfold pdS
    rw [hm_nC_sm h.1]
    refine su_congr fun i i0 i1 => ?_
    rw [hm_nC_sm h.1]
    refine su_congr fun j j0 j1 => ?_
    rw [h.1.nC_mul, h.1.nC_mul]
    unfold tb1
    rw [show (16 * i + 4 * j + l) / 16 = i by omega, show (16 * i + 4 * j + l) / 4 % 4 = j by omega, show (16 * i + 4 * j + l) % 4 = l by omega]
  refine ⟨su n.toNat (fun l => ι (su n.toNat (fun i => su n.toNat (fun j => φ (nC (dgt p a i)) * φ (nC (dgt p b j)) * z i j l))) * B l), ⟨_, rfl⟩, ?_⟩
  unfold vC
  rw [bil]
  refine congrArg (fun w => ι (φ t1) ^ 20 * w) ?_
  rw [← su_mul, ← su_add, ← su_mul, ← su_add]
  refine su_congr fun l l0 l1 => ?_
  rw [← pd 0 l l0 (by omega), ← pd 1 l l0 (by omega)]
  have e : su n.toNat (fun i => su n.toNat (fun j => φ (nC (dgt p a i)) * φ (nC (dgt p b j)) * φ (shN p n dp fig (mbL p n C fig i j) l))) = su n.toNat (fun i => su n.toNat (fun j => φ (nC (dgt p a i)) * φ (nC (dgt p b j)) * φ (nC (shN p n dp fig (mbL p n C fig i j) l 0)))) + φ t1 * (su n.toNat (fun i => su n.toNat (fun j => φ (nC (dgt p a i)) * φ (nC (dgt p b j)) * φ (nC (shN p n dp fig (mbL p n C fig i j) l 1)))) + φ t1 * su n.toNat (fun i => su n.toNat (fun j => φ (nC (dgt p a i)) * φ (nC (dgt p b j)) * z i j l))) := by
    rw [← su_mul, ← su_add, ← su_mul, ← su_add]
    refine su_congr fun i _ _ => ?_
    rw [← su_mul, ← su_add, ← su_mul, ← su_add]
    refine su_congr fun j _ _ => ?_
    rw [hz]
    grind
  rw [e, A.1, A.2.1, A.1, A.2.1]
  grind
/-- a class by t is nothing only if its digits are -/
theorem RNV.vz {O E : Type} [I : Lean.Grind.CommRing O] [J : Lean.Grind.CommRing E] {p n k : Int} {C : Int → Int → Int} {φ : (Int → Int) → O} {ι : O → E} {y : E} {fig : Int → Int → Int → Int} {dp : Int → Int} (v : RNV p n C φ ι y k fig dp) {a : Int} {z : E} (lz : LT ι n.toNat (fun l => vE φ ι y n.toNat (bR fig l)) z) (e : vC p φ ι n.toNat (fun l => vE φ ι y n.toNat (bR fig l)) a = ι (φ t1) * z) (l : Int) (l0 : 0 ≤ l) (l1 : l < n) : dgt p a l = 0 := by
  obtain ⟨h, hp, hn, A, hk, r⟩ := v
  obtain ⟨s, rfl⟩ := lz
  unfold vC at e
  rw [← su_mul] at e
  have e2 := r.ind h hp.two.1 hn A (s := fun l => φ (nC (dgt p a l))) (w := fun l => φ t1 * s l) (e.trans (su_congr fun l _ _ => by rw [A.2.1]; grind)) l l0 l1
  have := h.dig e2
  have b := dgt_bd (a := a) (i := l) hp.two.1
  rw [em_id b.1 b.2] at this
  exact this
theorem vC_0 {O E : Type} [I : Lean.Grind.CommRing O] [J : Lean.Grind.CommRing E] {p : Int} {φ : (Int → Int) → O} {ι : O → E} {y : E} {n : Nat} {c : Int → O} {B : Int → E} (h : HMs p φ) (A : ALG n c ι y) : vC p φ ι n B 0 = 0 := su_zeros fun l _ _ => by
  rw [show dgt p 0 l = 0 by unfold dgt; rw [Int.zero_ediv, Int.zero_emod], h.1.nC_0, A.i0]
  grind
/-- nil classes are those of the radical -/
theorem rnv_nil {O E : Type} [I : Lean.Grind.CommRing O] [J : Lean.Grind.CommRing E] {p n k : Int} {C : Int → Int → Int} {φ : (Int → Int) → O} {ι : O → E} {y : E} {fig : Int → Int → Int → Int} {dp : Int → Int} (v : RNV p n C φ ι y k fig dp) (a : Int) : isN p n (tb1 p n C fig dp 0) a ↔ RAD (ι (φ t1)) (ι (φ t1) ^ 20) (LT ι n.toNat (fun l => vE φ ι y n.toNat (bR fig l))) (vC p φ ι n.toNat (fun l => vE φ ι y n.toNat (bR fig l)) a) := by
  have lat := v.lat
  have lv : ∀ a, LT ι n.toNat (fun l => vE φ ι y n.toNat (bR fig l)) (vC p φ ι n.toNat (fun l => vE φ ι y n.toNat (bR fig l)) a) := fun a => ⟨_, rfl⟩
  obtain ⟨z1, l1, e1⟩ := v.ab a a
  obtain ⟨z2, l2, e2⟩ := v.ab (pcC p n (tb1 p n C fig dp 0) a a) (pcC p n (tb1 p n C fig dp 0) a a)
  have vz := fun z => v.vz (z := z) (a := pcC p n (tb1 p n C fig dp 0) (pcC p n (tb1 p n C fig dp 0) a a) (pcC p n (tb1 p n C fig dp 0) a a))
  have v0 := vC_0 (B := fun l => vE φ ι y n.toNat (bR fig l)) v.1 v.2.2.2.1
  have hp := v.2.1
  unfold isN
  generalize hB : (fun l => vE φ ι y n.toNat (bR fig l)) = B at *
  have ft := lat.2.2.2.2.2.1.1
  have lw := lat.1 _ _ (lv (pcC p n (tb1 p n C fig dp 1) a a)) (lat.2.1 _ _ ft l1)
  have lw2 := lat.1 _ _ (lv (pcC p n (tb1 p n C fig dp 1) (pcC p n (tb1 p n C fig dp 0) a a) (pcC p n (tb1 p n C fig dp 0) a a))) (lat.2.1 _ _ ft l2)
  obtain ⟨x1, m1, f1⟩ := lat.2.2.2.1 _ _ (lv (pcC p n (tb1 p n C fig dp 0) a a)) lw
  obtain ⟨x2, m2, f2⟩ := lat.2.2.2.1 _ _ lw lw
  generalize hq : pcC p n (tb1 p n C fig dp 0) (pcC p n (tb1 p n C fig dp 0) a a) (pcC p n (tb1 p n C fig dp 0) a a) = Q at *
  generalize vC p φ ι n.toNat B (pcC p n (tb1 p n C fig dp 1) a a) + ι (φ t1) * z1 = w at *
  generalize vC p φ ι n.toNat B (pcC p n (tb1 p n C fig dp 1) (pcC p n (tb1 p n C fig dp 0) a a) (pcC p n (tb1 p n C fig dp 0) a a)) + ι (φ t1) * z2 = w2 at *
  have L3 : LT ι n.toNat B (w2 + (x1 + x1 + ι (φ t1) * x2)) := lat.1 _ _ lw2 (lat.1 _ _ (lat.1 _ _ m1 m1) (lat.2.1 _ _ ft m2))
  have e4 : vC p φ ι n.toNat B a ^ 4 = (ι (φ t1) ^ 20) ^ 3 * (vC p φ ι n.toNat B Q + ι (φ t1) * (w2 + (x1 + x1 + ι (φ t1) * x2))) := by
    rw [show vC p φ ι n.toNat B a ^ 4 = (vC p φ ι n.toNat B a * vC p φ ι n.toNat B a) * (vC p φ ι n.toNat B a * vC p φ ι n.toNat B a) by grind, e1]
    generalize vC p φ ι n.toNat B (pcC p n (tb1 p n C fig dp 0) a a) = u at *
    generalize vC p φ ι n.toNat B Q = s at *
    generalize ι (φ t1) = τ at *
    rw [show τ ^ 20 * (u + τ * w) * (τ ^ 20 * (u + τ * w)) = (τ ^ 20) ^ 2 * (u * u + τ * (u * w + u * w + τ * (w * w))) by clear e1 e2 f1 f2; grind, e2, f1, f2]
    clear e1 e2 f1 f2
    grind
  constructor
  · intro z
    refine ⟨lv a, _, L3, ?_⟩
    rw [e4, z, v0]
    grind
  · rintro ⟨-, g, lg, eg⟩
    have e5 : vC p φ ι n.toNat B Q = ι (φ t1) * (g + - (w2 + (x1 + x1 + ι (φ t1) * x2))) := by
      have := lat.canT 3 (eg.symm.trans e4)
      rw [show ι (φ t1) * (g + - (w2 + (x1 + x1 + ι (φ t1) * x2))) = ι (φ t1) * g - ι (φ t1) * (w2 + (x1 + x1 + ι (φ t1) * x2)) by clear this eg e4; grind, this]
      clear this eg e4
      grind
    have dz := vz _ (lat.1 _ _ lg (lat.neg L3)) e5
    rw [← hq]
    unfold pcC
    refine (cdF_z hp.two.1 (fun i => em_ge (by have := hp.two; omega)) n.toNat 0).2.mpr (fun i i0 i1 => ?_)
    have d := dz i (by omega) (by omega)
    rw [← hq] at d
    unfold pcC at d
    have cd := cdF_dgt (c := fun l => pdS p n (tb1 p n C fig dp 0) (cdF p (fun l => pdS p n (tb1 p n C fig dp 0) a a l % p) n.toNat 0) (cdF p (fun l => pdS p n (tb1 p n C fig dp 0) a a l % p) n.toNat 0) l % p) hp.two (fun i => ⟨em_ge (by have := hp.two; omega), em_lt (by have := hp.two; omega)⟩) i.toNat n.toNat 0 (by omega)
    rw [show ((i.toNat : Nat) : Int) = i by omega, show (0 : Int) + i = i by omega] at cd
    exact cd.symm.trans d
