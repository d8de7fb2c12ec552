/-! What keeps the radical: by classes. -/
def RAB {O E : Type} [I : Lean.Grind.CommRing O] [J : Lean.Grind.CommRing E] (p n : Int) (T1 T2 : Int → Int) (φ : (Int → Int) → O) (ι : O → E) (y : E) (c : Int → O) (B : Int → E) : Prop := (HMs p φ ∧ isPr p ∧ (2 ≤ n ∧ n ≤ 4) ∧ ALG n.toNat c ι y) ∧ LAT (FI ι) (ι (φ t1)) (ι (φ t1) ^ 20) (LT ι n.toNat B) ∧ NIL4 (ι (φ t1)) (ι (φ t1) ^ 20) (LT ι n.toNat B) ∧ (∀ a b, ∃ z, LT ι n.toNat B z ∧ vC p φ ι n.toNat B a * vC p φ ι n.toNat B b = ι (φ t1) ^ 20 * (vC p φ ι n.toNat B (pcC p n T1 a b) + ι (φ t1) * (vC p φ ι n.toNat B (pcC p n T2 a b) + ι (φ t1) * z))) ∧ (∀ a z, LT ι n.toNat B z → vC p φ ι n.toNat B a = ι (φ t1) * z → ∀ l, 0 ≤ l → l < n → dgt p a l = 0) ∧ ∀ a, isN p n T1 a ↔ RAD (ι (φ t1)) (ι (φ t1) ^ 20) (LT ι n.toNat B) (vC p φ ι n.toNat B a)
theorem RNV.rab {O E : Type} [I : Lean.Grind.CommRing O] [J : Lean.Grind.CommRing E] {p n k : Int} {C : Int → Int → Int} {φ : (Int → Int) → O} {ι : O → E} {y : E} {fig : Int → Int → Int → Int} {dp : Int → Int} (v : RNV p n C φ ι y k fig dp) : RAB p n (tb1 p n C fig dp 0) (tb1 p n C fig dp 1) φ ι y (fun l => φ (C l)) (fun l => vE φ ι y n.toNat (bR fig l)) := ⟨⟨v.1, v.2.1, v.2.2.1, v.2.2.2.1⟩, v.lat, v.n4, v.ab, fun a z lz e => v.vz lz e, fun a => rnv_nil v a⟩
theorem z_add {E : Type} [J : Lean.Grind.CommRing E] (w : E) : 0 + w = w := by grind
theorem pcC_z {p n a b : Int} {T : Int → Int} (hp : isPr p) (hn : 0 ≤ n) (h : ∀ l, 0 ≤ l → l < n → dgt p (pcC p n T a b) l = 0) : pcC p n T a b = 0 := by
  have h2 := hp.two
  unfold pcC at h ⊢
  refine (cdF_z h2.1 (fun i => em_ge (by omega)) n.toNat 0).2.mpr (fun i i0 i1 => ?_)
  have cd := cdF_dgt (c := fun l => pdS p n T a b l % p) h2 (fun i => ⟨em_ge (by omega), em_lt (by omega)⟩) i.toNat n.toNat 0 (by omega)
  rw [show ((i.toNat : Nat) : Int) = i by omega, show (0 : Int) + i = i by omega] at cd
  exact cd.symm.trans (h i (by omega) (by omega))
/-- a multiple of a sum whose first digit, from above, is at m, as a class -/
theorem lead {O E : Type} [I : Lean.Grind.CommRing O] [J : Lean.Grind.CommRing E] {p n : Int} {φ : (Int → Int) → O} {ι : O → E} {y : E} {c : Int → O} {B : Int → E} (h : HMs p φ) (hp : isPr p) (hn : 2 ≤ n ∧ n ≤ 4) (A : ALG n.toNat c ι y) {s : Int → O} {m d : Int} {b : O} (m0 : 0 ≤ m) (m1 : m < n) (hd : ¬ p ∣ d) (es : s m = φ (nC d) + φ t1 * b) (hz : ∀ l, m < l → l < n → ∃ x, s l = φ t1 * x) : ∃ (bi a : Int) (z : E), pwI p m.toNat ≤ a ∧ a < 2 * pwI p m.toNat ∧ LT ι n.toNat B z ∧ ι (φ (nC bi)) * su n.toNat (fun l => ι (s l) * B l) = vC p φ ι n.toNat B a + ι (φ t1) * z := by
  have h2 := hp.two
  obtain ⟨bi, hbi⟩ := inv_dv hp hd
  have ex : ∀ l : Int, ∃ (e : Int) (x : O), φ (nC bi) * s l = φ (nC e) + φ t1 * x ∧ (0 ≤ e ∧ e < p) ∧ (l = m → e = 1) ∧ (m < l → l < n → e = 0) := fun l => by
    by_cases q : l = m
    · refine ⟨1, φ (nC bi) * b, ?_, by omega, fun _ => rfl, fun z => by omega⟩
      rw [q, es, show φ (nC bi) * (φ (nC d) + φ t1 * b) = φ (nC bi) * φ (nC d) + φ t1 * (φ (nC bi) * b) by grind, ← h.1.nC_mul, show bi * d = (d * bi - 1) + 1 by grind, h.1.nC_add, h.1.nC_dv hbi]
      grind
    · by_cases q2 : m < l ∧ l < n
      · obtain ⟨x, hx⟩ := hz l q2.1 q2.2
        refine ⟨0, φ (nC bi) * x, ?_, by omega, fun z => absurd z q, fun _ _ => rfl⟩
        rw [hx, h.1.nC_0]
        grind
      · obtain ⟨e, x, eb, ee⟩ := h.split (φ (nC bi) * s l)
        exact ⟨e, x, ee, eb, fun z => absurd z q, fun z1 z2 => absurd ⟨z1, z2⟩ q2⟩
  have fx : ∃ (e : Int → Int) (x : Int → O), ∀ l, φ (nC bi) * s l = φ (nC (e l)) + φ t1 * x l ∧ (0 ≤ e l ∧ e l < p) ∧ (l = m → e l = 1) ∧ (m < l → l < n → e l = 0) := ⟨fun l => Classical.choose (ex l), fun l => Classical.choose (Classical.choose_spec (ex l)), fun l => Classical.choose_spec (Classical.choose_spec (ex l))⟩
  obtain ⟨e, x, hex⟩ := fx
  have ci := code_in (c := e) h2 (fun i => (hex i).2.1) m0 m1 ((hex m).2.2.1 rfl) (fun i i0 i1 => (hex i).2.2.2 i0 i1)
  refine ⟨bi, cdF p e n.toNat 0, su n.toNat (fun l => ι (x l) * B l), ci.1, ci.2, ⟨_, rfl⟩, ?_⟩
  unfold vC
  rw [← su_mul, ← su_mul, ← su_add]
  refine su_congr fun l l0 l1 => ?_
  have cd := cdF_dgt (c := e) h2 (fun i => (hex i).2.1) l.toNat n.toNat 0 (by omega)
  rw [show ((l.toNat : Nat) : Int) = l by omega, show (0 : Int) + l = l by omega] at cd
  rw [cd, show ι (φ (nC bi)) * (ι (s l) * B l) = ι (φ (nC bi)) * ι (s l) * B l by grind, ← A.2.1, (hex l).1, A.1, A.2.1]
  grind
theorem RAB.vsub {O E : Type} [I : Lean.Grind.CommRing O] [J : Lean.Grind.CommRing E] {p : Int} {φ : (Int → Int) → O} {ι : O → E} {y : E} {n : Nat} {c : Int → O} {B : Int → E} (A : ALG n c ι y) (s : Int → O) (x : O) (a : Int) : su n (fun l => ι (s l) * B l) + - (ι x * vC p φ ι n B a) = su n (fun l => ι (s l - x * φ (nC (dgt p a l))) * B l) := by
  unfold vC
  rw [← su_mul, ← su_neg, ← su_add]
  exact su_congr fun l _ _ => by rw [A.isub, A.2.1]; grind
theorem rad_ind {O E : Type} [I : Lean.Grind.CommRing O] [J : Lean.Grind.CommRing E] {p n : Int} {T1 T2 : Int → Int} {φ : (Int → Int) → O} {ι : O → E} {y : E} {c : Int → O} {B : Int → E} (v : RAB p n T1 T2 φ ι y c B) {top : Int → Int} (ht : ∀ j, 0 ≤ j → j < n → fstP (isN p n T1) (pwI p j.toNat) (2 * pwI p j.toNat) (top j)) {Q : E → Prop} (qa : ∀ a b, Q a → Q b → Q (a + b)) (qs : ∀ x a, Q a → Q (ι x * a)) (qt : ∀ z, LT ι n.toNat B z → Q (ι (φ t1) * z)) (qc : ∀ j, 0 ≤ j → j < n → 0 ≤ top j → Q (vC p φ ι n.toNat B (top j))) : ∀ r, RAD (ι (φ t1)) (ι (φ t1) ^ 20) (LT ι n.toNat B) r → Q r := by
  obtain ⟨⟨h, hp, hn, A⟩, lat, n4, ab, vz, nil⟩ := v
  have claim : ∀ (m : Nat), (m : Int) ≤ n → ∀ s : Int → O, RAD (ι (φ t1)) (ι (φ t1) ^ 20) (LT ι n.toNat B) (su n.toNat (fun l => ι (s l) * B l)) → (∀ l, (m : Int) ≤ l → l < n → ∃ x, s l = φ t1 * x) → Q (su n.toNat (fun l => ι (s l) * B l)) := fun m => by
    induction m with
    | zero =>
      intro _ s hr hz
      have fx : ∃ x : Int → O, ∀ l, 0 ≤ l → l < n → s l = φ t1 * x l := by
        refine ⟨fun l => if q : 0 ≤ l ∧ l < n then Classical.choose (hz l (by omega) q.2) else 0, fun l l0 l1 => ?_⟩
        (try dsimp only)
        rw [dif_pos ⟨l0, l1⟩]
        exact Classical.choose_spec (hz l (by omega) l1)
      obtain ⟨x, hx⟩ := fx
      have := qt (su n.toNat (fun l => ι (x l) * B l)) ⟨_, rfl⟩
      rw [← su_mul] at this
      rw [su_congr (g := fun l => ι (φ t1) * (ι (x l) * B l)) (fun l l0 l1 => by rw [hx l l0 (by omega), A.2.1]; grind)]
      exact this
    | succ m ih =>
      intro hm s hr hz
      obtain ⟨d, b, db, es⟩ := h.split (s m)
      by_cases q : d = 0
      · refine ih (by omega) s hr (fun l l0 l1 => ?_)
        by_cases q2 : l = m
        · exact ⟨b, by rw [q2, es, q, h.1.nC_0]; grind⟩
        · exact hz l (by omega) l1
      · have nd : ¬ p ∣ d := fun z => by
          obtain ⟨w, hw⟩ := z
          have h2 := hp.two
          rcases (show w ≤ 0 ∨ 1 ≤ w by omega) with a | a
          · have := Int.mul_le_mul_of_nonneg_left a (show 0 ≤ p by omega)
            omega
          · have := Int.mul_le_mul_of_nonneg_left a (show 0 ≤ p by omega)
            omega
        obtain ⟨bi, a, z, a0, a1, lz, ea⟩ := lead (B := B) h hp hn A (by omega) (by omega) nd es (fun l l0 l1 => hz l (by omega) l1)
        have ra : RAD (ι (φ t1)) (ι (φ t1) ^ 20) (LT ι n.toNat B) (vC p φ ι n.toNat B a) := by
          have r1 := hr.sca lat (c := ι (φ (nC bi))) ⟨_, rfl⟩
          have r2 := RAD.tau lat (lat.neg lz)
          have := r1.add lat n4 r2
          rw [ea, show vC p φ ι n.toNat B a + ι (φ t1) * z + ι (φ t1) * -z = vC p φ ι n.toNat B a by grind] at this
          exact this
        have tm : 0 ≤ top m ∧ pwI p m ≤ top m ∧ top m < 2 * pwI p m ∧ isN p n T1 (top m) := by
          have f := ht m (by omega) (by omega)
          rw [show ((m : Int)).toNat = m by omega] at f a0 a1
          have w := (pwI_le hp.two.1 m 0).1
          rcases f with f | f
          · exact absurd ((nil a).mpr ra) (f.2 a a0 a1)
          · exact ⟨by omega, f.1, f.2.1, f.2.2.1⟩
        have dg := code_dg (j := m) (g := top m) hp.two (by omega) (by rw [show ((m : Int)).toNat = m by omega]; exact tm.2.1) (by rw [show ((m : Int)).toNat = m by omega]; exact tm.2.2.1)
        have rt := (nil (top m)).mp tm.2.2.2
        have e1 := RAB.vsub (p := p) (φ := φ) (B := B) A s (φ (nC d)) (top m)
        have r' : RAD (ι (φ t1)) (ι (φ t1) ^ 20) (LT ι n.toNat B) (su n.toNat (fun l => ι (s l - φ (nC d) * φ (nC (dgt p (top m) l))) * B l)) := by
          rw [← e1]
          have := hr.add lat n4 (rt.sca lat (c := ι (- φ (nC d))) ⟨_, rfl⟩)
          rw [A.ineg, show -ι (φ (nC d)) * vC p φ ι n.toNat B (top m) = - (ι (φ (nC d)) * vC p φ ι n.toNat B (top m)) by grind] at this
          exact this
        have q' := ih (by omega) (fun l => s l - φ (nC d) * φ (nC (dgt p (top m) l))) r' (fun l l0 l1 => by
          by_cases q2 : l = m
          · refine ⟨b, ?_⟩
            (try dsimp only)
            rw [q2, dg.1, es, h.1.nC_1]
            grind
          · obtain ⟨x, hx⟩ := hz l (by omega) l1
            refine ⟨x, ?_⟩
            (try dsimp only)
            rw [dg.2 l (by omega), hx, h.1.nC_0]
            grind)
        (try dsimp only at q')
        rw [← e1] at q'
        have := qa _ _ q' (qs (φ (nC d)) _ (qc m (by omega) (by omega) tm.1))
        rw [show su n.toNat (fun l => ι (s l) * B l) + - (ι (φ (nC d)) * vC p φ ι n.toNat B (top m)) + ι (φ (nC d)) * vC p φ ι n.toNat B (top m) = su n.toNat (fun l => ι (s l) * B l) by grind] at this
        exact this
  intro r hr
  have hr' := hr
  obtain ⟨⟨s, rfl⟩, -⟩ := hr'
  exact claim n.toNat (by omega) s hr (fun l l0 l1 => by omega)
theorem kp_mul {O E : Type} [I : Lean.Grind.CommRing O] [J : Lean.Grind.CommRing E] {p n : Int} {T1 T2 : Int → Int} {φ : (Int → Int) → O} {ι : O → E} {y : E} {c : Int → O} {B : Int → E} (v : RAB p n T1 T2 φ ι y c B) {top : Int → Int} (ht : ∀ j, 0 ≤ j → j < n → fstP (isN p n T1) (pwI p j.toNat) (2 * pwI p j.toNat) (top j)) (a : Int) : kpR p n T1 T2 (isN p n T1) top a ↔ MUL (ι (φ t1)) (ι (φ t1) ^ 20) (LT ι n.toNat B) (vC p φ ι n.toNat B a) := by
  have v' := v
  obtain ⟨⟨h, hp, hn, A⟩, lat, n4, ab, vz, nil⟩ := v
  have v0 := vC_0 (B := B) h A
  have lv : ∀ a, LT ι n.toNat B (vC p φ ι n.toNat B a) := fun a => ⟨_, rfl⟩
  constructor
  · rintro ⟨na, hk⟩
    have ra := (nil a).mp na
    refine ⟨ra, rad_ind v' ht (fun x z hx hz => ?_) (fun x z hz => ?_) (fun z lz => ?_) (fun j j0 j1 hj => ?_)⟩
    · obtain ⟨g, hg, eg⟩ := hx
      obtain ⟨w, hw, ew⟩ := hz
      refine ⟨g + w, hg.add lat n4 hw, ?_⟩
      rw [show vC p φ ι n.toNat B a * (x + z) = vC p φ ι n.toNat B a * x + vC p φ ι n.toNat B a * z by clear eg ew; grind, eg, ew]
      clear eg ew
      grind
    · obtain ⟨g, hg, eg⟩ := hz
      refine ⟨ι x * g, hg.sca lat ⟨_, rfl⟩, ?_⟩
      rw [show vC p φ ι n.toNat B a * (ι x * z) = ι x * (vC p φ ι n.toNat B a * z) by clear eg; grind, eg]
      clear eg
      grind
    · obtain ⟨g, lg, eg⟩ := lat.2.2.2.1 _ _ (lv a) lz
      refine ⟨g, ra.mul lat lz lg eg, ?_⟩
      rw [show vC p φ ι n.toNat B a * (ι (φ t1) * z) = ι (φ t1) * (vC p φ ι n.toNat B a * z) by clear eg; grind, eg]
      clear eg
      grind
    · obtain ⟨z, lz, ez⟩ := ab a (top j)
      obtain ⟨k1, k2⟩ := hk j j0 j1 hj
      refine ⟨_, ((nil _).mp k2).add lat n4 (RAD.tau lat lz), ?_⟩
      rw [ez, k1, v0]
      grind
  · rintro ⟨ra, hm⟩
    refine ⟨(nil a).mpr ra, fun j j0 j1 hj => ?_⟩
    have nt : isN p n T1 (top j) := by
      rcases ht j j0 j1 with f | f
      · omega
      · exact f.2.2.1
    obtain ⟨g, hg, eg⟩ := hm _ ((nil _).mp nt)
    obtain ⟨z, lz, ez⟩ := ab a (top j)
    have e1 := lat.canT 1 (show (ι (φ t1) ^ 20) ^ 1 * (vC p φ ι n.toNat B (pcC p n T1 a (top j)) + ι (φ t1) * (vC p φ ι n.toNat B (pcC p n T2 a (top j)) + ι (φ t1) * z)) = (ι (φ t1) ^ 20) ^ 1 * (ι (φ t1) * g) by rw [show (ι (φ t1) ^ 20) ^ 1 = ι (φ t1) ^ 20 by grind, ← ez, eg])
    have e2 : vC p φ ι n.toNat B (pcC p n T1 a (top j)) = ι (φ t1) * (g + - (vC p φ ι n.toNat B (pcC p n T2 a (top j)) + ι (φ t1) * z)) := by
      rw [show ι (φ t1) * (g + - (vC p φ ι n.toNat B (pcC p n T2 a (top j)) + ι (φ t1) * z)) = ι (φ t1) * g - ι (φ t1) * (vC p φ ι n.toNat B (pcC p n T2 a (top j)) + ι (φ t1) * z) by clear e1 ez eg; grind, ← e1]
      clear e1 ez eg
      grind
    have x0 : pcC p n T1 a (top j) = 0 := pcC_z hp (by omega) (vz _ _ (lat.1 _ _ hg.1 (lat.neg (lat.1 _ _ (lv _) (lat.2.1 _ _ lat.2.2.2.2.2.1.1 lz)))) e2)
    refine ⟨x0, (nil _).mpr ?_⟩
    rw [x0, v0, z_add] at e1
    have e3 := lat.2.2.2.2.2.2.1 _ _ e1
    clear ez eg e1 e2 x0
    have := hg.add lat n4 (RAD.tau lat (lat.neg lz))
    rw [← e3, show vC p φ ι n.toNat B (pcC p n T2 a (top j)) + ι (φ t1) * z + ι (φ t1) * -z = vC p φ ι n.toNat B (pcC p n T2 a (top j)) by grind] at this
    exact this
