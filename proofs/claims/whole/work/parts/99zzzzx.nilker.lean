/-! The class's nil is the radical. -/
theorem fr2_a {E : Type} [J : Lean.Grind.CommRing E] (X c t z r G : E) : X * (c + t * z) + t * r * (X * G) = X * (c + t * (z + r * G)) := by grind
theorem cl_fr2 {O E : Type} [I : Lean.Grind.CommRing O] [J : Lean.Grind.CommRing E] {p n k : Int} {C : Int → Int → Int} {φ : (Int → Int) → O} {ι : O → E} {y : E} {fig : Int → Int → Int → Int} {dp : Int → Int} (v : RNV p n C φ ι y k fig dp) {low pw : Int → Int} (hl : ∀ i j l, 0 ≤ i → i < n → 0 ≤ j → j < n → 0 ≤ l → l < n → low ((4 * i + j) * 4 + l) = tb1 p n C fig dp 0 ((4 * i + j) * 4 + l)) (hw : ∀ l j, 0 ≤ l → l < n → 0 ≤ j → j < n → pw (4 * l + j) = pwC p n low j (p - 1).toNat l) (x : Int → Int) : ∃ z, LT ι n.toNat (fun l => vE φ ι y n.toNat (bR fig l)) z ∧ (clE φ ι n.toNat (fun l => vE φ ι y n.toNat (bR fig l)) x ^ p.toNat) ^ p.toNat = ((ι (φ t1) ^ 20) ^ (p - 1).toNat) ^ p.toNat * ((ι (φ t1) ^ 20) ^ (p - 1).toNat * (clE φ ι n.toNat (fun l => vE φ ι y n.toNat (bR fig l)) (fun l => dot n pw l (fun l => dot n pw l x)) + ι (φ t1) * z)) := by
  have hp := v.2.1.two
  have A := v.2.2.2.1
  obtain ⟨z, lz, ez⟩ := cl_fr v hl hw x
  obtain ⟨z2, l2, e2⟩ := cl_fr v hl hw (fun l => dot n pw l x)
  obtain ⟨G, hG, -⟩ := pow_ex v.lat lz
  have g := (hG p.toNat).2
  have lg := (hG p.toNat).1
  generalize G ((p.toNat : Nat) : Int) = g0 at g lg
  have e3 : z ^ p.toNat = (ι (φ t1) ^ 20) ^ (p - 1).toNat * g0 := by
    refine v.lat.canT 1 ?_
    rw [show p.toNat = (p - 1).toNat + 1 by omega, Lean.Grind.Semiring.pow_succ (ι (φ t1) ^ 20)] at g
    rw [show p.toNat = (p - 1).toNat + 1 by omega, show (ι (φ t1) ^ 20) ^ 1 * z ^ ((p - 1).toNat + 1) = (ι (φ t1) ^ 20) * z ^ ((p - 1).toNat + 1) by clear g; grind, g]
    clear g
    grind
  refine ⟨z2 + ι (φ t1 ^ (p - 1).toNat) * g0, LT.add A l2 (LT.sca A _ lg), ?_⟩
  have e4 : ι (φ t1) ^ p.toNat = ι (φ t1) * ι (φ t1 ^ (p - 1).toNat) := by
    rw [A.ipow, show p.toNat = (p - 1).toNat + 1 by omega, Lean.Grind.Semiring.pow_succ]
    exact comm_E _ _
  rw [ez, mul_pw, frb v.1.1 A v.2.1, e2, mul_pw, e3, e4]
  exact congrArg (fun w => ((ι (φ t1) ^ 20) ^ (p - 1).toNat) ^ p.toNat * w) (fr2_a _ _ _ _ _ _)
theorem dot_sq {p n : Int} {pw x : Int → Int} (hn : 2 ≤ n ∧ n ≤ 4) {r : Int} (r0 : 0 ≤ r) (r1 : r < n) (hq : p < n) : p ∣ dot n (nilE p n pw) r x ↔ p ∣ dot n pw r (fun l => dot n pw l x) := by
  have e : dot n pw r (fun l => dot n pw l x) = sm n.toNat (fun i => sm n.toNat (fun l => pw (4 * r + l) * pw (4 * l + i)) * x i) := by
    unfold dot
    rw [sm_congr (g := fun l => sm n.toNat (fun i => pw (4 * r + l) * pw (4 * l + i) * x i)) (fun l _ _ => by
      (try dsimp only)
      rw [← sm_mul]
      exact sm_congr fun i _ _ => by grind), sm_swap]
    refine sm_congr fun i _ _ => ?_
    rw [Int.mul_comm (sm n.toNat _), ← sm_mul]
    exact sm_congr fun l _ _ => by grind
  have d : p ∣ dot n (nilE p n pw) r x - dot n pw r (fun l => dot n pw l x) := by
    rw [e]
    unfold dot
    refine sm_dvd fun i i0 i1 => ?_
    have sq : nilE p n pw (4 * r + i) = sm n.toNat (fun l => pw (4 * r + l) * pw (4 * l + i)) % p := by
      unfold nilE
      rw [if_pos hq]
      unfold sqM
      rw [if_pos (by unfold sqI; omega), show (4 * r + i) / 4 = r by omega, show (4 * r + i) % 4 = i by omega]
    rw [sq]
    generalize sm n.toNat (fun l => pw (4 * r + l) * pw (4 * l + i)) = s
    rw [← Int.sub_mul]
    refine dvdL ?_ _
    have := Int.emod_add_mul_ediv s p
    exact ⟨- (s / p), by grind⟩
  have f := Int.dvd_iff_dvd_of_dvd_sub d
  exact f
/-- THE CLASS'S NIL -/
theorem nil_ker {O E : Type} [I : Lean.Grind.CommRing O] [J : Lean.Grind.CommRing E] {p n k : Int} {C : Int → Int → Int} {φ : (Int → Int) → O} {ι : O → E} {y : E} {fig : Int → Int → Int → Int} {dp : Int → Int} (v : RNV p n C φ ι y k fig dp) {low pw : Int → Int} (hl : ∀ i j l, 0 ≤ i → i < n → 0 ≤ j → j < n → 0 ≤ l → l < n → low ((4 * i + j) * 4 + l) = tb1 p n C fig dp 0 ((4 * i + j) * 4 + l)) (hw : ∀ l j, 0 ≤ l → l < n → 0 ≤ j → j < n → pw (4 * l + j) = pwC p n low j (p - 1).toNat l) (x : Int → Int) : ker p n n (nilE p n pw) x ↔ RAD (ι (φ t1)) (ι (φ t1) ^ 20) (LT ι n.toNat (fun l => vE φ ι y n.toNat (bR fig l))) (clE φ ι n.toNat (fun l => vE φ ι y n.toNat (bR fig l)) x) := by
  have hn := v.2.2.1
  have hp := v.2.1.two
  have lx : LT ι n.toNat (fun l => vE φ ι y n.toNat (bR fig l)) (clE φ ι n.toNat (fun l => vE φ ι y n.toNat (bR fig l)) x) := ⟨_, rfl⟩
  by_cases q : p < n
  · have kk : ker p n n (nilE p n pw) x ↔ ∀ l, 0 ≤ l → l < n → p ∣ dot n pw l (fun l => dot n pw l x) := ⟨fun a l l0 l1 => (dot_sq hn l0 l1 q).mp (a l l0 l1), fun a l l0 l1 => (dot_sq hn l0 l1 q).mpr (a l l0 l1)⟩
    rw [kk]
    obtain ⟨z, lz, ez⟩ := cl_fr2 v hl hw x
    generalize clE φ ι n.toNat (fun l => vE φ ι y n.toNat (bR fig l)) x = e at *
    have pp : p = 2 ∨ p = 3 := by
      rcases v.2.1 with r | r | r | r <;> omega
    rcases pp with r | r
    · refine nil_core v (N := 3) (by omega) lx ⟨z, lz, ?_⟩
      rw [show p.toNat = 2 by omega, show (p - 1).toNat = 1 by omega] at ez
      rw [show e ^ (3 + 1) = (e ^ 2) ^ 2 by clear ez; grind, ez]
      clear ez
      grind
    · refine nil_core v (N := 8) (by omega) lx ⟨z, lz, ?_⟩
      rw [show p.toNat = 3 by omega, show (p - 1).toNat = 2 by omega] at ez
      rw [show e ^ (8 + 1) = (e ^ 3) ^ 3 by clear ez; grind, ez]
      clear ez
      grind
  · have e : nilE p n pw = pw := funext fun i => if_neg q
    rw [e]
    obtain ⟨z, lz, ez⟩ := cl_fr v hl hw x
    refine nil_core v (N := (p - 1).toNat) (by omega) lx ⟨z, lz, ?_⟩
    rw [show (p - 1).toNat + 1 = p.toNat by omega]
    exact ez
