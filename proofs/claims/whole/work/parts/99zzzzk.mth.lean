/-! What is to be shown of rings holds where the discriminant is not 0. -/
theorem dsM_bd {p n : Int} {E : Int → Int → Int} (hp : 2 ≤ p) (x : Int) : 0 ≤ dsM p n E x ∧ dsM p n E x < p := by
  unfold dsM
  split
  · exact ⟨em_ge (by omega), em_lt (by omega)⟩
  · exact bkQ_bd hp _ _ _
theorem env_ex {p n : Int} (hp : isPr p) (hn : 2 ≤ n ∧ n ≤ 4) (C : Int → Int → Int) : ∃ (O : Type) (I : Lean.Grind.CommRing O) (φ : (Int → Int) → O) (E : Type) (J : Lean.Grind.CommRing E) (ι : O → E) (y : E), HMs p φ ∧ ALG n.toNat (fun l => φ (C l)) ι y := by
  obtain ⟨O, I, φ, h⟩ := hms_ex hp.two.1
  rcases (show n = 2 ∨ n = 3 ∨ n = 4 by omega) with rfl | rfl | rfl
  · obtain ⟨E, J, ι, y, a⟩ := alg_ex2 (fun l => φ (C l))
    exact ⟨O, I, φ, E, J, ι, y, h, a⟩
  · obtain ⟨E, J, ι, y, a⟩ := alg_ex3 (fun l => φ (C l))
    exact ⟨O, I, φ, E, J, ι, y, h, a⟩
  · obtain ⟨E, J, ι, y, a⟩ := alg_ex4 (fun l => φ (C l))
    exact ⟨O, I, φ, E, J, ι, y, h, a⟩
theorem sm_nn {n : Nat} {f : Int → Int} (h : ∀ i : Int, 0 ≤ i → i < n → 0 ≤ f i) : 0 ≤ sm n f := by
  induction n with
  | zero => exact Int.le_refl 0
  | succ n ih =>
    have a := ih (fun i i0 i1 => h i i0 (by omega))
    have b := h n (by omega) (by omega)
    rw [sm_succ]
    omega
theorem sm_one_le {n : Nat} {f : Int → Int} {j : Int} (j0 : 0 ≤ j) (j1 : j < n) (h : ∀ i : Int, 0 ≤ i → i < n → 0 ≤ f i) : f j ≤ sm n f := by
  induction n with
  | zero => omega
  | succ n ih =>
    rw [sm_succ]
    have b := h n (by omega) (by omega)
    by_cases q : j = n
    · have a := sm_nn (fun i i0 i1 => h i i0 (show i < ((n + 1 : Nat) : Int) by omega)) (n := n)
      rw [q]
      omega
    · have a := ih (by omega) (fun i i0 i1 => h i i0 (by omega))
      omega
/-- each step gains -/
theorem chain_ls {p n L : Int} {C : Int → Int → Int} {fK : Int → Int → Int → Int → Int} {dK : Int → Int → Int} (pch : PCH p n C fK dK L) : ∀ k : Nat, (k : Int) ≤ L → (k : Int) ≤ lsF n (dK k)
  | 0, _ => by
    unfold lsF
    have z : sm n.toNat (dK 0) = 0 := sm_zeros (fun i i0 i1 => pch.2.1 i i0 (by omega))
    rw [show ((0 : Nat) : Int) = 0 from rfl, z]
    exact Int.le_refl 0
  | k + 1, hk => by
    have ih := chain_ls pch k (by omega)
    obtain ⟨top, g, gn, ⟨j, j0, j1, gj⟩, nx⟩ := pch.2.2 k (by omega) (by omega)
    have e : lsF n (dK ((k : Int) + 1)) = lsF n (dK k) + sm n.toNat (fun j => gbF (g j)) := by
      unfold lsF
      rw [← sm_add]
      exact sm_congr fun i i0 i1 => (nx i i0 (by omega)).1
    have o := sm_one_le (f := fun j => gbF (g j)) (n := n.toNat) j0 (by omega) (fun i _ _ => by
      rcases gbF_or (g i) with q | q <;> rw [q] <;> omega)
    rw [show gbF (g j) = 1 from if_pos gj] at o
    rw [show ((k + 1 : Nat) : Int) = (k : Int) + 1 by omega, e]
    omega
theorem lost_18 {p n : Int} {C P : Int → Int → Int} (hp : isPr p) (hn : 2 ≤ n ∧ n ≤ 4) (zC : ∀ j x, x < 0 → C j x = 0) (hP : NW p n C P) (hd : ∃ x, 0 ≤ x ∧ x ≤ 36 ∧ dsM p n (trE n P) x ≠ 0) {L : Int} {fK : Int → Int → Int → Int → Int} {dK : Int → Int → Int} (hL : L ≤ 19) (pch : PCH p n C fK dK L) (k : Nat) (hk : (k : Int) ≤ L) : lsF n (dK k) ≤ 18 := by
  obtain ⟨O, I, φ, E, J, ι, y, h, A⟩ := env_ex hp hn C
  obtain ⟨z, hz⟩ := (chain_rst h hp hn A hL pch k hk).lost zC hP
  obtain ⟨x, x0, x1, xn⟩ := hd
  refine Classical.byContradiction (fun q => xn ?_)
  have := h.low _ hz x x0 (by omega)
  have b := dsM_bd (p := p) (n := n) (E := trE n P) hp.two.1 x
  rw [em_id b.1 b.2] at this
  exact this
theorem MTH_ok {p n : Int} {C P : Int → Int → Int} (hp : isPr p) (hn : 2 ≤ n ∧ n ≤ 4) (zC : ∀ j x, x < 0 → C j x = 0) (hP : NW p n C P) (hd : ∃ x, 0 ≤ x ∧ x ≤ 36 ∧ dsM p n (trE n P) x ≠ 0) : MTH p n C := by
  intro fK dK L L0 L19 pch
  obtain ⟨O, I, φ, E, J, ι, y, h, A⟩ := env_ex hp hn C
  have v := chain_rst h hp hn A L19 pch L.toNat (by omega)
  rw [show ((L.toNat : Nat) : Int) = L by omega] at v
  have l1 := chain_ls pch L.toNat (by omega)
  have l2 := lost_18 hp hn zC hP hd L19 pch L.toNat (by omega)
  rw [show ((L.toNat : Nat) : Int) = L by omega] at l1 l2
  refine ⟨by omega, v.2.2.2.2.2.1, fun i j i0 i1 j0 j1 => (v.pr i0 i1 j0 j1).1, fun w w0 w1 => line_ok v w0 w1, fun top g gn j j0 j1 => ?_⟩
  have r := v.2.2.2.2.2
  have b := r.1.1 j j0 j1
  have dl : dK L j ≤ L := Classical.byContradiction (fun q => by
    have e1 := r.1.2.1 j (dK L j) j0 j1 b.1 b.2
    rw [if_pos rfl, r.2.2.2.1 j j (dK L j) j0 j1 j0 (by omega) (by omega) b.2] at e1
    omega)
  rcases gbF_or (g j) with q | q <;> rw [q] <;> omega
