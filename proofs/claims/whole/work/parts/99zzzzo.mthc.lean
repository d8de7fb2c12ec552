/-! Rings of a curve at each place; orders. -/
theorem top_ex {f : Int → Int} : ∀ (M : Nat), (∃ x : Int, 0 ≤ x ∧ f x ≠ 0) → (∀ x : Int, (M : Int) < x → f x = 0) → ∃ T : Int, 0 ≤ T ∧ T ≤ (M : Int) ∧ f T ≠ 0 ∧ ∀ x : Int, T < x → f x = 0
  | 0, ⟨x, x0, xn⟩, z => ⟨0, by omega, by omega, by
    by_cases q : x = 0
    · rw [q] at xn
      exact xn
    · exact absurd (z x (by omega)) xn, fun y hy => z y (by omega)⟩
  | M + 1, ex, z => by
    by_cases q : f ((M : Int) + 1) = 0
    · obtain ⟨T, a, b, c, d⟩ := top_ex M ex (fun x hx => by
        by_cases q2 : x = (M : Int) + 1
        · rw [q2]
          exact q
        · exact z x (by omega))
      exact ⟨T, a, by omega, c, d⟩
    · exact ⟨(M : Int) + 1, by omega, by omega, q, fun y hy => z y (by omega)⟩
theorem mvC_shf {p n c : Int} {F : Int → Int} (hp : 0 < p) {l : Int} (l0 : 0 ≤ l) (l1 : l < n) : cfF (mvC p c F) n l = shf p c 6 (cfF F n l) := funext fun i => by
  have z0 : ∀ x, x < 0 → cfF F n l x = 0 := fun x hx => if_neg (by omega)
  have z1 : ∀ x, 6 < x → cfF F n l x = 0 := fun x hx => if_neg (by omega)
  by_cases q : 0 ≤ i ∧ i < 7
  · rw [show cfF (mvC p c F) n l i = mvC p c F (7 * l + i) from if_pos ⟨l0, l1, q.1, q.2⟩]
    unfold mvC
    rw [show (7 * l + i) % 7 = i by omega, show (7 * l + i) / 7 = l by omega]
    show mvN p c 6 6 _ i = mvN p c 6 6 (cfF F n l) i
    congr 1
    refine funext fun x => ?_
    unfold cfF
    by_cases q2 : 0 ≤ x ∧ x < 7
    · rw [if_pos q2, if_pos ⟨l0, l1, q2.1, q2.2⟩]
    · rw [if_neg q2, if_neg (by omega)]
  · rw [show cfF (mvC p c F) n l i = 0 from if_neg (by omega)]
    by_cases q2 : i < 0
    · exact (mvN_neg z0 _ i q2).symm
    · exact (mvN_top z1 _ i (by omega) (by decide)).symm
/-- what is known of a curve's polynomial: its traces, its discriminant -/
def CVQ (p n : Int) (F : Int → Int) (P : Int → Int → Int) : Prop := isPr p ∧ (2 ≤ n ∧ n ≤ 4) ∧ (∀ e, 0 ≤ F e ∧ F e < p) ∧ NW p n (cfF F n) P ∧ (∀ k x, 6 * k < x → P k x = 0) ∧ (∀ k x, x < 0 → P k x = 0) ∧ (∀ x, (x < 0 ∨ 36 < x) → dsM p n (trE n P) x = 0) ∧ ∃ x, 0 ≤ x ∧ dsM p n (trE n P) x ≠ 0
theorem CVQ.mv {p n : Int} {F : Int → Int} {P : Int → Int → Int} (q : CVQ p n F P) (c : Int) : ∃ Pc, NW p n (cfF (mvC p c F) n) Pc ∧ ∀ x, 0 ≤ x → dsM p n (trE n Pc) x = shf p c 199 (dsM p n (trE n P)) x := by
  obtain ⟨hp, hn, bF, hP, dP, nP, dD, ex⟩ := q
  have h2 := hp.two
  obtain ⟨Pc, hPc⟩ := NW_ex p n (cfF (mvC p c F) n)
  refine ⟨Pc, hPc, fun x x0 => ds_mv (C := cfF F n) (c := c) hp hn (fun j x hx => if_neg (by omega)) (fun j x hx => if_neg (by omega)) (fun l l0 l1 => mvC_shf (by omega) l0 l1) (fun l x l0 l1 hx => if_neg (by omega)) dP nP hP hPc (fun x hx => dD x (by omega)) x x0⟩
theorem CVQ.nz {p n : Int} {F : Int → Int} {P Pc : Int → Int → Int} (q : CVQ p n F P) {c : Int} (e : ∀ x, 0 ≤ x → dsM p n (trE n Pc) x = shf p c 199 (dsM p n (trE n P)) x) : ∃ x, 0 ≤ x ∧ x ≤ 36 ∧ dsM p n (trE n Pc) x ≠ 0 := by
  obtain ⟨hp, hn, bF, hP, dP, nP, dD, ex⟩ := q
  have h2 := hp.two
  obtain ⟨T, T0, T1, tn, tz⟩ := top_ex 36 ex (fun x hx => dD x (Or.inr (by omega)))
  refine ⟨T, T0, by omega, ?_⟩
  rw [e T T0, shf_T (T := T) (T' := 199) (by omega) (fun i => dsM_bd h2.1 i) tz (by omega)]
  unfold shf
  rw [mvN_T (by omega) (fun i => dsM_bd h2.1 i) T0 T.toNat (by omega)]
  exact tn
theorem CVQ.mth {p n : Int} {F : Int → Int} {P : Int → Int → Int} (q : CVQ p n F P) (c : Int) : MTH p n (cfF (mvC p c F) n) := by
  obtain ⟨Pc, hPc, e⟩ := q.mv c
  exact MTH_ok q.1 q.2.1 (fun j x hx => if_neg (by omega)) hPc (q.nz e)
theorem mvN_low {p c T : Int} {P : Int → Int} {j : Nat} : ∀ k : Nat, mvN p c T (j + 1 + k) P j = mvN p c T (j + 1) P j
  | 0 => rfl
  | k + 1 => by
    show mvp p c T ((j + 1 + k : Nat) : Int) (mvN p c T (j + 1 + k) P) j = _
    unfold mvp
    rw [if_pos (by omega)]
    exact mvN_low k
theorem qd_sh {p c T : Int} {P : Int → Int} : ∀ k : Nat, qd p c P T k = qd p c (fun i => P (i + 1)) (T - 1) k
  | 0 => rfl
  | k + 1 => by
    show (P (T - k) + c * qd p c P T k) % p = (P (T - 1 - k + 1) + c * qd p c (fun i => P (i + 1)) (T - 1) k) % p
    rw [qd_sh k, show T - 1 - (k : Int) + 1 = T - k by omega]
theorem shf_01 {p c T : Int} {P : Int → Int} (hT : 2 ≤ T) : shf p c T P 0 = qr p c P T (-1) ∧ shf p c T P 1 = qr p c (dv1 p c T P) T (-1) := by
  have a : shf p c T P 0 = mvN p c T 1 P 0 := by
    have := mvN_low (p := p) (c := c) (T := T) (P := P) (j := 0) (T.toNat - 1)
    rw [show 0 + 1 + (T.toNat - 1) = T.toNat by omega] at this
    exact this
  have b : shf p c T P 1 = mvN p c T 2 P 1 := by
    have := mvN_low (p := p) (c := c) (T := T) (P := P) (j := 1) (T.toNat - 2)
    rw [show 1 + 1 + (T.toNat - 2) = T.toNat by omega] at this
    exact this
  refine ⟨a, ?_⟩
  rw [b]
  show qr p c (mvN p c T 1 P) T 0 = _
  have e1 : qr p c (mvN p c T 1 P) T 0 = qr p c (fun i => mvN p c T 1 P (i + 1)) (T - 1) (-1) := by
    unfold qr
    rw [qd_sh, show (T - 1 - -1).toNat = (T - 0).toNat by omega]
  rw [e1, qr_congr (R := dv1 p c T P) (fun j j0 j1 => by
    show mvN p c T 1 P (j + 1) = if j < 0 then 0 else qr p c P T j
    rw [if_neg (by omega)]
    show (if j + 1 < ((0 : Nat) : Int) then P (j + 1) else qr p c P T (j + 1 - 1)) = _
    rw [if_neg (by omega), show j + 1 - 1 = j by omega])]
  exact (qr_T (P := dv1 p c T P) (T := T - 1) (T' := T) (fun i hi => by
    unfold dv1
    split
    · rfl
    · exact qr_top (by omega)) (by omega) (-1)).symm
theorem rtN_nn {p c T : Int} : ∀ (k : Nat) (P : Int → Int), 0 ≤ rtN p c T k P
  | 0, _ => Int.le_refl 0
  | k + 1, P => by
    show 0 ≤ if qr p c P T (-1) = 0 then 1 + rtN p c T k (dv1 p c T P) else 0
    have := rtN_nn (p := p) (c := c) (T := T) k (dv1 p c T P)
    split <;> omega
/-- where a ring gains, x - c divides the discriminant twice -/
theorem CVQ.two {p n : Int} {F : Int → Int} {P : Int → Int → Int} (q : CVQ p n F P) {c : Int} {fK : Int → Int → Int → Int → Int} {dK : Int → Int → Int} (pch : PCH p n (cfF (mvC p c F) n) fK dK 1) : 2 ≤ rtN p c 199 200 (dsM p n (trE n P)) := by
  obtain ⟨Pc, hPc, e⟩ := q.mv c
  obtain ⟨hp, hn, bF, hP, dP, nP, dD, ex⟩ := q
  obtain ⟨O, I, φ, E, J, ι, y, h, A⟩ := env_ex hp hn (cfF (mvC p c F) n)
  obtain ⟨z, hz⟩ := (chain_rst h hp hn A (by omega) pch 1 (by omega)).lost (fun j x hx => if_neg (by omega)) hPc
  have l1 := chain_ls pch 1 (by omega)
  have zero : ∀ x, 0 ≤ x → x < 2 → shf p c 199 (dsM p n (trE n P)) x = 0 := fun x x0 x1 => by
    rw [← e x x0]
    have := h.low _ hz x x0 (by omega)
    have b := dsM_bd (p := p) (n := n) (E := trE n Pc) hp.two.1 x
    rw [em_id b.1 b.2] at this
    exact this
  have s := shf_01 (p := p) (c := c) (T := 199) (P := dsM p n (trE n P)) (by decide)
  rw [zero 0 (by omega) (by omega)] at s
  rw [zero 1 (by omega) (by omega)] at s
  show 2 ≤ if qr p c (dsM p n (trE n P)) 199 (-1) = 0 then 1 + (if qr p c (dv1 p c 199 (dsM p n (trE n P))) 199 (-1) = 0 then 1 + rtN p c 199 198 (dv1 p c 199 (dv1 p c 199 (dsM p n (trE n P)))) else 0) else 0
  rw [if_pos s.1.symm, if_pos s.2.symm]
  have := rtN_nn (p := p) (c := c) (T := 199) 198 (dv1 p c 199 (dv1 p c 199 (dsM p n (trE n P))))
  omega
