/-! A curve that was taken: what its traces and its discriminant are. -/
theorem bkQ_neg {p : Int} {E : Int → Int → Int} {x : Int} (hx : x < 0) : ∀ (r : Nat) (i : Int), bkQ p E r i x = 0
  | 0, i => if_neg (by omega)
  | r + 1, i => by
    show (if 0 ≤ i ∧ i ≤ (r : Int) + 1 then sm (min i r + 1).toNat (fun k => cnv (bkH p r E (i - k)) (bkQ p E r k) x) % p else 0) = 0
    split
    · rw [sm_zeros (fun k _ _ => cnv_neg hx)]
      rfl
    · rfl
theorem dsM_neg {p n : Int} {E : Int → Int → Int} {x : Int} (hx : x < 0) : dsM p n E x = 0 := by
  unfold dsM
  rw [bkQ_neg hx]
  split <;> rfl
/-- traces, none but those that count -/
def nwX (n : Int) (P : Int → Int → Int) : Int → Int → Int := fun k x => if 0 ≤ k ∧ k ≤ 2 * n - 2 then P k x else 0
theorem nwX_ok {p n : Int} {C P : Int → Int → Int} (h : NW p n C P) : NW p n C (nwX n P) := fun k k0 k1 x => by
  rw [nwV_congr (P := nwX n P) (R := P) (fun j j0 j1 i => if_pos ⟨j0, by omega⟩)]
  exact (if_pos ⟨k0, k1⟩).trans (h k k0 k1 x)
theorem NW.neg {p n : Int} {C P : Int → Int → Int} (h : NW p n C P) (zC : ∀ j x, x < 0 → C j x = 0) (k x : Int) (k0 : 0 ≤ k) (k1 : k ≤ 2 * n - 2) (hx : x < 0) : P k x = 0 := by
  rw [h k k0 k1 x]
  unfold nwV
  rw [sm_zeros (fun i _ _ => cnv_neg hx), zC _ x hx, if_neg (show ¬ x = 0 by omega)]
  split
  · rfl
  · split
    · rw [Int.mul_zero]; rfl
    · rfl
theorem cvq_of {p n : Int} {F : Int → Int} {P G : Int → Int → Int} (hp : isPr p) (hn : 2 ≤ n ∧ n ≤ 4) (bF : ∀ e, 0 ≤ F e ∧ F e < p) (hP : NW p n (cfF F n) P) (hG : MN p n (fun e => P (e / 4 + e % 4)) G) (dG : ∀ x, 36 < x → dscF p n G x = 0) (ex : ∃ x, 0 ≤ x ∧ dscF p n G x ≠ 0) : CVQ p n F (nwX n P) ∧ ∀ x, 0 ≤ x → dscF p n G x = dsM p n (trE n (nwX n P)) x := by
  have h2 := hp.two
  have e : ∀ x, 0 ≤ x → dscF p n G x = dsM p n (trE n (nwX n P)) x := fun x x0 => disc_eq (by omega) hn hP hG (nwX_ok hP) x x0
  refine ⟨⟨hp, hn, bF, nwX_ok hP, fun k x hx => ?_, fun k x hx => ?_, fun x hx => ?_, ?_⟩, e⟩
  · unfold nwX
    split
    · rename_i q
      exact hP.deg (w := 6) (by omega) (fun i i0 i1 x hx => if_neg (by omega)) k q.1 q.2 x hx
    · rfl
  · unfold nwX
    split
    · rename_i q
      exact hP.neg (fun j x hx => if_neg (by omega)) k x q.1 q.2 hx
    · rfl
  · by_cases q : x < 0
    · exact dsM_neg q
    · rw [← e x (by omega)]
      exact dG x (by omega)
  · obtain ⟨x, x0, xn⟩ := ex
    exact ⟨x, x0, by rw [← e x x0]; exact xn⟩
/-- the traces do not matter -/
theorem CVQ.ds {p n : Int} {F : Int → Int} {P R : Int → Int → Int} (q : CVQ p n F P) (hR : NW p n (cfF F n) R) (x : Int) : dsM p n (trE n P) x = dsM p n (trE n R) x := by
  have e : trE n P = trE n R := funext fun e => funext fun y => by
    unfold trE
    split
    · exact q.2.2.2.1.uniq hR _ (by omega) (by omega) y
    · rfl
  rw [e]
