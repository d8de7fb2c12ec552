/-! The class's new basis lies in the next ring, and is reduced. -/
theorem ag_e {O E : Type} [I : Lean.Grind.CommRing O] [J : Lean.Grind.CommRing E] {p n k : Int} {C : Int → Int → Int} {φ : (Int → Int) → O} {ι : O → E} {y : E} {fig : Int → Int → Int → Int} {dp : Int → Int} (v : RNV p n C φ ι y k fig dp) {f0 : Int → Int → Int → Int} (hk : k ≤ 18) (hf : ∀ l i m, 0 ≤ l → l < n → 0 ≤ i → i < 4 → 0 ≤ m → m ≤ 20 → f0 l i m = fig l i m) (bt pl : Int → Int) : ι (φ t1) * vE φ ι y n.toNat (gvR (agN p bt pl f0 n.toNat)) = su n.toNat (fun a => ι (φ (nC (bt a))) * vE φ ι y n.toNat (bR fig a)) + ι (φ t1) * su n.toNat (fun a => ι (φ (nC (pl a))) * (vE φ ι y n.toNat (bR fig a) + - su n.toNat (fun i => ι (φ (nC (fig a i 0))) * (ι (φ t1) ^ 20 * y ^ i.toNat)))) := by
  obtain ⟨h, hp, hn, A, hk19, r⟩ := v
  have ao := fun (i : Int) (i0 : 0 ≤ i) (i1 : i < n) => ag_o h.1 (f0 := f0) (show n ≤ 4 by omega) r.2.1 (fun l i l0 l1 i0 i1 => r.2.2.2.1 l i 20 l0 l1 i0 i1 (by omega) (by omega)) hf bt pl i0 i1 n.toNat (by omega)
  have L : ι (φ t1) * vE φ ι y n.toNat (gvR (agN p bt pl f0 n.toNat)) = su n.toNat (fun i => ι (su n.toNat (fun a => φ (nC (bt a)) * φ (bR fig a i) + φ (nC (pl a)) * (φ t1 * (φ (bR fig a i) - φ t1 ^ 20 * φ (nC (fig a i 0)))))) * y ^ i.toNat) := by
    unfold vE
    rw [← su_mul]
    refine su_congr fun i i0 i1 => ?_
    rw [← ao i i0 (by omega), A.2.1]
    grind
  rw [L, ← su_mul, ← su_add]
  have e1 : ∀ a : Int, ι (φ (nC (bt a))) * vE φ ι y n.toNat (bR fig a) + ι (φ t1) * (ι (φ (nC (pl a))) * (vE φ ι y n.toNat (bR fig a) + - su n.toNat (fun i => ι (φ (nC (fig a i 0))) * (ι (φ t1) ^ 20 * y ^ i.toNat)))) = su n.toNat (fun i => ι (φ (nC (bt a)) * φ (bR fig a i) + φ (nC (pl a)) * (φ t1 * (φ (bR fig a i) - φ t1 ^ 20 * φ (nC (fig a i 0))))) * y ^ i.toNat) := fun a => by
    unfold vE
    rw [← su_neg, ← su_add, ← su_mul, ← su_mul, ← su_mul, ← su_add]
    refine su_congr fun i _ _ => ?_
    rw [A.1, A.2.1, A.2.1, A.2.1, A.isub, A.2.1, A.ipow]
    grind
  rw [su_congr (f := fun a => ι (φ (nC (bt a))) * vE φ ι y n.toNat (bR fig a) + ι (φ t1) * (ι (φ (nC (pl a))) * (vE φ ι y n.toNat (bR fig a) + - su n.toNat (fun i => ι (φ (nC (fig a i 0))) * (ι (φ t1) ^ 20 * y ^ i.toNat))))) (fun a _ _ => e1 a), su_swap]
  refine su_congr fun i _ _ => ?_
  rw [A.isu, comm_E, ← su_mul]
  exact su_congr fun a _ _ => comm_E _ _
/-- what the class adds by t -/
theorem cbT_o {p n : Int} {O : Type} [I : Lean.Grind.CommRing O] {φ : (Int → Int) → O} (h : HM p φ) {so nb nil : Int → Int} {j a : Int} (a0 : 0 ≤ a) (a1 : a < n) : ∀ s : Nat, φ (nC (cbT p n so nb nil j s a)) = su s (fun i => if nil i ≠ 0 then φ (nC (so (4 * j + i))) * φ (nC (nb (4 * i + a))) else 0)
  | 0 => h.nC_0
  | s + 1 => by
    have ih := cbT_o h (so := so) (nb := nb) (nil := nil) (j := j) a0 a1 s
    rw [su_succ, ← ih]
    by_cases q : nil s ≠ 0
    · have e : cbT p n so nb nil j (s + 1) a = (cbT p n so nb nil j s a + so (4 * j + s) * nb (4 * s + a)) % p := if_pos ⟨a0, a1, q⟩
      rw [e, h.nC_mod, h.nC_add, h.nC_mul, if_pos q]
    · have e : cbT p n so nb nil j (s + 1) a = cbT p n so nb nil j s a := if_neg (fun w => q w.2.2)
      rw [e, if_neg q]
      clear ih
      grind
/-- above j nothing is added -/
theorem cb_hi {p n : Int} {O : Type} [I : Lean.Grind.CommRing O] {φ : (Int → Int) → O} (h : HM p φ) {M Em so nb nil fr : Int → Int} {kn kq : Int} (hn : 2 ≤ n ∧ n ≤ 4) (sv : solved p n n M nil nb kn) (sm' : solved p n (n * n) Em fr so kq) {j a : Int} (j0 : 0 ≤ j) (ja : j < a) (a1 : a < n) : φ (nC (cbB p n so nb nil fr j a)) = 0 ∧ φ (nC (cbP n so nb nil fr j a)) = 0 := by
  unfold cbB cbP
  by_cases q : fr j = 0
  · rw [if_pos q, if_pos q, sv.2.2.2.2.2.1 j a j0 ja a1]
    exact ⟨h.nC_0, h.nC_0⟩
  · rw [if_neg q, if_neg q]
    refine ⟨?_, ?_⟩
    · rw [cbT_o h (by omega) a1]
      refine su_zeros fun i i0 i1 => ?_
      (try dsimp only)
      split
      · rcases (show i < a ∨ j < i by omega) with w | w
        · rw [sv.2.2.2.2.2.1 i a i0 w a1, h.nC_0]
          grind
        · rw [sm'.2.2.2.2.2.1 j i j0 w (by omega), h.nC_0]
          grind
      · rfl
    · split
      · rw [sm'.2.2.2.2.2.1 j a j0 ja a1]
        exact h.nC_0
      · exact h.nC_0
/-- what is added of b_j itself -/
theorem cb_at {p n : Int} {O : Type} [I : Lean.Grind.CommRing O] {φ : (Int → Int) → O} (h : HM p φ) {M Em so nb nil fr : Int → Int} {kn kq : Int} (hn : 2 ≤ n ∧ n ≤ 4) (sv : solved p n n M nil nb kn) (sm' : solved p n (n * n) Em fr so kq) {j : Int} (j0 : 0 ≤ j) (j1 : j < n) (hg : nil j = 0 → fr j = 1) : (gnF fr nil j = 1 ∧ φ (nC (cbB p n so nb nil fr j j)) = 1 ∧ φ (nC (cbP n so nb nil fr j j)) = 0) ∨ (gnF fr nil j = 0 ∧ φ (nC (cbB p n so nb nil fr j j)) = 0 ∧ φ (nC (cbP n so nb nil fr j j)) = 1) := by
  have ni := sv.1 j j0 j1
  have fi := sm'.1 j j0 j1
  have ct : φ (nC (cbT p n so nb nil j n.toNat j)) = if nil j ≠ 0 then 1 else 0 := by
    rw [cbT_o h j0 j1, su_one j j0 (by omega) (fun i i0 i1 nij => by
      (try dsimp only)
      split
      · rcases Int.lt_or_lt_of_ne nij with w | w
        · rw [sv.2.2.2.2.2.1 i j i0 w j1, h.nC_0]
          grind
        · rw [sm'.2.2.2.2.2.1 j i j0 w (by omega), h.nC_0]
          grind
      · rfl)]
    (try dsimp only)
    split
    · rw [sm'.2.2.2.1 j j0 j1, sv.2.2.2.1 j j0 j1, h.nC_1]
      grind
    · rfl
  unfold gnF cbB cbP
  by_cases q : fr j = 0
  · rw [if_pos q, if_pos q, sv.2.2.2.1 j j0 j1]
    exact Or.inr ⟨by omega, h.nC_0, h.nC_1⟩
  · rw [if_neg q, if_neg q, ct]
    by_cases q2 : nil j = 0
    · rw [if_neg (fun w => w q2), if_pos ⟨j1, q2⟩, sm'.2.2.2.1 j j0 j1]
      exact Or.inr ⟨by omega, rfl, h.nC_1⟩
    · rw [if_pos q2, if_neg (fun w => q2 w.2)]
      exact Or.inl ⟨by omega, rfl, h.nC_0⟩
/-- what is added, by t, multiplies the radical into itself -/
theorem cb_mul {O E : Type} [I : Lean.Grind.CommRing O] [J : Lean.Grind.CommRing E] {p n k : Int} {C : Int → Int → Int} {φ : (Int → Int) → O} {ι : O → E} {y : E} {fig : Int → Int → Int → Int} {dp : Int → Int} (v : RNV p n C φ ι y k fig dp) {low high nb nil M Em fr so : Int → Int} {kn kq : Int} (hl : ∀ i j l, 0 ≤ i → i < n → 0 ≤ j → j < n → 0 ≤ l → l < n → low ((4 * i + j) * 4 + l) = tb1 p n C fig dp 0 ((4 * i + j) * 4 + l)) (hh : ∀ i j l, 0 ≤ i → i < n → 0 ≤ j → j < n → 0 ≤ l → l < n → high ((4 * i + j) * 4 + l) = tb1 p n C fig dp 1 ((4 * i + j) * 4 + l)) (sv : solved p n n M nil nb kn) (hk : ∀ x, ker p n n M x ↔ RAD (ι (φ t1)) (ι (φ t1) ^ 20) (LT ι n.toNat (fun l => vE φ ι y n.toNat (bR fig l))) (clE φ ι n.toNat (fun l => vE φ ι y n.toNat (bR fig l)) x)) (hE : ∀ l i j, 0 ≤ l → l < n → 0 ≤ i → i < n → 0 ≤ j → j < n → Em (4 * (n * l + i) + j) = muV p n nb nil low high j l i) (sm' : solved p n (n * n) Em fr so kq) {j : Int} (j0 : 0 ≤ j) (j1 : j < n) : MUL (ι (φ t1)) (ι (φ t1) ^ 20) (LT ι n.toNat (fun l => vE φ ι y n.toNat (bR fig l))) (su n.toNat (fun a => ι (φ (nC (cbB p n so nb nil fr j a))) * vE φ ι y n.toNat (bR fig a)) + ι (φ t1) * su n.toNat (fun a => ι (φ (nC (cbP n so nb nil fr j a))) * vE φ ι y n.toNat (bR fig a))) := by
  have mk := fun u => mul_ker v hl hh sv hk hE u
  have lat := v.lat
  have A := v.2.2.2.1
  have h := v.1
  have fi := sm'.1 j j0 j1
  by_cases q : fr j = 0
  · rw [su_zeros (f := fun a => ι (φ (nC (cbB p n so nb nil fr j a))) * vE φ ι y n.toNat (bR fig a)) (fun a _ _ => by
      (try dsimp only)
      rw [show cbB p n so nb nil fr j a = 0 from if_pos q, h.1.nC_0, A.i0]
      grind), z_add]
    exact MUL.tau lat ⟨_, rfl⟩
  · have mu := (mk _).mp (sm'.2.2.1 j j0 j1 (by omega))
    have e : clE φ ι n.toNat (cB φ ι n.toNat (fun l => vE φ ι y n.toNat (bR fig l)) nb nil) (fun i => so (4 * j + i)) = su n.toNat (fun a => ι (φ (nC (cbB p n so nb nil fr j a))) * vE φ ι y n.toNat (bR fig a)) + ι (φ t1) * su n.toNat (fun a => ι (φ (nC (cbP n so nb nil fr j a))) * vE φ ι y n.toNat (bR fig a)) := by
      have e1 : su n.toNat (fun a => ι (φ (nC (cbB p n so nb nil fr j a))) * vE φ ι y n.toNat (bR fig a)) = su n.toNat (fun i => if nil i ≠ 0 then ι (φ (nC (so (4 * j + i)))) * clE φ ι n.toNat (fun l => vE φ ι y n.toNat (bR fig l)) (fun a => nb (4 * i + a)) else 0) := by
        rw [su_congr (f := fun a => ι (φ (nC (cbB p n so nb nil fr j a))) * vE φ ι y n.toNat (bR fig a)) (g := fun a => su n.toNat (fun i => if nil i ≠ 0 then ι (φ (nC (so (4 * j + i)))) * (ι (φ (nC (nb (4 * i + a)))) * vE φ ι y n.toNat (bR fig a)) else 0)) (fun a a0 a1 => by
          (try dsimp only)
          rw [show cbB p n so nb nil fr j a = cbT p n so nb nil j n.toNat a from if_neg q, cbT_o h.1 a0 (by omega), A.isu, comm_E, ← su_mul]
          refine su_congr fun i _ _ => ?_
          split
          · rw [A.2.1]
            grind
          · rw [A.i0]
            grind), su_swap]
        refine su_congr fun i _ _ => ?_
        split
        · rw [su_mul]
          rfl
        · exact su_zeros fun _ _ _ => rfl
      rw [e1, ← su_mul, ← su_add]
      unfold clE
      refine su_congr fun i i0 i1 => ?_
      unfold cB
      have ni := sv.1 i i0 (by omega)
      by_cases q2 : nil i = 1
      · rw [if_pos q2, if_pos (by omega), show cbP n so nb nil fr j i = 0 from (if_neg q).trans (if_neg (by omega)), h.1.nC_0, A.i0]
        unfold clE
        grind
      · rw [if_neg q2, if_neg (by omega), show cbP n so nb nil fr j i = so (4 * j + i) from (if_neg q).trans (if_pos ⟨by omega, by omega⟩)]
        grind
    rw [← e]
    exact mu
theorem pow_one' {E : Type} [J : Lean.Grind.CommRing E] (a : E) : a ^ 1 = a := by grind
set_option maxHeartbeats 1000000 in
theorem new_q {O E : Type} [I : Lean.Grind.CommRing O] [J : Lean.Grind.CommRing E] {p n k : Int} {C : Int → Int → Int} {φ : (Int → Int) → O} {ι : O → E} {y : E} {fig : Int → Int → Int → Int} {dp : Int → Int} (v : RNV p n C φ ι y k fig dp) {low high nb nil M Em fr so : Int → Int} {kn kq : Int} (hl : ∀ i j l, 0 ≤ i → i < n → 0 ≤ j → j < n → 0 ≤ l → l < n → low ((4 * i + j) * 4 + l) = tb1 p n C fig dp 0 ((4 * i + j) * 4 + l)) (hh : ∀ i j l, 0 ≤ i → i < n → 0 ≤ j → j < n → 0 ≤ l → l < n → high ((4 * i + j) * 4 + l) = tb1 p n C fig dp 1 ((4 * i + j) * 4 + l)) (sv : solved p n n M nil nb kn) (hk : ∀ x, ker p n n M x ↔ RAD (ι (φ t1)) (ι (φ t1) ^ 20) (LT ι n.toNat (fun l => vE φ ι y n.toNat (bR fig l))) (clE φ ι n.toNat (fun l => vE φ ι y n.toNat (bR fig l)) x)) (hE : ∀ l i j, 0 ≤ l → l < n → 0 ≤ i → i < n → 0 ≤ j → j < n → Em (4 * (n * l + i) + j) = muV p n nb nil low high j l i) (sm' : solved p n (n * n) Em fr so kq) (hk18 : k ≤ 18) (hg : ∀ j, 0 ≤ j → j < n → nil j = 0 → fr j = 1) {f0 f' : Int → Int → Int → Int} {dp' : Int → Int} (hf : ∀ l i m, 0 ≤ l → l < n → 0 ≤ i → i < 4 → 0 ≤ m → m ≤ 20 → f0 l i m = fig l i m) (hd : ∀ j, 0 ≤ j → j < n → dp' j = dp j + gnF fr nil j ∧ 0 ≤ dp' j ∧ dp' j ≤ 20) (hf' : ∀ j i m, 0 ≤ j → j < n → 0 ≤ i → i < 4 → 0 ≤ m → m ≤ 20 → f' j i m = nfF j dp' (grF p n j (cbB p n so nb nil fr j) (cbP n so nb nil fr j) dp' f0 f') i m) : RDC n f' dp' ∧ TRF n f' ∧ (∀ l i m, 0 ≤ l → l < n → 0 ≤ i → i < 4 → 0 ≤ m → m ≤ 20 → 0 ≤ f' l i m ∧ f' l i m < p) ∧ ∀ j : Nat, (j : Int) < n → MUL (ι (φ t1)) (ι (φ t1) ^ 20) (LT ι n.toNat (fun l => vE φ ι y n.toNat (bR fig l))) (ι (φ t1) * vE φ ι y n.toNat (bR f' j)) := by
  have cm := fun j j0 j1 => cb_mul v hl hh sv hk hE sm' (j := j) j0 j1
  have ae := fun bt pl => ag_e v (f0 := f0) hk18 hf bt pl
  have lat := v.lat
  have n4 := v.n4
  have nxt := lat.next n4
  obtain ⟨h, hp, hn, A, hk19, r⟩ := v
  have p2 := hp.two
  have gr : ∀ j, 0 ≤ j → j < n → grF p n j (cbB p n so nb nil fr j) (cbP n so nb nil fr j) dp' f0 f' = tdN p j dp' f' (agN p (cbB p n so nb nil fr j) (cbP n so nb nil fr j) f0 n.toNat) j.toNat := fun j j0 j1 => if_pos j1
  have diag : ∀ j m, 0 ≤ j → j < n → 0 ≤ m → m ≤ 20 → f' j j m = if m = dp' j then 1 else 0 := fun j m j0 j1 m0 m1 => by
    rw [hf' j j m j0 j1 j0 (by omega) m0 m1]
    exact if_pos rfl
  have above : ∀ j i m, 0 ≤ j → j < n → j < i → i < 4 → 0 ≤ m → m ≤ 20 → f' j i m = 0 := fun j i m j0 j1 i0 i1 m0 m1 => by
    rw [hf' j i m j0 j1 (by omega) i1 m0 m1]
    unfold nfF
    rw [if_neg (by omega), if_neg (by omega)]
  have below : ∀ j i m, 0 ≤ j → j < n → 0 ≤ i → i < j → 0 ≤ m → m ≤ 20 → f' j i m = if 1 ≤ m then tdN p j dp' f' (agN p (cbB p n so nb nil fr j) (cbP n so nb nil fr j) f0 n.toNat) j.toNat (21 * i + m) else 0 := fun j i m j0 j1 i0 i1 m0 m1 => by
    rw [hf' j i m j0 j1 i0 (by omega) m0 m1, gr j j0 j1]
    unfold nfF
    rw [if_neg (by omega)]
    by_cases q : 1 ≤ m
    · rw [if_pos ⟨i1, q⟩, if_pos q]
    · rw [if_neg (fun w => q w.2), if_neg q]
  have tr : TRF n f' := fun l i m l0 l1 i0 i1 m0 m1 => above l i m l0 l1 i0 i1 m0 m1
  have rdc : RDC n f' dp' := by
    refine ⟨fun l l0 l1 => (hd l l0 l1).2, fun l m l0 l1 m0 m1 => diag l m l0 l1 m0 m1, fun l i m i0 i1 l1 m0 m1 ne => Classical.byContradiction (fun q => ne ?_)⟩
    rw [below l i m (by omega) l1 i0 i1 m0 m1]
    split
    · rename_i q1
      exact td_zero (fun a a0 a1 => (hd a a0 (by omega)).2.2) l.toNat (by omega) i m (by omega) i1 q1 (by omega)
    · rfl
  have bd : ∀ l i m, 0 ≤ l → l < n → 0 ≤ i → i < 4 → 0 ≤ m → m ≤ 20 → 0 ≤ f' l i m ∧ f' l i m < p := fun l i m l0 l1 i0 i1 m0 m1 => by
    rcases Int.lt_trichotomy i l with w | w | w
    · rw [below l i m l0 l1 i0 w m0 m1]
      split
      · exact tdN_bd p2.1 _ (agN_bd p2.1 _ _) _
      · omega
    · rw [w, diag l m l0 l1 m0 m1]
      split <;> omega
    · rw [above l i m l0 l1 w i1 m0 m1]
      omega
  refine ⟨rdc, tr, bd, ?_⟩
  have q0 : MUL (ι (φ t1)) (ι (φ t1) ^ 20) (LT ι n.toNat (fun l => vE φ ι y n.toNat (bR fig l))) (ι (φ t1) * 0) := nxt.2.2.1 0 (LT.zero A)
  have qT : ∀ l : Int, 0 ≤ l → l < n → MUL (ι (φ t1)) (ι (φ t1) ^ 20) (LT ι n.toNat (fun l => vE φ ι y n.toNat (bR fig l))) (ι (φ t1) * (ι (φ t1) ^ 20 * y ^ l.toNat)) := fun l l0 l1 => nxt.2.2.1 _ (r.2.2.2.2.2.2 l l0 l1)
  have all : ∀ m : Nat, ∀ j : Nat, j < m → (j : Int) < n → MUL (ι (φ t1)) (ι (φ t1) ^ 20) (LT ι n.toNat (fun l => vE φ ι y n.toNat (bR fig l))) (ι (φ t1) * vE φ ι y n.toNat (bR f' j)) := fun m => by
    induction m with
    | zero => exact fun j a => by omega
    | succ m ih =>
      intro j hj j1
      have base : MUL (ι (φ t1)) (ι (φ t1) ^ 20) (LT ι n.toNat (fun l => vE φ ι y n.toNat (bR fig l))) (ι (φ t1) * vE φ ι y n.toNat (gvR (agN p (cbB p n so nb nil fr j) (cbP n so nb nil fr j) f0 n.toNat))) := by
        rw [ae]
        have e : su n.toNat (fun a => ι (φ (nC (cbP n so nb nil fr j a))) * (vE φ ι y n.toNat (bR fig a) + - su n.toNat (fun i => ι (φ (nC (fig a i 0))) * (ι (φ t1) ^ 20 * y ^ i.toNat)))) = su n.toNat (fun a => ι (φ (nC (cbP n so nb nil fr j a))) * vE φ ι y n.toNat (bR fig a)) + su n.toNat (fun a => ι (φ (nC (cbP n so nb nil fr j a))) * (- su n.toNat (fun i => ι (φ (nC (fig a i 0))) * (ι (φ t1) ^ 20 * y ^ i.toNat)))) := by
          rw [← su_add]
          exact su_congr fun a _ _ => by grind
        rw [e, show ∀ u w z : E, u + ι (φ t1) * (w + z) = (u + ι (φ t1) * w) + ι (φ t1) * z from fun u w z => by grind]
        exact (cm j (by omega) j1).add lat n4 (MUL.tau lat (ltm_su A n.toNat (fun a a0 a1 => ltm_sca A _ (ltm_neg A (ltm_su A n.toNat (fun i i0 i1 => ltm_sca A _ (r.2.2.2.2.2.2 i i0 (by omega))))))))
      have low := td_q (Q := fun e => MUL (ι (φ t1)) (ι (φ t1) ^ 20) (LT ι n.toNat (fun l => vE φ ι y n.toNat (bR fig l))) (ι (φ t1) * e)) (p := p) (f' := f') (dp := dp') (j := j) (g := agN p (cbB p n so nb nil fr j) (cbP n so nb nil fr j) f0 n.toNat) h.1 A (by omega) q0 nxt.1 (fun x a ha => nxt.2.1 _ _ ⟨_, rfl⟩ ha) (fun l l0 l1 => qT l l0 (by omega)) (fun i i0 i1 => (hd i i0 (by omega)).2) (fun i m i0 i1 m0 m1 => diag i m i0 (by omega) m0 m1) (fun i l m i0 i1 l0 l1 m0 m1 => above i l m i0 (by omega) l0 l1 m0 m1) base (fun i i0 i1 => by
        have := ih i.toNat (by omega) (by omega)
        rw [show ((i.toNat : Nat) : Int) = i by omega] at this
        exact this) j (Int.le_refl _)
      have hi : ∀ l, (j : Int) ≤ l → l < n → gvR (tdN p j dp' f' (agN p (cbB p n so nb nil fr j) (cbP n so nb nil fr j) f0 n.toNat) j) l = gvR (agN p (cbB p n so nb nil fr j) (cbP n so nb nil fr j) f0 n.toNat) l := fun l l0 l1 => funext fun x => by
        unfold gvR
        by_cases q : 0 ≤ x ∧ x ≤ 19
        · rw [if_pos q, if_pos q]
          exact td_hi (fun a a0 a1 => (hd a a0 (by omega)).2.2) j (Int.le_refl _) (by omega)
        · rw [if_neg q, if_neg q]
      have ao := fun (i : Int) (i0 : 0 ≤ i) (i1 : i < n) => ag_o h.1 (f0 := f0) (show n ≤ 4 by omega) r.2.1 (fun l i l0 l1 i0 i1 => r.2.2.2.1 l i 20 l0 l1 i0 i1 (by omega) (by omega)) hf (cbB p n so nb nil fr j) (cbP n so nb nil fr j) i0 i1 n.toNat (by omega)
      have lo0 : ∀ a l : Int, 0 ≤ a → a < l → l < n → φ (bR fig a l) = 0 ∧ fig a l 0 = 0 := fun a l a0 al l1 => ⟨bR_0 h r.2.1 a0 (by omega) al (by omega), r.2.1 a l 0 a0 (by omega) al (by omega) (by omega) (by omega)⟩
      refine q_lin (Q := fun e => MUL (ι (φ t1)) (ι (φ t1) ^ 20) (LT ι n.toNat (fun l => vE φ ι y n.toNat (bR fig l))) (ι (φ t1) * e)) (a := 0) (V := gvR (tdN p j dp' f' (agN p (cbB p n so nb nil fr j) (cbP n so nb nil fr j) f0 n.toNat) j)) (W := gvR (tdN p j dp' f' (agN p (cbB p n so nb nil fr j) (cbP n so nb nil fr j) f0 n.toNat) j)) (w := fun l => if l = j ∧ dp' j = 0 then 1 else 0) A q0 nxt.1 (fun x a ha => nxt.2.1 _ _ ⟨_, rfl⟩ ha) (fun l l0 l1 => qT l l0 (by omega)) (fun l l0 l1 => ?_) low low
      (try dsimp only)
      rcases Int.lt_trichotomy l j with w | w | w
      · rw [if_neg (by omega), show bR f' j l = gvR (tdN p j dp' f' (agN p (cbB p n so nb nil fr j) (cbP n so nb nil fr j) f0 n.toNat) j) l from funext fun x => by
          unfold bR gvR
          by_cases q : 0 ≤ x ∧ x ≤ 19
          · rw [if_pos q, if_pos (by omega), below j l _ (by omega) j1 l0 w (by omega) (by omega), if_pos (by omega)]
            rfl
          · rw [if_neg q]
            split
            · rw [below j l _ (by omega) j1 l0 w (by omega) (by omega), if_neg (by omega)]
            · rfl]
        grind
      · have o := ao l l0 (by omega)
        rw [hi l (by omega) (by omega)]
        rw [su_one l l0 l1 (fun a a0 a1 na => by
          (try dsimp only)
          rcases Int.lt_or_lt_of_ne na with z | z
          · rw [(lo0 a l a0 z (by omega)).1, (lo0 a l a0 z (by omega)).2, h.1.nC_0]
            grind
          · have c := cb_hi h.1 hn sv sm' (j := j) (a := a) (by omega) (by omega) (by omega)
            rw [c.1, c.2]
            grind)] at o
        (try dsimp only at o)
        have dj := hd l l0 (by omega)
        have b0 := r.1.1 l l0 (by omega)
        rw [bR_d h r.1 l0 (by omega), r.1.2.1 l 0 l0 (by omega) (by omega) (by omega), w] at o
        rw [w, bR_d h rdc (by omega) j1]
        rw [w] at dj b0
        rcases cb_at h.1 hn sv sm' (j := j) (by omega) j1 (hg j (by omega) j1) with c | c
        · rw [c.2.1, c.2.2] at o
          have ek : (20 - dp j).toNat = (20 - dp' j).toNat + 1 := by omega
          rw [if_neg (show ¬ ((j : Int) = j ∧ dp' j = 0) by omega)]
          have : φ (gvR (agN p (cbB p n so nb nil fr j) (cbP n so nb nil fr j) f0 n.toNat) j) = φ t1 ^ (20 - dp' j).toNat := h.can1 (by
            rw [o, ek, Lean.Grind.Semiring.pow_succ]
            clear o
            grind)
          rw [this]
          clear o this
          grind
        · rw [c.2.1, c.2.2] at o
          have ed : dp' j = dp j := by omega
          have : φ (gvR (agN p (cbB p n so nb nil fr j) (cbP n so nb nil fr j) f0 n.toNat) j) = φ t1 ^ (20 - dp j).toNat - φ t1 ^ 20 * φ (nC (if 0 = dp j then 1 else 0)) := h.can1 (by
            rw [o]
            clear o
            grind)
          rw [this, ed]
          by_cases qd : dp j = 0
          · rw [if_pos qd.symm, if_pos ⟨rfl, qd⟩, h.1.nC_1]
            clear o this
            grind
          · rw [if_neg (fun z => qd z.symm), if_neg (fun z => qd z.2), h.1.nC_0]
            clear o this
            grind
      · have o := ao l l0 (by omega)
        rw [hi l (by omega) (by omega)]
        rw [su_zeros (fun a a0 a1 => by
          (try dsimp only)
          rcases (show a < l ∨ l ≤ a by omega) with z | z
          · rw [(lo0 a l a0 z (by omega)).1, (lo0 a l a0 z (by omega)).2, h.1.nC_0]
            grind
          · have c := cb_hi h.1 hn sv sm' (j := j) (a := a) (by omega) (by omega) (by omega)
            rw [c.1, c.2]
            grind)] at o
        have : φ (gvR (agN p (cbB p n so nb nil fr j) (cbP n so nb nil fr j) f0 n.toNat) l) = 0 := h.can1 (by
          rw [o]
          clear o
          grind)
        rw [this, bR_0 h tr (by omega) j1 w (by omega), if_neg (by omega)]
        clear o this
        grind
  exact fun j j1 => all (j + 1) j (by omega) j1
