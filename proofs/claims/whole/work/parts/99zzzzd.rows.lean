/-! The next basis: its rows. -/
theorem hm_smsu {p : Int} {O : Type} [I : Lean.Grind.CommRing O] {φ : (Int → Int) → O} (h : HM p φ) (f : Int → Int → Int) : ∀ n : Nat, φ (fun x => sm n (fun l => f l x)) = su n (fun l => φ (f l))
  | 0 => h.2.2.2.2.2.1
  | n + 1 => by rw [h.sm, hm_smsu h f n, su_succ]
def gR (p b : Int) (c : Int → Int) (fig : Int → Int → Int → Int) (j : Int) : Int → Int → Int := fun i x => if 0 ≤ x ∧ x ≤ 20 then gwV p b c fig (j + 1) i (20 - x) else 0
theorem gw_o {O E : Type} [I : Lean.Grind.CommRing O] [J : Lean.Grind.CommRing E] {p n k : Int} {φ : (Int → Int) → O} {ι : O → E} {y : E} {fig : Int → Int → Int → Int} {dp : Int → Int} (h : HMs p φ) (hn : 2 ≤ n ∧ n ≤ 4) (hk : k ≤ 19) (r : RST p n φ ι y k fig dp) {b : Int} {c : Int → Int} {i j : Int} (hb : b = 0 ∨ b = 1) (j0 : 0 ≤ j) (j1 : j < n) (i0 : 0 ≤ i) (i1 : i < n) (cz : ∀ l, j < l → l < n → c l = 0) : φ t1 ^ b.toNat * φ (gR p b c fig j i) = su n.toNat (fun l => φ (nC (c l)) * φ (bR fig l i)) := by
  rw [← h.1.shiftN (f := gR p b c fig j i) (fun x hx => if_neg (by omega)) b.toNat, su_congr (g := fun l => φ (fun x => c l * bR fig l i x)) (fun l _ _ => (h.1.scal (f := bR fig l i) (fun x hx => if_neg (by omega))).symm), ← hm_smsu h.1, ← h.1.2.2.1 (fun x => sm n.toNat (fun l => c l * bR fig l i x))]
  congr 1
  refine funext fun x => ?_
  rw [show ((b.toNat : Nat) : Int) = b by omega]
  unfold gR
  by_cases q : 0 ≤ x - b ∧ x - b ≤ 20
  · rw [if_pos q]
    show sm (j + 1).toNat (fun l => if i ≤ l ∧ 0 ≤ 20 - (x - b) - b then c l * fig l i (20 - (x - b) - b) else 0) % p = _
    congr 1
    rw [sm_more (n := (j + 1).toNat) (m := n.toNat) (by omega) (fun l l0 l1 => by rw [cz l (by omega) (by omega), Int.zero_mul])]
    refine sm_congr fun l l0 l1 => ?_
    unfold bR
    by_cases q2 : x ≤ 20
    · rw [if_pos (show 0 ≤ x ∧ x ≤ 20 by omega)]
      by_cases q3 : i ≤ l
      · rw [if_pos (by omega), show 20 - (x - b) - b = 20 - x by omega]
      · rw [if_neg (by omega), r.2.1 l i (20 - x) l0 (by omega) (by omega) (by omega) (by omega) (by omega), Int.mul_zero]
    · rw [if_neg (by omega), if_neg (by omega), Int.mul_zero]
  · rw [if_neg q, sm_zeros (fun l l0 l1 => ?_)]
    · exact (Int.zero_emod p).symm
    · unfold bR
      by_cases q2 : 0 ≤ x ∧ x ≤ 20
      · rw [if_pos q2, r.2.2.2.1 l i (20 - x) l0 (by omega) i0 (by omega) (by omega) (by omega), Int.mul_zero]
      · rw [if_neg q2, Int.mul_zero]
theorem gw_e {O E : Type} [I : Lean.Grind.CommRing O] [J : Lean.Grind.CommRing E] {p n k : Int} {φ : (Int → Int) → O} {ι : O → E} {y : E} {c0 : Int → O} {fig : Int → Int → Int → Int} {dp : Int → Int} (h : HMs p φ) (hn : 2 ≤ n ∧ n ≤ 4) (A : ALG n.toNat c0 ι y) (hk : k ≤ 19) (r : RST p n φ ι y k fig dp) {b : Int} {c : Int → Int} {j : Int} (hb : b = 0 ∨ b = 1) (j0 : 0 ≤ j) (j1 : j < n) (cz : ∀ l, j < l → l < n → c l = 0) : ι (φ t1) ^ b.toNat * vE φ ι y n.toNat (gR p b c fig j) = su n.toNat (fun l => ι (φ (nC (c l))) * vE φ ι y n.toNat (bR fig l)) := by
  unfold vE
  rw [← su_mul, su_congr (n := n.toNat) (f := fun l => ι (φ (nC (c l))) * su n.toNat (fun i => ι (φ (bR fig l i)) * y ^ i.toNat)) (g := fun l => su n.toNat (fun i => ι (φ (nC (c l)) * φ (bR fig l i)) * y ^ i.toNat)) (fun l _ _ => by
    rw [← su_mul]
    exact su_congr fun i _ _ => by rw [A.2.1]; grind), su_swap]
  refine su_congr fun i i0 i1 => ?_
  rw [su_congr (g := fun l => y ^ i.toNat * ι (φ (nC (c l)) * φ (bR fig l i))) (fun l _ _ => by grind), su_mul, ← A.isu, ← gw_o h hn hk r hb j0 j1 i0 (by omega) cz, A.2.1, A.ipow]
  grind
theorem nx_row {O E : Type} [I : Lean.Grind.CommRing O] [J : Lean.Grind.CommRing E] {p n k j g : Int} {φ : (Int → Int) → O} {ι : O → E} {y : E} {fig f' : Int → Int → Int → Int} {dp dp' : Int → Int} (h : HMs p φ) (hp : isPr p) (hn : 2 ≤ n ∧ n ≤ 4) (r : RST p n φ ι y k fig dp) (j0 : 0 ≤ j) (j1 : j < n) (d20 : dp' j ≤ 20) (cj : gcF p g j j = 1) (tr : TRF n f') (nx : NX1 p j g fig dp f' dp') : ∃ (σ ω : Int → O), ∀ i, 0 ≤ i → i < n → φ (bR f' j i) = φ (gR p (gbF g) (gcF p g j) fig j i) - su j.toNat (fun a => σ a * φ (bR f' a i)) + (if i < j then φ t1 ^ 21 * ω i else 0) := by
  have h2 := hp.two
  have gb : gbF g = 0 ∨ gbF g = 1 := by
    unfold gbF
    split
    · exact Or.inr rfl
    · exact Or.inl rfl
  obtain ⟨n1, n2, n3, n4, n5, s, n6⟩ := nx
  have dx : ∃ D : Int → Int → Int, ∀ i x, D i x = sm j.toNat (fun a => cnv (fun e => if 0 ≤ e ∧ e < 21 then s a e else 0) (bR f' a i) x) := ⟨_, fun _ _ => rfl⟩
  obtain ⟨D, hD⟩ := dx
  refine ⟨fun a => φ (fun e => if 0 ≤ e ∧ e < 21 then s a e else 0), fun i => φ (fun x => if x < 0 then 0 else (fun x => if 20 < x then D i x % p else 0) (x + 21)), fun i i0 i1 => ?_⟩
  (try dsimp only)
  rcases Int.lt_trichotomy i j with q | q | q
  · rw [if_pos q]
    have up := h.up (f := fun x => if 20 < x then D i x % p else 0) 21 (fun x => by
      (try dsimp only)
      split
      · exact ⟨em_ge (by omega), em_lt (by omega)⟩
      · omega) (fun x hx => if_neg (by omega))
    have e21 : φ t1 ^ 21 * φ (fun x => if x < 0 then 0 else (fun x => if 20 < x then D i x % p else 0) (x + 21)) = φ (fun x => if 20 < x then D i x % p else 0) := up.symm
    have eD : su j.toNat (fun a => φ (fun e => if 0 ≤ e ∧ e < 21 then s a e else 0) * φ (bR f' a i)) = φ (D i) := by
      rw [su_congr (g := fun a => φ (cnv (fun e => if 0 ≤ e ∧ e < 21 then s a e else 0) (bR f' a i))) (fun a _ _ => (h.1.2.1 _ _).symm), ← hm_smsu h.1]
      congr 1
      exact funext fun x => (hD i x).symm
    rw [show (fun x => if x < 0 then 0 else (fun x => if 20 < x then D i x % p else 0) (x + 21)) = (fun x => if x < 0 then 0 else if 20 < x + 21 then D i (x + 21) % p else 0) from rfl] at e21
    rw [e21, eD]
    have fin : bR f' j i = fun x => (fun x => gR p (gbF g) (gcF p g j) fig j i x + (fun x => (fun x => -1 * D i x) x + (fun x => if 20 < x then D i x % p else 0) x) x) x % p := funext fun x => by
      show bR f' j i x = (gR p (gbF g) (gcF p g j) fig j i x + (-1 * D i x + (if 20 < x then D i x % p else 0))) % p
      by_cases q1 : x < 0
      · rw [show bR f' j i x = 0 from if_neg (by omega), show gR p (gbF g) (gcF p g j) fig j i x = 0 from if_neg (by omega), hD, sm_zeros (fun a _ _ => cnv_neg q1), if_neg (by omega)]
        exact (Int.zero_emod p).symm
      · by_cases q2 : 20 < x
        · rw [show bR f' j i x = 0 from if_neg (by omega), show gR p (gbF g) (gcF p g j) fig j i x = 0 from if_neg (by omega), if_pos q2]
          rw [show (0 : Int) + (-1 * D i x + D i x % p) = - (D i x - D i x % p) by omega, show D i x - D i x % p = p * (D i x / p) by have := Int.mul_ediv_add_emod (D i x) p; omega, show - (p * (D i x / p)) = p * (- (D i x / p)) by rw [Int.mul_neg], Int.mul_emod_right]
        · rw [if_neg q2, show bR f' j i x = f' j i (20 - x) from if_pos (by omega), n6 i (20 - x) i0 q (by omega) (by omega), show gR p (gbF g) (gcF p g j) fig j i x = gwV p (gbF g) (gcF p g j) fig (j + 1) i (20 - x) from if_pos (by omega), Int.add_zero]
          unfold rdV
          congr 3
          rw [hD]
          unfold ds2
          refine sm_congr fun a a0 a1 => ?_
          unfold cnv
          rw [sm_more (n := (x + 1).toNat) (m := 21) (by omega) (fun e e0 e1 => by
            unfold rdX
            rw [if_neg (by omega), Int.mul_zero])]
          refine sm_congr fun e e0 e1 => ?_
          (try dsimp only)
          rw [if_pos (show 0 ≤ e ∧ e < 21 by omega)]
          unfold rdX bR
          by_cases q3 : i ≤ a
          · rw [if_pos (by omega), if_pos (show 0 ≤ x - e ∧ x - e ≤ 20 by omega), show 20 - x + e = 20 - (x - e) by omega]
          · rw [if_neg (by omega), if_pos (show 0 ≤ x - e ∧ x - e ≤ 20 by omega), tr a i _ a0 (by omega) (by omega) (by omega) (by omega) (by omega)]
    rw [fin, h.1.2.2.1, h.1.1, h.1.1, h.1.2.2.2.1]
    generalize φ (gR p (gbF g) (gcF p g j) fig j i) = u
    generalize φ (D i) = w
    generalize φ (fun x => if 20 < x then D i x % p else 0) = z
    grind
  · rw [if_neg (by omega), su_zeros (fun a a0 a1 => by rw [bR_0 h tr a0 (by omega) (by omega) (by omega)]; grind)]
    have e : bR f' j i = gR p (gbF g) (gcF p g j) fig j i := funext fun x => by
      unfold bR gR
      by_cases q1 : 0 ≤ x ∧ x ≤ 20
      · rw [if_pos q1, if_pos q1, q, n2 (20 - x) (by omega) (by omega)]
        unfold gwV gwS
        rw [show (j + 1).toNat = j.toNat + 1 by omega, sm_succ, sm_zeros (fun l l0 l1 => if_neg (by omega)), show ((j.toNat : Nat) : Int) = j by omega, cj, Int.zero_add]
        have bd := r.1.1 j j0 j1
        by_cases q2 : 0 ≤ 20 - x - gbF g
        · rw [if_pos (show j ≤ j ∧ 0 ≤ 20 - x - gbF g from ⟨Int.le_refl j, q2⟩), Int.one_mul, r.1.2.1 j _ j0 j1 q2 (by omega)]
          by_cases q3 : 20 - x = dp' j
          · rw [if_pos q3, if_pos (show 20 - x - gbF g = dp j by omega)]
            exact (em_id (by omega) (by omega)).symm
          · rw [if_neg q3, if_neg (show ¬ 20 - x - gbF g = dp j by omega)]
            exact (Int.zero_emod p).symm
        · rw [if_neg (show ¬ 20 - x = dp' j by omega), if_neg (show ¬ (j ≤ j ∧ 0 ≤ 20 - x - gbF g) by omega)]
          exact (Int.zero_emod p).symm
      · rw [if_neg q1, if_neg q1]
    rw [e]
    grind
  · rw [if_neg (by omega), bR_0 h tr j0 j1 q (by omega), su_zeros (fun a a0 a1 => by rw [bR_0 h tr a0 (by omega) (by omega) (by omega)]; grind)]
    have e : gR p (gbF g) (gcF p g j) fig j i = fun _ => 0 := funext fun x => by
      unfold gR gwV gwS
      split
      · rw [sm_zeros (fun l l0 l1 => if_neg (by omega))]
        exact Int.zero_emod p
      · rfl
    rw [e, h.1.2.2.2.2.2.1]
    grind
