/-! The model: classes as numbers, their products. -/
/-- number i of a class -/
def dgt (p a i : Int) : Int := a / pwI p i.toNat % p
theorem m_numberIn {d : Nat} {a i p : Int} {S : Hp} {Q : Vl → Hp → Prop} (h2 : 2 ≤ p ∧ p ≤ 7) (ha : 0 ≤ a ∧ a < 100000) (hi : 0 ≤ i ∧ i ≤ 4) (H : Q (0, dgt p a i) S) : Ev d 218 [(0, a), (0, i), (0, p)] S Q := by
  apply w_Model_numberIn_0
  refine loopU (α := Int) (P := fun k x => At d 218 c218_5 [(1, (0, i)), (2, (0, p)), (3, (0, x)), (4, (0, k))] [] S Q) (I := fun k x => 0 ≤ k ∧ x = a / pwI p k.toNat) i ?_ ?_ 0 a (by omega) ⟨by omega, (Int.ediv_one a).symm⟩
  · rintro k x hk ⟨k0, rfl⟩ hnx
    have b := pwI_bd h2 k.toNat (by omega)
    have x0 : 0 ≤ a / pwI p k.toNat := Int.ediv_nonneg ha.1 (by omega)
    have x1 : a / pwI p k.toNat ≤ a := Int.ediv_le_self _ ha.1
    have y0 : 0 ≤ a / pwI p k.toNat / p := Int.ediv_nonneg x0 (by omega)
    have y1 : a / pwI p k.toNat / p ≤ a / pwI p k.toNat := Int.ediv_le_self _ x0
    apply w_Model_numberIn_5
    rw [show (a / pwI p k.toNat).tdiv p = a / pwI p k.toNat / p from Int.tdiv_eq_ediv_of_nonneg x0]
    refine ⟨fun hc => by omega, fun _ => ⟨by omega, ?_⟩⟩
    rintro _ rfl _ rfl
    rw [w32_id (by omega) (by omega), w32_id (by omega) (by omega)]
    refine hnx _ ⟨by omega, ?_⟩
    rw [show (k + 1).toNat = k.toNat + 1 by omega]
    show _ = a / (pwI p k.toNat * p)
    rw [Int.ediv_ediv_of_nonneg (by omega)]
  · rintro x ⟨-, rfl⟩
    have b := pwI_bd h2 i.toNat (by omega)
    have x0 : 0 ≤ a / pwI p i.toNat := Int.ediv_nonneg ha.1 (by omega)
    apply w_Model_numberIn_5
    rw [tm_nn x0]
    exact ⟨fun _ => ⟨by omega, H⟩, fun hc => absurd (Int.le_refl i) hc⟩
theorem dgt_bd {p a i : Int} (hp : 2 ≤ p) : 0 ≤ dgt p a i ∧ dgt p a i < p := ⟨em_ge (by omega), em_lt (by omega)⟩
/-- the number of a class -/
def cdF (p : Int) (c : Int → Int) : Nat → Int → Int
  | 0, _ => 0
  | s + 1, lo => c lo + p * cdF p c s (lo + 1)
theorem cdF_bd {p : Int} {c : Int → Int} (h2 : 2 ≤ p ∧ p ≤ 7) (hc : ∀ i, 0 ≤ c i ∧ c i < p) : ∀ (s : Nat) (lo : Int), 0 ≤ cdF p c s lo ∧ cdF p c s lo < pwI p s
  | 0, lo => ⟨Int.le_refl 0, by show (0 : Int) < 1; decide⟩
  | s + 1, lo => by
    have ih := cdF_bd h2 hc s (lo + 1)
    have h := hc lo
    show 0 ≤ c lo + p * cdF p c s (lo + 1) ∧ c lo + p * cdF p c s (lo + 1) < pwI p s * p
    have a1 : 0 ≤ p * cdF p c s (lo + 1) := Int.mul_nonneg (by omega) ih.1
    have a2 : p * (cdF p c s (lo + 1) + 1) ≤ p * pwI p s := Int.mul_le_mul_of_nonneg_left (by omega) (by omega)
    rw [Int.mul_add, Int.mul_one] at a2
    rw [Int.mul_comm (pwI p s) p]
    omega
theorem cdF_dgt {p : Int} {c : Int → Int} (h2 : 2 ≤ p ∧ p ≤ 7) (hc : ∀ i, 0 ≤ c i ∧ c i < p) : ∀ (i s : Nat) (lo : Int), i < s → dgt p (cdF p c s lo) i = c (lo + i)
  | 0, s + 1, lo, _ => by
    unfold dgt
    show (c lo + p * cdF p c s (lo + 1)) / 1 % p = c (lo + 0)
    rw [Int.ediv_one, Int.add_mul_emod_self_left, em_id (hc lo).1 (hc lo).2, Int.add_zero]
  | i + 1, s + 1, lo, h => by
    have ih := cdF_dgt h2 hc i s (lo + 1) (by omega)
    unfold dgt at ih ⊢
    rw [show (((i + 1 : Nat) : Int)).toNat = i + 1 by omega]
    rw [show ((i : Int)).toNat = i by omega] at ih
    show (c lo + p * cdF p c s (lo + 1)) / (pwI p i * p) % p = _
    have e : (c lo + p * cdF p c s (lo + 1)) / p = cdF p c s (lo + 1) := by
      rw [Int.add_mul_ediv_left _ _ (by omega), Int.ediv_eq_zero_of_lt (hc lo).1 (hc lo).2, Int.zero_add]
    rw [Int.mul_comm (pwI p i) p, ← Int.ediv_ediv_of_nonneg (by omega), e, ih, show lo + 1 + (i : Int) = lo + ((i + 1 : Nat) : Int) by omega]
theorem cdF_congr {p : Int} {c c' : Int → Int} : ∀ (s : Nat) (lo : Int), (∀ i, lo ≤ i → i < lo + s → c i = c' i) → cdF p c s lo = cdF p c' s lo
  | 0, _, _ => rfl
  | s + 1, lo, h => by
    show c lo + p * cdF p c s (lo + 1) = c' lo + p * cdF p c' s (lo + 1)
    rw [h lo (by omega) (by omega), cdF_congr s (lo + 1) (fun i i0 i1 => h i (by omega) (by omega))]
/-- the product of two classes by a table -/
def pdS (p n : Int) (T : Int → Int) (a b l : Int) : Int := sm n.toNat (fun i => sm n.toNat (fun j => dgt p a i * dgt p b j * T (16 * i + 4 * j + l)))
def pcC (p n : Int) (T : Int → Int) (a b : Int) : Int := cdF p (fun l => pdS p n T a b l % p) n.toNat 0
theorem tri_b {x y z : Int} (hx : 0 ≤ x ∧ x < 10) (hy : 0 ≤ y ∧ y < 10) (hz : 0 ≤ z ∧ z < 10) : 0 ≤ x * y ∧ x * y ≤ 100 ∧ 0 ≤ x * y * z ∧ x * y * z ≤ 1000 := mul_bd3 hx hy hz
theorem sm_bd {n : Nat} {f : Int → Int} {B : Int} (h : ∀ i : Int, 0 ≤ i → i < n → 0 ≤ f i ∧ f i ≤ B) : 0 ≤ sm n f ∧ sm n f ≤ n * B := by
  refine ⟨?_, sm_le (fun i i0 i1 => (h i i0 i1).2)⟩
  have := sm_ge (n := n) (f := f) (B := 0) (fun i i0 i1 => by have := (h i i0 i1).1; omega)
  omega
set_option maxHeartbeats 1000000 in
theorem m_product {d : Nat} {D p n a b t : Int} {S : Hp} {Q : Vl → Hp → Prop} (hD : zK S D = 12) (hp : zG S D 0 = p) (h2 : 2 ≤ p ∧ p ≤ 7) (hN : zG S D 1 = n) (hn : 2 ≤ n ∧ n ≤ 4) (ha : 0 ≤ a ∧ a < 100000) (hb : 0 ≤ b ∧ b < 100000) (kt : zK S t = 101) (lt : zL S t = 64) (hT : ∀ i j l, 0 ≤ i → i < n → 0 ≤ j → j < n → 0 ≤ l → l < n → 0 ≤ zG S t (16 * i + 4 * j + l) ∧ zG S t (16 * i + 4 * j + l) < 10) (H : Q (0, pcC p n (zG S t) a b) S) : Ev (d + 1) 219 [(2, D), (0, a), (0, b), (2, t)] S Q := by
  apply w_Model_product_0
  rw [hN, w32_id (by omega) (by omega)]
  refine ⟨hD, ?_⟩
  rintro _ rfl
  generalize hTT : zG S t = T at *
  have cb : ∀ l, 0 ≤ (fun l => pdS p n T a b l % p) l ∧ (fun l => pdS p n T a b l % p) l < p := fun l => ⟨em_ge (by omega), em_lt (by omega)⟩
  refine loopD (α := Int) (P := fun l c => At (d + 1) 219 c219_11 [(0, (2, D)), (1, (0, a)), (2, (0, b)), (3, (2, t)), (4, (0, c)), (5, (0, l))] [] S Q) (I := fun l c => l < n ∧ c = cdF p (fun l => pdS p n T a b l % p) (n - 1 - l).toNat (l + 1)) 0 ?_ ?_ (n - 1) 0 (by omega) ⟨by omega, by rw [show (n - 1 - (n - 1)).toNat = 0 by omega]; rfl⟩
  · rintro l c hl ⟨ln, hc⟩ hnx
    have cB := cdF_bd h2 cb (n - 1 - l).toNat (l + 1)
    have pB := pwI_bd h2 (n - 1 - l).toNat (by omega)
    rw [← hc] at cB
    apply w_Model_product_11
    refine ⟨fun z => by omega, fun _ => ?_⟩
    refine loopU (α := Int) (P := fun i s => At (d + 1) 219 c219_22 [(0, (2, D)), (1, (0, a)), (2, (0, b)), (3, (2, t)), (4, (0, c)), (5, (0, l)), (6, (0, s)), (7, (0, i))] [] S Q) (I := fun i s => 0 ≤ i ∧ s = sm i.toNat (fun i => sm n.toNat (fun j => dgt p a i * dgt p b j * T (16 * i + 4 * j + l)))) n ?_ ?_ 0 0 (by omega) ⟨by omega, rfl⟩
    · rintro i s hi ⟨i0, hs⟩ hk
      have tb : ∀ u j, 0 ≤ u → u < n → 0 ≤ j → j < n → 0 ≤ dgt p a u * dgt p b j * T (16 * u + 4 * j + l) ∧ dgt p a u * dgt p b j * T (16 * u + 4 * j + l) ≤ 1000 := fun u j u0 u1 j0 j1 => (tri_b (by have := dgt_bd (a := a) (i := u) h2.1; omega) (by have := dgt_bd (a := b) (i := j) h2.1; omega) (hT u j l u0 u1 j0 j1 hl ln)).2.2
      have ib : ∀ u, 0 ≤ u → u < n → ∀ N : Nat, (N : Int) ≤ n → 0 ≤ sm N (fun j => dgt p a u * dgt p b j * T (16 * u + 4 * j + l)) ∧ sm N (fun j => dgt p a u * dgt p b j * T (16 * u + 4 * j + l)) ≤ 4000 := fun u u0 u1 N hN' => by
        have := sm_bd (n := N) (B := 1000) (fun j j0 j1 => tb u j u0 u1 j0 (by omega))
        omega
      have sb : 0 ≤ s ∧ s ≤ 16000 := by
        have := sm_bd (n := i.toNat) (f := fun i => sm n.toNat (fun j => dgt p a i * dgt p b j * T (16 * i + 4 * j + l))) (B := 4000) (fun u u0 u1 => ib u u0 (by omega) n.toNat (by omega))
        rw [hs]
        omega
      have fin : ∀ (s' : Int) (j : Int), 0 ≤ j → (dgt p a i = 0 ∨ j = n) → s' = s + sm j.toNat (fun j => dgt p a i * dgt p b j * T (16 * i + 4 * j + l)) → At (d + 1) 219 c219_100 [(0, (2, D)), (1, (0, a)), (2, (0, b)), (3, (2, t)), (4, (0, c)), (5, (0, l)), (6, (0, s')), (7, (0, i))] [] S Q := fun s' j j0 hj hs' => by
        apply w_Model_product_100
        rintro _ rfl
        rw [w32_id (by omega) (by omega)]
        refine hk _ ⟨by omega, ?_⟩
        rw [show (i + 1).toNat = i.toNat + 1 by omega, sm_succ, show ((i.toNat : Nat) : Int) = i by omega, ← hs, hs']
        have e : sm j.toNat (fun j => dgt p a i * dgt p b j * T (16 * i + 4 * j + l)) = sm n.toNat (fun j => dgt p a i * dgt p b j * T (16 * i + 4 * j + l)) := by
          rcases hj with z | z
          · rw [sm_zeros (fun u _ _ => by rw [z, Int.zero_mul, Int.zero_mul]), sm_zeros (fun u _ _ => by rw [z, Int.zero_mul, Int.zero_mul])]
          · rw [z]
        rw [e]
      apply w_Model_product_22
      rw [hN, hp]
      refine ⟨hD, fun z => by omega, fun _ => ⟨hD, m_numberIn h2 ha (by omega) ⟨_, rfl, ?_⟩⟩⟩
      refine loopU (α := Int) (P := fun j s' => At (d + 1) 219 c219_46 [(0, (2, D)), (1, (0, a)), (2, (0, b)), (3, (2, t)), (4, (0, c)), (5, (0, l)), (6, (0, s')), (7, (0, i)), (8, (0, dgt p a i)), (9, (0, j))] [] S Q) (I := fun j s' => 0 ≤ j ∧ s' = s + sm j.toNat (fun j => dgt p a i * dgt p b j * T (16 * i + 4 * j + l))) n ?_ ?_ 0 s (by omega) ⟨by omega, by rw [show (0 : Int).toNat = 0 from rfl, sm_zero, Int.add_zero]⟩
      · rintro j s' hj ⟨j0, hs'⟩ hk2
        have jb := ib i i0 hi j.toNat (by omega)
        have t1 := hT i j l i0 hi j0 hj hl ln
        have tt := tri_b (x := dgt p a i) (y := dgt p b j) (z := T (16 * i + 4 * j + l)) (by have := dgt_bd (a := a) (i := i) h2.1; omega) (by have := dgt_bd (a := b) (i := j) h2.1; omega) t1
        apply w_Model_product_46
        rw [hN, hp]
        refine ⟨hD, fun z => fin s' j j0 (by omega) hs', fun z => ⟨hD, m_numberIn h2 hb (by omega) ⟨_, rfl, ?_⟩⟩⟩
        rw [w32_id (x := 16 * i) (by omega) (by omega), w32_id (x := 4 * j) (by omega) (by omega), w32_id (x := 16 * i + 4 * j) (by omega) (by omega), w32_id (x := 16 * i + 4 * j + l) (by omega) (by omega), lt, hTT, w32_id (x := dgt p a i * dgt p b j) (by omega) (by omega), w32_id (x := dgt p a i * dgt p b j * T (16 * i + 4 * j + l)) (by omega) (by omega), w32_id (x := s' + _) (by omega) (by omega)]
        refine ⟨⟨kt, by omega, by omega⟩, ?_⟩
        rintro _ rfl _ rfl
        rw [w32_id (by omega) (by omega)]
        refine hk2 _ ⟨by omega, ?_⟩
        rw [show (j + 1).toNat = j.toNat + 1 by omega, sm_succ, show ((j.toNat : Nat) : Int) = j by omega, hs', Int.add_assoc]
      · rintro s' ⟨j0, hs'⟩
        apply w_Model_product_46
        rw [hN]
        exact ⟨hD, fun _ => fin s' n (by omega) (Or.inr rfl) hs', fun z => absurd (Or.inl (Int.le_refl n)) z⟩
    · rintro s ⟨-, hs⟩
      have sb : 0 ≤ s := by
        rw [hs]
        exact (sm_bd (B := 4000) (fun u u0 u1 => by
          have := sm_bd (n := n.toNat) (f := fun j => dgt p a u * dgt p b j * T (16 * u + 4 * j + l)) (B := 1000) (fun j j0 j1 => (tri_b (by have := dgt_bd (a := a) (i := u) h2.1; omega) (by have := dgt_bd (a := b) (i := j) h2.1; omega) (hT u j l u0 (by omega) j0 (by omega) hl ln)).2.2)
          omega)).1
      have cp := mul_B (x := p) (y := 1) (by omega) (by omega)
      have cpb : 0 ≤ c * p ∧ c * p ≤ 20000 := by
        have u1 : c * p ≤ c * 7 := Int.mul_le_mul_of_nonneg_left h2.2 cB.1
        have u2 : 0 ≤ c * p := Int.mul_nonneg cB.1 (by omega)
        omega
      have sm1 : 0 ≤ s % p ∧ s % p < p := ⟨em_ge (by omega), em_lt (by omega)⟩
      apply w_Model_product_22
      rw [hN, hp, tm_nn sb, w32_id (x := c * p) (by omega) (by omega), w32_id (x := c * p + s % p) (by omega) (by omega)]
      refine ⟨hD, fun _ => ⟨hD, hD, by omega, ?_⟩, fun z => absurd (Int.le_refl n) z⟩
      rintro _ rfl _ rfl
      rw [w32_id (by omega) (by omega)]
      refine hnx _ ⟨by omega, ?_⟩
      rw [show (n - 1 - (l - 1)).toNat = (n - 1 - l).toNat + 1 by omega, show l - 1 + 1 = l by omega]
      show _ = pdS p n T a b l % p + p * cdF p (fun l => pdS p n T a b l % p) (n - 1 - l).toNat (l + 1)
      rw [← hc, hs, Int.mul_comm, Int.add_comm]
      rfl
  · rintro c ⟨-, hc⟩
    apply w_Model_product_11
    refine ⟨fun _ => ?_, fun z => absurd (show (0 : Int) - 1 < 0 by decide) z⟩
    rw [hc, show n - 1 - ((0 : Int) - 1) = n by omega]
    exact H
