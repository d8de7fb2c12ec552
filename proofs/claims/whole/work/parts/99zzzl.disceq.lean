/-! The class's equation and discriminant are the reference's. -/
theorem bkQ_bd {p : Int} {E : Int → Int → Int} (hp : 2 ≤ p) : ∀ (r : Nat) (i x : Int), 0 ≤ bkQ p E r i x ∧ bkQ p E r i x < p
  | 0, i, x => by
    show 0 ≤ (if i = 0 ∧ x = 0 then (1 : Int) else 0) ∧ (if i = 0 ∧ x = 0 then (1 : Int) else 0) < p
    split <;> omega
  | r + 1, i, x => by
    show 0 ≤ (if 0 ≤ i ∧ i ≤ (r : Int) + 1 then sm (min i r + 1).toNat (fun k => cnv (bkH p r E (i - k)) (bkQ p E r k) x) % p else 0) ∧ (if 0 ≤ i ∧ i ≤ (r : Int) + 1 then sm (min i r + 1).toNat (fun k => cnv (bkH p r E (i - k)) (bkQ p E r k) x) % p else 0) < p
    split
    · exact ⟨em_ge (by omega), em_lt (by omega)⟩
    · omega
theorem mn_bk {p n : Int} {E G : Int → Int → Int} (hp : 2 ≤ p) (hn : 2 ≤ n ∧ n ≤ 4) (hm : MN p n E G) (j : Int) (j0 : 1 ≤ j) (j1 : j ≤ n) (x : Int) (x0 : 0 ≤ x) : G (zSt (p2 n - 1) + (n - j)) x = bkQ p E n.toNat j x := by
  obtain ⟨O, I, φ, h⟩ := hm_ex hp
  have bG : ∀ x, 0 ≤ G (zSt (p2 n - 1) + (n - j)) x ∧ G (zSt (p2 n - 1) + (n - j)) x < p := fun x => by
    have q : p2 n - 1 < p2 n ∧ 1 ≤ p2 n - 1 ∧ pcS (p2 n - 1) = n := by
      rcases (show n = 2 ∨ n = 3 ∨ n = 4 by omega) with rfl | rfl | rfl <;> decide
    rw [hm.2 (p2 n - 1) q.2.1 q.1 (n - j) (by omega) (by omega) x]
    exact ⟨em_ge (by omega), em_lt (by omega)⟩
  refine h.eqv ?_ bG (bkQ_bd hp _ _) x x0
  rcases (show n = 2 ∨ n = 3 ∨ n = 4 by omega) with rfl | rfl | rfl
  · have a := mn_ch2 h hm
    have b := bk_ch2 (E := E) h
    rcases (show j = 1 ∨ j = 2 by omega) with rfl | rfl
    · exact a.1.trans b.1.symm
    · exact a.2.trans b.2.symm
  · have a := mn_ch3 h hm
    have b := bk_ch3 (E := E) h
    rcases (show j = 1 ∨ j = 2 ∨ j = 3 by omega) with rfl | rfl | rfl
    · exact a.1.trans b.1.symm
    · exact a.2.1.trans b.2.1.symm
    · exact a.2.2.trans b.2.2.symm
  · have a := mn_ch4 h hm
    have b := bk_ch4 (E := E) h
    rcases (show j = 1 ∨ j = 2 ∨ j = 3 ∨ j = 4 by omega) with rfl | rfl | rfl | rfl
    · exact a.1.trans b.1.symm
    · exact a.2.1.trans b.2.1.symm
    · exact a.2.2.1.trans b.2.2.1.symm
    · exact a.2.2.2.trans b.2.2.2.symm
/-- there is one such row of traces -/
theorem NW_one {p n : Int} {C P R : Int → Int → Int} (hP : NW p n C P) (hR : NW p n C R) : ∀ (m : Nat) (k : Int), k < m → 0 ≤ k → k ≤ 2 * n - 2 → ∀ x, P k x = R k x
  | 0, k, hk, k0, k1, x => by omega
  | m + 1, k, hk, k0, k1, x => by
    rw [hP k k0 k1 x, hR k k0 k1 x, nwV_congr (R := R) (fun j j0 j1 i => NW_one hP hR m j (by omega) j0 (by omega) i)]
/-- entries that count -/
theorem bk_E {p n : Int} {E E' : Int → Int → Int} (hp : 2 ≤ p) (hn : 2 ≤ n ∧ n ≤ 4) (hE : ∀ i j, 0 ≤ i → i < n → 0 ≤ j → j < n → E (4 * i + j) = E' (4 * i + j)) (j : Int) (j0 : 1 ≤ j) (j1 : j ≤ n) (x : Int) (x0 : 0 ≤ x) : bkQ p E n.toNat j x = bkQ p E' n.toNat j x := by
  obtain ⟨O, I, φ, h⟩ := hm_ex hp
  refine h.eqv ?_ (bkQ_bd hp _ _) (bkQ_bd hp _ _) x x0
  have e : ∀ k i j, 4 * i + j = k → 0 ≤ i → i < n → 0 ≤ j → j < n → E k = E' k := fun k i j q i0 i1 j0 j1 => by rw [← q]; exact hE i j i0 i1 j0 j1
  rcases (show n = 2 ∨ n = 3 ∨ n = 4 by omega) with rfl | rfl | rfl
  · have a := bk_ch2 (E := E) h
    have b := bk_ch2 (E := E') h
    rw [e 0 0 0 rfl (by decide) (by decide) (by decide) (by decide), e 1 0 1 rfl (by decide) (by decide) (by decide) (by decide), e 4 1 0 rfl (by decide) (by decide) (by decide) (by decide), e 5 1 1 rfl (by decide) (by decide) (by decide) (by decide)] at a
    rcases (show j = 1 ∨ j = 2 by omega) with rfl | rfl
    · exact a.1.trans b.1.symm
    · exact a.2.trans b.2.symm
  · have a := bk_ch3 (E := E) h
    have b := bk_ch3 (E := E') h
    rw [e 0 0 0 rfl (by decide) (by decide) (by decide) (by decide), e 1 0 1 rfl (by decide) (by decide) (by decide) (by decide), e 2 0 2 rfl (by decide) (by decide) (by decide) (by decide), e 4 1 0 rfl (by decide) (by decide) (by decide) (by decide), e 5 1 1 rfl (by decide) (by decide) (by decide) (by decide), e 6 1 2 rfl (by decide) (by decide) (by decide) (by decide), e 8 2 0 rfl (by decide) (by decide) (by decide) (by decide), e 9 2 1 rfl (by decide) (by decide) (by decide) (by decide), e 10 2 2 rfl (by decide) (by decide) (by decide) (by decide)] at a
    rcases (show j = 1 ∨ j = 2 ∨ j = 3 by omega) with rfl | rfl | rfl
    · exact a.1.trans b.1.symm
    · exact a.2.1.trans b.2.1.symm
    · exact a.2.2.trans b.2.2.symm
  · have a := bk_ch4 (E := E) h
    have b := bk_ch4 (E := E') h
    rw [e 0 0 0 rfl (by decide) (by decide) (by decide) (by decide), e 1 0 1 rfl (by decide) (by decide) (by decide) (by decide), e 2 0 2 rfl (by decide) (by decide) (by decide) (by decide), e 3 0 3 rfl (by decide) (by decide) (by decide) (by decide), e 4 1 0 rfl (by decide) (by decide) (by decide) (by decide), e 5 1 1 rfl (by decide) (by decide) (by decide) (by decide), e 6 1 2 rfl (by decide) (by decide) (by decide) (by decide), e 7 1 3 rfl (by decide) (by decide) (by decide) (by decide), e 8 2 0 rfl (by decide) (by decide) (by decide) (by decide), e 9 2 1 rfl (by decide) (by decide) (by decide) (by decide), e 10 2 2 rfl (by decide) (by decide) (by decide) (by decide), e 11 2 3 rfl (by decide) (by decide) (by decide) (by decide), e 12 3 0 rfl (by decide) (by decide) (by decide) (by decide), e 13 3 1 rfl (by decide) (by decide) (by decide) (by decide), e 14 3 2 rfl (by decide) (by decide) (by decide) (by decide), e 15 3 3 rfl (by decide) (by decide) (by decide) (by decide)] at a
    rcases (show j = 1 ∨ j = 2 ∨ j = 3 ∨ j = 4 by omega) with rfl | rfl | rfl | rfl
    · exact a.1.trans b.1.symm
    · exact a.2.1.trans b.2.1.symm
    · exact a.2.2.1.trans b.2.2.1.symm
    · exact a.2.2.2.trans b.2.2.2.symm
theorem disc_eq {p n : Int} {C P R G : Int → Int → Int} (hp : 2 ≤ p) (hn : 2 ≤ n ∧ n ≤ 4) (hP : NW p n C P) (hG : MN p n (fun e => P (e / 4 + e % 4)) G) (hR : NW p n C R) (x : Int) (x0 : 0 ≤ x) : dscF p n G x = dsM p n (trE n R) x := by
  have e : G (zSt (p2 n - 1) + (n - n)) x = bkQ p (trE n R) n.toNat n x := by
    rw [mn_bk hp hn hG n (by omega) (Int.le_refl n) x x0]
    refine bk_E hp hn (fun i j i0 i1 j0 j1 => funext fun y => ?_) n (by omega) (Int.le_refl n) x x0
    unfold trE
    (try dsimp only)
    rw [if_pos (by omega), show (4 * i + j) / 4 + (4 * i + j) % 4 = i + j by omega]
    exact NW_one hP hR (2 * n).toNat (i + j) (by omega) (by omega) (by omega) y
  rw [Int.sub_self, Int.add_zero] at e
  unfold dscF dsM
  rw [e]
  have b := bkQ_bd (E := trE n R) hp n.toNat n x
  by_cases q : n % 2 = 0
  · rw [if_pos q, if_neg (by omega), Int.one_mul, em_id b.1 b.2]
  · rw [if_neg q, if_pos (by omega)]
