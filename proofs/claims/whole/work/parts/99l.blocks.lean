/-! Rows in blocks: each block is a polynomial. -/
theorem blk {w i n x : Int} (i0 : 0 ≤ i) (hn : i < n) (x0 : 0 ≤ x) (hx : x < w) : 0 ≤ w * i + x ∧ w * i + x < w * n ∧ 0 ≤ w * i ∧ w * i + w ≤ w * n := by
  have h1 : 0 ≤ w * i := Int.mul_nonneg (by omega) i0
  have h2 : w * (i + 1) ≤ w * n := Int.mul_le_mul_of_nonneg_left (by omega) (by omega)
  rw [Int.mul_add, Int.mul_one] at h2
  omega
theorem blk_inj {w i j x y : Int} (x0 : 0 ≤ x) (hx : x < w) (y0 : 0 ≤ y) (hy : y < w) (h : w * i + x = w * j + y) : i = j ∧ x = y := by
  have e1 : (w * i + x) / w = i := by
    rw [Int.add_comm, Int.add_mul_ediv_left _ _ (by omega), Int.ediv_eq_zero_of_lt x0 hx, Int.zero_add]
  have e2 : (w * j + y) / w = j := by
    rw [Int.add_comm, Int.add_mul_ediv_left _ _ (by omega), Int.ediv_eq_zero_of_lt y0 hy, Int.zero_add]
  rw [h, e2] at e1
  subst e1
  exact ⟨rfl, by omega⟩
def BR (S : Hp) (a w n p : Int) (F : Int → Int → Int) : Prop := zK S a = 101 ∧ zL S a = w * n ∧ (∀ b i, 0 ≤ b → b < n → 0 ≤ i → i < w → zG S a (w * b + i) = F b i) ∧ (∀ b i, (i < 0 ∨ w ≤ i) → F b i = 0) ∧ ∀ b i, 0 ≤ F b i ∧ F b i < p
theorem BR.keep {M : Int → Prop} {S S' : Hp} {a w n p : Int} {F : Int → Int → Int} (h : BR S a w n p F) (hm : Md M S S') (ha : ¬ M a) : BR S' a w n p F := ⟨(hm.K a).trans h.1, (hm.L a).trans h.2.1, fun b i b0 b1 i0 i1 => (hm.G ha _).trans (h.2.2.1 b i b0 b1 i0 i1), h.2.2.2⟩
theorem BR.congr {S : Hp} {a w n p : Int} {F F' : Int → Int → Int} (h : BR S a w n p F) (e : ∀ b x, F b x = F' b x) : BR S a w n p F' := by
  have : F = F' := funext fun b => funext fun x => e b x
  rw [← this]
  exact h
theorem BR.rw {S : Hp} {a w n p b : Int} {F : Int → Int → Int} (h : BR S a w n p F) (b0 : 0 ≤ b) (b1 : b < n) {m : Int} (hm : m ≤ w) (hs : ∀ x, m ≤ x → F b x = 0) (x : Int) : rwP (zG S a) (w * b) m x = F b x := by
  unfold rwP
  by_cases q : 0 ≤ x ∧ x < m
  · rw [if_pos q, h.2.2.1 b x b0 b1 q.1 (by omega)]
  · rw [if_neg q]
    rcases Int.lt_or_le x 0 with q1 | q1
    · exact (h.2.2.2.1 b x (Or.inl q1)).symm
    · exact (hs x (by omega)).symm
/-- a block made anew -/
theorem BR.set {S : Hp} {a w n p k : Int} {F : Int → Int → Int} {G : Int → Int} {f : Int → Int} (h : BR S a w n p F) (k0 : 0 ≤ k) (k1 : k < n) (hf : ∀ i, 0 ≤ i → i < w → f (w * k + i) = G i) (ho : ∀ b i, 0 ≤ b → b < n → b ≠ k → 0 ≤ i → i < w → f (w * b + i) = zG S a (w * b + i)) (hz : ∀ i, (i < 0 ∨ w ≤ i) → G i = 0) (hb : ∀ i, 0 ≤ G i ∧ G i < p) : BR (zR S a f) a w n p (fun b => if b = k then G else F b) := by
  refine ⟨h.1, h.2.1, fun b i b0 b1 i0 i1 => ?_, fun b i hi => ?_, fun b i => ?_⟩
  · rw [zG_zR_at]
    (try dsimp only)
    by_cases q : b = k
    · subst q
      rw [if_pos rfl]
      exact hf i i0 i1
    · rw [if_neg q, ho b i b0 b1 q i0 i1]
      exact h.2.2.1 b i b0 b1 i0 i1
  · (try dsimp only)
    by_cases q : b = k
    · rw [if_pos q]
      exact hz i hi
    · rw [if_neg q]
      exact h.2.2.2.1 b i hi
  · (try dsimp only)
    by_cases q : b = k
    · rw [if_pos q]
      exact hb i
    · rw [if_neg q]
      exact h.2.2.2.2 b i
theorem cnv_deg {A B : Int → Int} {da db : Int} (hA : ∀ x, da < x → A x = 0) (hB : ∀ x, db < x → B x = 0) (x : Int) (hx : da + db < x) : cnv A B x = 0 := by
  unfold cnv
  refine sm_zeros (fun i i0 i1 => ?_)
  by_cases q : da < i
  · rw [hA i q, Int.zero_mul]
  · rw [hB (x - i) (by omega), Int.mul_zero]
theorem m_ppB {d : Nat} {D a wa na i oa ma da b wb nb j ob mb db t wt nt k o p : Int} {S : Hp} {A B T : Int → Int → Int} {Q : Vl → Hp → Prop} (hD : zK S D = 12) (hp : zG S D 0 = p) (h2 : 2 ≤ p ∧ p ≤ 7) (ta : t ≠ a) (tb : t ≠ b) (tD : t ≠ D) (ha : BR S a wa na p A) (hb : BR S b wb nb p B) (ht : BR S t wt nt p T) (i0 : 0 ≤ i) (i1 : i < na) (j0 : 0 ≤ j) (j1 : j < nb) (k0 : 0 ≤ k) (k1 : k < nt) (eoa : oa = wa * i) (eob : ob = wb * j) (eo : o = wt * k) (wa9 : 0 < wa) (wb9 : 0 < wb) (wt9 : 0 < wt) (la9 : wa * na ≤ 10000) (lb9 : wb * nb ≤ 10000) (lt9 : wt * nt ≤ 10000) (hma : 0 ≤ ma ∧ ma ≤ wa ∧ ma ≤ 1000) (hmb : 0 ≤ mb ∧ mb ≤ wb ∧ mb ≤ 1000) (sA : ∀ x, da < x → A i x = 0) (sB : ∀ x, db < x → B j x = 0) (fa : da < ma) (fb : db < mb) (ft : da + db < wt) (H : ∀ S', Md (fun x => x = t) S S' → BR S' t wt nt p (fun b => if b = k then fun x => (T k x + cnv (A i) (B j) x) % p else T b) → Q (3, 0) S') : Ev d 189 [(2, D), (2, a), (0, oa), (0, ma), (2, b), (0, ob), (0, mb), (2, t), (0, o)] S Q := by
  have ba := blk i0 i1 (x := 0) (w := wa) (by omega) (by omega)
  have bb := blk j0 j1 (x := 0) (w := wb) (by omega) (by omega)
  have bt := blk k0 k1 (x := 0) (w := wt) (by omega) (by omega)
  have rA : rwP (zG S a) oa ma = A i := funext fun x => by
    rw [eoa]
    exact ha.rw i0 i1 (by omega) (fun x hx => sA x (by omega)) x
  have rB : rwP (zG S b) ob mb = B j := funext fun x => by
    rw [eob]
    exact hb.rw j0 j1 (by omega) (fun x hx => sB x (by omega)) x
  have dg : ∀ x, wt ≤ x → cnv (A i) (B j) x = 0 := fun x hx => cnv_deg sA sB x (by omega)
  refine m_plusProduct hD hp h2 ta tb tD ha.1 hb.1 ht.1 ht.2.1 ⟨by omega, by rw [ha.2.1]; omega⟩ ⟨by omega, by rw [hb.2.1]; omega⟩ (by omega) (by omega) ⟨by omega, by omega⟩ (fun x x0 x1 => ?_) (fun x x0 x1 => ?_) (by omega) (by omega) (fun x x0 x1 => ?_) (fun u v hu hv => ?_) ?_
  · have e := ha.2.2.1 i (x - oa) i0 i1 (by omega) (by omega)
    rw [← eoa, show oa + (x - oa) = x by omega] at e
    have := ha.2.2.2.2 i (x - oa)
    omega
  · have e := hb.2.2.1 j (x - ob) j0 j1 (by omega) (by omega)
    rw [← eob, show ob + (x - ob) = x by omega] at e
    have := hb.2.2.2.2 j (x - ob)
    omega
  · have e := ht.2.2.1 (x / wt) (x % wt) (Int.ediv_nonneg (by omega) (by omega)) (Int.ediv_lt_of_lt_mul (by omega) (by rw [Int.mul_comm]; exact x1)) (em_ge (by omega)) (em_lt (by omega))
    rw [Int.mul_ediv_add_emod] at e
    rw [e]
    exact ht.2.2.2.2 _ _
  · rw [rA] at hu
    rw [rB] at hv
    have q1 : u ≤ da := by
      rcases Int.lt_or_le da u with z | z
      · exact absurd (sA u z) hu
      · exact z
    have q2 : v ≤ db := by
      rcases Int.lt_or_le db v with z | z
      · exact absurd (sB v z) hv
      · exact z
    omega
  · rw [rA, rB]
    refine H _ (Md.zR S t _) (ht.set (G := fun x => (T k x + cnv (A i) (B j) x) % p) k0 k1 (fun x x0 x1 => ?_) (fun c x c0 c1 hc x0 x1 => ?_) (fun x hx => ?_) (fun x => ⟨em_ge (by omega), em_lt (by omega)⟩))
    · have := blk k0 k1 x0 x1
      rw [if_pos (by omega), ht.2.2.1 k x k0 k1 x0 x1, eo, show wt * k + x - wt * k = x by omega]
    · have b1 := blk c0 c1 x0 x1
      have e := ht.2.2.1 c x c0 c1 x0 x1
      by_cases q : o ≤ wt * c + x
      · rw [if_pos ⟨q, by omega⟩]
        have z : cnv (A i) (B j) (wt * c + x - o) = 0 := by
          refine dg _ ?_
          have : k < c := by
            rcases Int.lt_or_le k c with z | z
            · exact z
            · have : wt * (c + 1) ≤ wt * k := Int.mul_le_mul_of_nonneg_left (by omega) (by omega)
              rw [Int.mul_add, Int.mul_one] at this
              omega
          have : wt * (k + 1) ≤ wt * c := Int.mul_le_mul_of_nonneg_left (by omega) (by omega)
          rw [Int.mul_add, Int.mul_one] at this
          omega
        rw [z, Int.add_zero, e, em_id (ht.2.2.2.2 c x).1 (ht.2.2.2.2 c x).2]
      · rw [if_neg (fun z => q z.1)]
    · show (T k x + cnv (A i) (B j) x) % p = 0
      rw [ht.2.2.2.1 k x hx]
      rcases hx with hx | hx
      · rw [cnv_neg hx]
        rfl
      · rw [dg x hx]
        rfl
/-- a row all 0 -/
theorem m_zeroB {d : Nat} {D a w n p : Int} {S : Hp} {Q : Vl → Hp → Prop} (k : zK S a = 101) (l : zL S a = w * n) (hw : 0 < w) (hn : 0 ≤ n) (hp : 0 < p) (l9 : w * n ≤ 100000) (H : ∀ S', Md (fun x => x = a) S S' → BR S' a w n p (fun _ _ => 0) → Q (3, 0) S') : Ev d 190 [(2, D), (2, a)] S Q := by
  refine m_zeroes k l ⟨Int.mul_nonneg (by omega) hn, l9⟩ (H _ (Md.zR S a _) ⟨k, l, fun b i b0 b1 i0 i1 => ?_, fun _ _ _ => rfl, fun _ _ => ⟨Int.le_refl 0, hp⟩⟩)
  have := blk b0 b1 i0 i1
  rw [zG_zR_at, if_pos ⟨by omega, by omega⟩]
theorem m_negB {d : Nat} {D a n p k o : Int} {S : Hp} {F : Int → Int → Int} {Q : Vl → Hp → Prop} (hD : zK S D = 12) (hp : zG S D 0 = p) (h2 : 2 ≤ p ∧ p ≤ 7) (aD : a ≠ D) (ha : BR S a 200 n p F) (k0 : 0 ≤ k) (k1 : k < n) (n9 : n ≤ 50) (eo : o = 200 * k) (H : ∀ S', Md (fun x => x = a) S S' → BR S' a 200 n p (fun b => if b = k then fun x => (-1 * F k x) % p else F b) → Q (3, 0) S') : Ev d 191 [(2, D), (2, a), (0, o)] S Q := by
  refine m_negated hD hp h2 aD ha.1 ha.2.1 (by omega) (by omega) (by omega) (fun x x0 x1 => ?_) (H _ (Md.zR S a _) (ha.set (G := fun x => (-1 * F k x) % p) k0 k1 (fun x x0 x1 => ?_) (fun c x c0 c1 hc x0 x1 => ?_) (fun x hx => ?_) (fun x => ⟨em_ge (by omega), em_lt (by omega)⟩)))
  · have e := ha.2.2.1 k (x - o) k0 k1 (by omega) (by omega)
    rw [show 200 * k + (x - o) = x by omega] at e
    rw [e]
    exact ha.2.2.2.2 _ _
  · rw [if_pos (by omega), ha.2.2.1 k x k0 k1 x0 x1]
  · rw [if_neg (by omega)]
  · show (-1 * F k x) % p = 0
    rw [ha.2.2.2.1 k x hx]
    rfl
