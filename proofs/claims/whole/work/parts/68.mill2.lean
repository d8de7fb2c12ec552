/-! Mill, second part: products, high powers of y by the curve, traces. -/
theorem cnv_b {A B : Int → Int} {k : Int} (hA : ∀ i, 0 ≤ A i ∧ A i < 10) (hB : ∀ i, 0 ≤ B i ∧ B i < 10) (hk : k < 900) : 0 ≤ cnv A B k ∧ cnv A B k ≤ 100000 := sm_b hA hB (by omega)
/-- row 0 of the table times W -/
def mulF (p n : Int) (W : Int → Int → Int) (T : Int → Int → Int → Int) : Int → Int → Int := fun l k => if 0 ≤ l ∧ l < n then sm n.toNat (fun j => cnv (W j) (T j l) k) % p else 0
set_option maxHeartbeats 2000000 in
theorem s_millMul {d : Nat} {A b o cf n p DW DT ro : Int} {N : Int → Int} {S : Hp} {W : Int → Int → Int} {T : Int → Int → Int → Int} {Q : Vl → Hp → Prop} (h : MW S A) (hu : Mu S A cf n p) (hn : 2 ≤ n ∧ n ≤ 4) (hp : 2 ≤ p ∧ p ≤ 7) (hw : LAN S b 4 N p W) (ho : LAW S o 4 (fun _ => ro)) (hT : ∀ i j, 0 ≤ i → i < n → 0 ≤ j → j < n → LN S (A + 1 + 1 + 2 * (4 * i + j)) 64 p (T i j)) (d1 : b + 8 < A ∨ A + 50 < b) (d2 : o + 8 < A ∨ A + 50 < o) (d3 : b + 8 < o ∨ o + 8 < b) (hDW : ∀ j, 0 ≤ j → j < n → ∀ i, DW < i → W j i = 0) (hDT : ∀ l j, 0 ≤ l → l < n → 0 ≤ j → j < n → ∀ i, DT < i → T l j i = 0) (hD : -1 ≤ DW ∧ -1 ≤ DT ∧ DW + DT < ro ∧ ro ≤ 200 ∧ 0 < ro)
    (H : ∀ S', Md (MA o 4) S S' → LAN S' o 4 (fun _ => ro) p (mulF p n W T) → Q (3, 0) S') : Ev (d + 2) 53 [(2, A), (2, b), (2, o)] S Q := by
  apply w_Mill_multiply_0
  refine s_zeroLines (p := p) ho (by omega) (by omega) (fun S0 m0 z0 => ⟨rfl, ?_⟩)
  refine loopU (P := fun l S' => At (d + 2) 53 c53_6 [(0, (2, A)), (1, (2, b)), (2, (2, o)), (3, (0, l))] [] S' Q) (I := fun l S' => 0 ≤ l ∧ Md (MA o 4) S S' ∧ LAN S' o 4 (fun _ => ro) p (fun j => if j < l then mulF p n W T j else fun _ => 0)) n ?_ ?_ 0 S0 (by omega) ⟨by omega, m0, z0.congr fun j j0 j1 k => by rw [if_neg (by omega)]⟩
  · rintro l S1 hl ⟨l0, lm, lz⟩ hk
    have hu1 := hu.keep lm (by unfold MA; omega)
    have hl1 := lz.at l0 (show l < 4 by omega)
    rw [if_neg (show ¬ l < l by omega)] at hl1
    obtain ⟨t0, ht0, -, -⟩ := hl1
    apply w_Mill_multiply_6
    rw [hu1.2.1]
    refine ⟨by rw [lm.K]; exact h.1, fun hc => by omega, fun _ => ?_⟩
    refine loopU (P := fun j S' => At (d + 2) 53 c53_17 [(0, (2, A)), (1, (2, b)), (2, (2, o)), (3, (0, l)), (4, (0, j))] [] S' Q) (I := fun j S' => 0 ≤ j ∧ Md (ML (o + 1 + 2 * l)) S1 S' ∧ ∃ t, LI S' (o + 1 + 2 * l) ro t (fun k => sm j.toNat (fun x => cnv (W x) (T x l) k))) n ?_ ?_ 0 S1 (by omega) ⟨by omega, Md.refl _ _, t0, ht0.congr fun k => rfl⟩
    · rintro j S2 hj ⟨j0, jm, t, jt⟩ hk2
      have mm2 : Md (MA o 4) S S2 := lm.tr (jm.wide (fun x hx => by unfold ML at hx; unfold MA; omega))
      have hu2 := hu.keep mm2 (by unfold MA; omega)
      have hw2 := hw.keep mm2 (fun x x1 x2 => by unfold MA; omega) (by omega)
      have hr2 := (hT j l j0 hj l0 hl).keep mm2 (by unfold MA; omega) (by unfold MA; omega)
      have hp2 : zG S2 o l = o + 1 + 2 * l := by rw [jm.G (by unfold ML; omega)]; exact lz.ptr l0 (by omega)
      have hk4 : zK S2 o = 104 := by rw [mm2.K]; exact ho.1
      have hl4 : zL S2 o = 4 := by rw [mm2.L]; exact ho.2.1
      have hwb := (hw2.at j0 (show j < 4 by omega)).bd
      have hrb := hr2.bd
      obtain ⟨u, u1, u2, u3⟩ := (hw2.at j0 (show j < 4 by omega)).deg (hDW j j0 hj) (by omega)
      obtain ⟨w, w1, w2, w3⟩ := hr2.deg (hDT j l j0 hj l0 hl) (by omega)
      have hmw : MW S2 A := h.keep mm2 (fun x x1 x2 => by unfold MA; omega)
      apply w_Mill_multiply_17
      rw [hu2.2.1, hp2, hw2.ptr j0 (by omega), hmw.2.1]
      simp (disch := omega) only [w32_id]
      rw [hmw.2.2.2.2.1.ptr (i := 4 * j + l) (by omega) (by omega)]
      refine ⟨hmw.1, fun hc => by omega, fun _ => ⟨⟨hk4, l0, by omega⟩, ⟨hw2.1, j0, by rw [hw2.2.1]; omega⟩, hmw.1, ⟨hmw.2.2.2.2.1.1, by omega, by rw [hmw.2.2.2.2.1.2.1]; omega⟩, jt.1.1, ?_⟩⟩
      have bd : ∀ k, -1000000000 ≤ sm j.toNat (fun x => cnv (W x) (T x l) k) ∧ sm j.toNat (fun x => cnv (W x) (T x l) k) ≤ 1000000000 := by
        intro k
        by_cases hk9 : t < k
        · have := jt.2.2.2.2.2.1 k hk9
          dsimp only at this
          omega
        · have ht9 := jt.2.2.2.1
          have b1 := sm_le (n := j.toNat) (f := fun x => cnv (W x) (T x l) k) (B := 100000) (fun x x0 x1 => (cnv_b (fun i => by have := (hw.at x0 (show x < 4 by omega)).bd i; omega) (fun i => by have := (hT x l x0 (by omega) l0 hl).bd i; omega) (by omega)).2)
          have b2 := sm_ge (n := j.toNat) (f := fun x => cnv (W x) (T x l) k) (B := 0) (fun x x0 x1 => by have := (cnv_b (A := W x) (B := T x l) (k := k) (fun i => by have := (hw.at x0 (show x < 4 by omega)).bd i; omega) (fun i => by have := (hT x l x0 (by omega) l0 hl).bd i; omega) (by omega)).1; omega)
          omega
      refine s_addProduct (n := ro) jt u1 w1 (by omega) (by omega) (fun k => by have := hwb k; omega) (fun k => by have := hrb k; omega) bd (Or.inl rfl) (fun _ _ => by omega) (fun S3 g1 g2 => ⟨rfl, ?_⟩)
      rintro _ rfl
      try rw [w32_id (by omega) (by omega)]
      refine hk2 _ ⟨by omega, jm.tr g1, _, g2.congr fun k => ?_⟩
      rw [show (j + 1).toNat = j.toNat + 1 by omega, sm_succ, show ((j.toNat : Nat) : Int) = j by omega]
      omega
    · rintro S2 ⟨j0, jm, t, jt⟩
      have mm2 : Md (MA o 4) S S2 := lm.tr (jm.wide (fun x hx => by unfold ML at hx; unfold MA; omega))
      have hu2 := hu.keep mm2 (by unfold MA; omega)
      have hp2 : zG S2 o l = o + 1 + 2 * l := by rw [jm.G (by unfold ML; omega)]; exact lz.ptr l0 (by omega)
      have hk4 : zK S2 o = 104 := by rw [mm2.K]; exact ho.1
      have hl4 : zL S2 o = 4 := by rw [mm2.L]; exact ho.2.1
      apply w_Mill_multiply_17
      rw [hu2.2.1, hp2, hu2.2.2]
      refine ⟨by rw [mm2.K]; exact h.1, fun _ => ⟨⟨hk4, l0, by omega⟩, by rw [mm2.K]; exact h.1, jt.1.1, n_settle jt (by omega) (fun S3 g1 g2 => ⟨rfl, ?_⟩)⟩, fun hc => absurd (show n ≤ n by omega) hc⟩
      rintro _ rfl
      try rw [w32_id (by omega) (by omega)]
      refine hk _ ⟨by omega, mm2.tr (g1.wide (fun x hx => by unfold ML at hx; unfold MA; omega)), (lz.set (jm.tr g1) l0 (by omega) g2).congr fun j j0 j1 k => ?_⟩
      by_cases e : j = l
      · rw [if_pos e, if_pos (show j < l + 1 by omega)]
        unfold mulF
        rw [if_pos (by omega), e]
      · rw [if_neg e]
        by_cases e2 : j < l
        · rw [if_pos e2, if_pos (by omega)]
        · rw [if_neg e2, if_neg (by omega)]
  · rintro S1 ⟨l0, lm, lz⟩
    have hu1 := hu.keep lm (by unfold MA; omega)
    apply w_Mill_multiply_6
    rw [hu1.2.1]
    refine ⟨by rw [lm.K]; exact h.1, fun _ => H S1 lm (lz.congr fun j j0 j1 k => ?_), fun hc => absurd (show n ≤ n by omega) hc⟩
    by_cases e : j < n
    · rw [if_pos e]
    · rw [if_neg e]
      unfold mulF
      rw [if_neg (by omega)]
/-- y^j goes down by the curve, where powers of y stand in W -/
def rdS (p n : Int) (C W : Int → Int → Int) (j : Int) : Int → Int → Int := fun h => if j - n ≤ h ∧ h < j then fun k => (W h k + (-1) * cnv (C (h - (j - n))) (W j) k) % p else W h
def rdN (p n : Int) (C : Int → Int → Int) : Nat → (Int → Int → Int) → Int → Int → Int
  | 0, W => W
  | s + 1, W => rdS p n C (rdN p n C s W) (6 - s)
theorem rdN_top {p n : Int} {C W : Int → Int → Int} (hn : 2 ≤ n) (hC : ∀ j, 0 ≤ j → j < n → ∀ i, 6 < i → C j i = 0) (hW : ∀ j i, 6 < i → W j i = 0) : ∀ (s : Nat) (j k : Int), 6 * (s + 1) < k → rdN p n C s W j k = 0
  | 0, j, k, h => hW j k (by omega)
  | s + 1, j, k, h => by
    show rdS p n C (rdN p n C s W) (6 - s) j k = 0
    unfold rdS
    split
    · dsimp only
      rw [rdN_top hn hC hW s j k (by omega), cnv_top (hC _ (by omega) (by omega)) (fun i hi => rdN_top hn hC hW s _ i hi) (by omega)]
      exact Int.zero_emod p
    · exact rdN_top hn hC hW s j k (by omega)
set_option maxHeartbeats 2000000 in
theorem s_reduce {d : Nat} {A g a cf n p r : Int} {S : Hp} {C W : Int → Int → Int} {Q : Vl → Hp → Prop} (h : MW S A) (hu : Mu S A cf n p) (hn : 2 ≤ n ∧ n ≤ 4) (hp : 2 ≤ p ∧ p ≤ 7) (hc : LAN S cf 4 (fun _ => 7) p C) (hg : zK S g = 101 ∧ zL S g = 49) (hW : ∀ e, 0 ≤ e → e < 49 → zG S g e = W (e / 7) (e % 7)) (hWb : ∀ j i, 0 ≤ W j i ∧ W j i < p) (hWh : ∀ j i, 6 < i → W j i = 0) (hWn : ∀ j i, i < 0 → W j i = 0) (hq : QW S a r) (hr : 40 ≤ r) (d1 : cf + 8 < A ∨ A + 50 < cf) (d2 : g < A ∨ A + 50 < g) (d3 : a + 9 < A ∨ A + 50 < a)
    (H : ∀ S', Md (fun x => MM A x ∨ MQ' a x) S S' → MW S' A → QN S' a r p 0 0 (fun j => if 0 ≤ j ∧ j < n then rdN p n C (7 - n).toNat W j else fun _ => 0) → Q (3, 0) S') : Ev (d + 3) 54 [(2, A), (2, g), (2, a)] S Q := by
  have hC : ∀ j, 0 ≤ j → j < n → ∀ i, 6 < i → C j i = 0 := fun j j0 j1 i hi => (hc.at j0 (by omega)).hi i (by omega)
  have hT := rdN_top (p := p) hn.1 hC hWh
  apply w_Mill_reduce_0
  rw [h.2.2.2.1]
  refine ⟨h.1, s_zeroLines (p := p) h.2.2.2.2.2.2 (by omega) (by omega) (fun S0 m0 z0 => ⟨rfl, ?_⟩)⟩
  have mm0 : Md (MM A) S S0 := m0.wide (fun x hx => by unfold MA at hx; unfold MM; omega)
  have w0 : MW S0 A := ⟨by rw [mm0.K]; exact h.1, by rw [m0.G (by unfold MA; omega)]; exact h.2.1, by rw [m0.G (by unfold MA; omega)]; exact h.2.2.1, by rw [m0.G (by unfold MA; omega)]; exact h.2.2.2.1, h.2.2.2.2.1.keep m0 (fun x x1 x2 => by unfold MA; omega) (by omega), h.2.2.2.2.2.1.keep m0 (by unfold MA; omega) (by unfold MA; omega), z0.w⟩
  refine loopU (P := fun e S' => At (d + 3) 54 c54_9 [(0, (2, A)), (1, (2, g)), (2, (2, a)), (3, (0, e))] [] S' Q) (I := fun e S' => 0 ≤ e ∧ Md (MM A) S S' ∧ MW S' A ∧ LAN S' (A + 36) 7 (fun _ => 40) p (fun j i => if 7 * j + i < e ∧ 0 ≤ i ∧ i < 7 then W j i else 0)) 49 ?_ ?_ 0 S0 (by omega) ⟨by omega, mm0, w0, z0.congr fun j j0 j1 i => by rw [if_neg (by omega)]⟩
  · rintro e S1 he ⟨e0, em, ew, ez⟩ hk
    have q1 : e.tdiv 7 = e / 7 := Int.tdiv_eq_ediv_of_nonneg e0
    have q2 : e.tmod 7 = e % 7 := tm_nn e0
    have hge : zG S1 g e = W (e / 7) (e % 7) := by rw [em.G (by unfold MM; omega)]; exact hW e e0 he
    apply w_Mill_reduce_9
    rw [q1, q2, hge, ew.2.2.2.1]
    simp (disch := omega) only [w32_id]
    rw [ez.ptr (i := e / 7) (by omega) (by omega)]
    refine ⟨fun hc => by omega, fun _ => ⟨ew.1, by omega, ⟨ez.1, by omega, by rw [ez.2.1]; omega⟩, by omega, ⟨by rw [em.K]; exact hg.1, e0, by rw [em.L, hg.2]; exact he⟩, (ez.at (i := e / 7) (by omega) (by omega)).ln.1, ?_⟩⟩
    refine n_write (n := 40) (ez.at (i := e / 7) (by omega) (by omega)) (fun i hi => ?_) (by omega) (by omega) (hWb _ _) (fun S2 g1 g2 => ⟨rfl, ?_⟩)
    · (try dsimp only)
      rw [if_neg (by omega)]
    · rintro _ rfl
      try rw [w32_id (by omega) (by omega)]
      refine hk _ ⟨by omega, em.tr (g1.wide (fun x hx => by unfold ML at hx; unfold MM; omega)), ew.pow g1 (by omega) (by omega) g2.w, (ez.set g1 (by omega) (by omega) g2).congr fun j j0 j1 i => ?_⟩
      by_cases ej : j = e / 7
      · rw [if_pos ej]
        by_cases ei : i = e % 7
        · rw [if_pos ei, if_pos (by omega), ej, ei]
        · rw [if_neg ei, ← ej]
          by_cases q : 7 * j + i < e ∧ 0 ≤ i ∧ i < 7
          · rw [if_pos q, if_pos (by omega)]
          · rw [if_neg q, if_neg (by omega)]
      · rw [if_neg ej]
        by_cases q : 7 * j + i < e ∧ 0 ≤ i ∧ i < 7
        · rw [if_pos q, if_pos (by omega)]
        · rw [if_neg q, if_neg (by omega)]
  · rintro S1 ⟨e0, em, ew, ez⟩
    have ez : LAN S1 (A + 36) 7 (fun _ => 40) p W := ez.congr fun j j0 j1 i => by
      by_cases q : 7 * j + i < 49 ∧ 0 ≤ i ∧ i < 7
      · rw [if_pos q]
      · rw [if_neg q]
        by_cases q2 : i < 0
        · exact (hWn j i q2).symm
        · exact (hWh j i (by omega)).symm
    apply w_Mill_reduce_9
    refine ⟨fun _ => ?_, fun hc => absurd (show (49 : Int) ≤ 49 by omega) hc⟩
    refine loopD (P := fun j S' => At (d + 3) 54 c54_43 [(0, (2, A)), (2, (2, a)), (3, (0, j))] [] S' Q) (I := fun j S' => j ≤ 6 ∧ Md (MM A) S S' ∧ MW S' A ∧ LAN S' (A + 36) 7 (fun _ => 40) p (rdN p n C (6 - j).toNat W)) n ?_ ?_ 6 S1 (by omega) ⟨by omega, em, ew, by rw [show ((6 : Int) - 6).toNat = 0 by omega]; exact ez⟩
    · rintro j S2 hj ⟨j0, jm, jw, jz⟩ hk
      have hu2 := hu.keep jm (by unfold MM; omega)
      apply w_Mill_reduce_43
      rw [hu2.2.1]
      refine ⟨jw.1, fun hc => by omega, fun _ => ?_⟩
      generalize hV : rdN p n C (6 - j).toNat W = V at jz
      have hVt : ∀ h k, 6 * ((6 - j) + 1) < k → V h k = 0 := fun h k hk9 => by rw [← hV]; exact hT _ _ _ (by omega)
      refine loopU (P := fun i S' => At (d + 3) 54 c54_54 [(0, (2, A)), (2, (2, a)), (3, (0, j)), (4, (0, i))] [] S' Q) (I := fun i S' => 0 ≤ i ∧ Md (MM A) S S' ∧ MW S' A ∧ LAN S' (A + 36) 7 (fun _ => 40) p (fun h => if j - n ≤ h ∧ h < j - n + i then fun k => (V h k + (-1) * cnv (C (h - (j - n))) (V j) k) % p else V h)) n ?_ ?_ 0 S2 (by omega) ⟨by omega, jm, jw, jz.congr fun h h0 h1 k => by rw [if_neg (by omega)]⟩
      · rintro i S3 hi ⟨i0, im, iw, iz⟩ hk2
        have hu3 := hu.keep im (by unfold MM; omega)
        have hc3 := hc.keep im (fun x x1 x2 => by unfold MM; omega) (by omega)
        have l1 := iz.at (i := j - n + i) (by omega) (by omega)
        have l2 := iz.at (i := j) (by omega) (by omega)
        rw [if_neg (by omega)] at l1 l2
        have hb1 := l1.bd
        have hb2 := l2.bd
        have hbc := (hc3.at i0 (show i < 4 by omega)).bd
        obtain ⟨t, t1, -, -⟩ := l1
        obtain ⟨u, u1, u2, u3⟩ := (hc3.at i0 (show i < 4 by omega)).deg (hC i i0 hi) (by omega)
        obtain ⟨w, w1, w2, w3⟩ := l2.deg (hVt j) (by omega)
        apply w_Mill_reduce_54
        rw [hu3.2.1, iw.2.2.2.1, hu3.1, hc3.ptr i0 (by omega)]
        simp (disch := omega) only [w32_id]
        rw [iz.ptr (i := j - n + i) (by omega) (by omega), iz.ptr (i := j) (by omega) (by omega)]
        refine ⟨iw.1, fun hc => by omega, fun _ => ⟨iw.1, iw.1, ⟨iz.1, by omega, by rw [iz.2.1]; omega⟩, iw.1, ⟨hc3.1, i0, by rw [hc3.2.1]; omega⟩, iw.1, ⟨iz.1, by omega, by rw [iz.2.1]; omega⟩, t1.1.1, ?_⟩⟩
        refine s_addProduct (n := 40) t1 u1 w1 (by omega) (by omega) (fun k => by have := hbc k; omega) (fun k => by have := hb2 k; omega) (fun k => by have := hb1 k; omega) (Or.inr rfl) (fun _ _ => by omega) (fun S4 g1 g2 => ⟨rfl, ?_⟩)
        have m4 := im.tr (g1.wide (N := MM A) (fun x hx => by unfold ML at hx; unfold MM; omega))
        have hu4 := hu.keep m4 (by unfold MM; omega)
        have w4 := iw.pow g1 (by omega) (by omega) ⟨_, _, g2⟩
        rw [hu4.2.1, w4.2.2.2.1, hu4.2.2]
        simp (disch := omega) only [w32_id]
        rw [w4.2.2.2.2.2.2.ptr (i := j - n + i) (by omega) (by omega)]
        refine ⟨w4.1, w4.1, ⟨w4.2.2.2.2.2.2.1, by omega, by rw [w4.2.2.2.2.2.2.2.1]; omega⟩, w4.1, g2.1.1, n_settle g2 (by omega) (fun S5 g3 g4 => ⟨rfl, ?_⟩)⟩
        rintro _ rfl
        try rw [w32_id (by omega) (by omega)]
        refine hk2 _ ⟨by omega, m4.tr (g3.wide (fun x hx => by unfold ML at hx; unfold MM; omega)), w4.pow g3 (by omega) (by omega) g4.w, (iz.set (g1.tr g3) (by omega) (by omega) g4).congr fun h h0 h1 k => ?_⟩
        by_cases e : h = j - n + i
        · rw [if_pos e, if_pos (show j - n ≤ h ∧ h < j - n + (i + 1) by omega), e, show j - n + i - (j - n) = i by omega]
        · rw [if_neg e]
          by_cases q : j - n ≤ h ∧ h < j - n + i
          · rw [if_pos q, if_pos (by omega)]
          · rw [if_neg q, if_neg (by omega)]
      · rintro S3 ⟨i0, im, iw, iz⟩
        have hu3 := hu.keep im (by unfold MM; omega)
        apply w_Mill_reduce_54
        rw [hu3.2.1]
        refine ⟨iw.1, fun _ => ?_, fun hc => absurd (show n ≤ n by omega) hc⟩
        rintro _ rfl
        try rw [w32_id (by omega) (by omega)]
        refine hk _ ⟨by omega, im, iw, iz.congr fun h h0 h1 k => ?_⟩
        rw [show (6 - (j - 1)).toNat = (6 - j).toNat + 1 by omega]
        show _ = rdS p n C (rdN p n C (6 - j).toNat W) (6 - ((6 - j).toNat : Int)) h k
        rw [hV, show 6 - ((6 - j).toNat : Int) = j by omega]
        unfold rdS
        by_cases q : j - n ≤ h ∧ h < j
        · rw [if_pos (by omega), if_pos q]
        · rw [if_neg (by omega), if_neg q]
    · rintro S2 ⟨j0, jm, jw, jz⟩
      have hu2 := hu.keep jm (by unfold MM; omega)
      rw [show (6 - (n - 1)).toNat = (7 - n).toNat by omega] at jz
      apply w_Mill_reduce_43
      rw [hu2.2.1]
      have hq2 := hq.keep jm (fun x x1 x2 => by unfold MM; omega)
      refine ⟨jw.1, fun _ => ⟨hq2.1, s_qzero (p := p) hq2 (by omega) (fun S3 m3 q3 => ⟨rfl, ?_⟩)⟩, fun hc => absurd (show n - 1 < n by omega) hc⟩
      have mm3 : Md (fun x => MM A x ∨ MQ' a x) S S3 := jm.trans m3
      have w3 : MW S3 A := jw.keep m3 (fun x x1 x2 => by unfold MQ'; omega)
      have z3 := jz.keep m3 (fun x x1 x2 => by unfold MQ'; omega) (by omega)
      refine loopU (P := fun i S' => At (d + 3) 54 c54_133 [(0, (2, A)), (2, (2, a)), (3, (0, i))] [] S' Q) (I := fun i S' => 0 ≤ i ∧ Md (MA (a + 1) 4) S3 S' ∧ LAN S' (a + 1) 4 (fun _ => r) p (fun j => if j < i then rdN p n C (7 - n).toNat W j else fun _ => 0)) n ?_ ?_ 0 S3 (by omega) ⟨by omega, Md.refl _ _, q3.2.2.2.2.congr fun j j0 j1 k => by rw [if_neg (by omega)]⟩
      · rintro i S4 hi ⟨i0, im, iz⟩ hk
        have hu4 := (hu2.keep m3 (by unfold MQ'; omega)).keep im (by unfold MA; omega)
        have w4 := w3.keep im (fun x x1 x2 => by unfold MA; omega)
        have z4 := z3.keep im (fun x x1 x2 => by unfold MA; omega) (by omega)
        have e1 : zG S4 a 0 = a + 1 := by rw [im.G (by unfold MA; omega)]; exact q3.2.1
        apply w_Mill_reduce_133
        rw [hu4.2.1, e1, w4.2.2.2.1, iz.ptr i0 (by omega), z4.ptr i0 (by omega)]
        refine ⟨w4.1, fun hc => by omega, fun _ => ⟨by rw [im.K]; exact q3.1, ⟨iz.1, i0, by rw [iz.2.1]; omega⟩, w4.1, ⟨z4.1, i0, by rw [z4.2.1]; omega⟩, (iz.at i0 (by omega)).ln.1, ?_⟩⟩
        refine n_take (n := r) (iz.at i0 (by omega)).w (z4.at i0 (by omega)) (by omega) (fun k hk9 => (z4.at i0 (show i < 7 by omega)).hi k (by omega)) (fun S5 g1 g2 => ⟨rfl, ?_⟩)
        rintro _ rfl
        try rw [w32_id (by omega) (by omega)]
        refine hk _ ⟨by omega, im.tr (g1.wide (fun x hx => by unfold ML at hx; unfold MA; omega)), (iz.set g1 i0 (by omega) g2).congr fun j j0 j1 k => ?_⟩
        by_cases e : j = i
        · rw [if_pos e, if_pos (show j < i + 1 by omega), e]
        · rw [if_neg e]
          by_cases q : j < i
          · rw [if_pos q, if_pos (by omega)]
          · rw [if_neg q, if_neg (by omega)]
      · rintro S4 ⟨i0, im, iz⟩
        have hu4 := (hu2.keep m3 (by unfold MQ'; omega)).keep im (by unfold MA; omega)
        have w4 := w3.keep im (fun x x1 x2 => by unfold MA; omega)
        have hna : ¬ MA (a + 1) 4 a := by unfold MA; omega
        apply w_Mill_reduce_133
        rw [hu4.2.1]
        refine ⟨w4.1, fun _ => H S4 (mm3.tr (im.wide (fun x hx => by unfold MA at hx; unfold MQ'; omega))) w4 ⟨by rw [im.K]; exact q3.1, by rw [im.G hna]; exact q3.2.1, by rw [im.G hna]; exact q3.2.2.1, by rw [im.G hna]; exact q3.2.2.2.1, iz.congr fun j j0 j1 k => ?_⟩, fun hc => absurd (show n ≤ n by omega) hc⟩
        by_cases q : j < n
        · rw [if_pos q, if_pos (by omega)]
        · rw [if_neg q, if_neg (by omega)]
