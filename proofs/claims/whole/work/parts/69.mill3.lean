/-! Mill, third part: traces by Newton's sums. -/
/-- the numbers of P k are Newton's sums of the curve's C -/
def nwV (n : Int) (C P : Int → Int → Int) (k x : Int) : Int := (if k = 0 then (if x = 0 then n else 0) else if k ≤ n then -k * C (n - k) x else 0) + (-1) * sm (min (k - 1) n).toNat (fun i => cnv (C (n - 1 - i)) (P (k - 1 - i)) x)
def NW (p n : Int) (C P : Int → Int → Int) : Prop := ∀ k, 0 ≤ k → k ≤ 2 * n - 2 → ∀ x, P k x = nwV n C P k x % p
theorem nwV_congr {n k x : Int} {C P R : Int → Int → Int} (h : ∀ j, 0 ≤ j → j < k → ∀ i, P j i = R j i) : nwV n C P k x = nwV n C R k x := by
  unfold nwV
  congr 2
  refine sm_congr fun i i0 i1 => ?_
  have : P (k - 1 - i) = R (k - 1 - i) := funext (h _ (by omega) (by omega))
  rw [this]
theorem NW.uniq {p n : Int} {C P R : Int → Int → Int} (h : NW p n C P) (h' : NW p n C R) : ∀ k, 0 ≤ k → k ≤ 2 * n - 2 → ∀ x, P k x = R k x := by
  have key : ∀ (m : Nat) (k : Int), k.toNat ≤ m → 0 ≤ k → k ≤ 2 * n - 2 → ∀ x, P k x = R k x := by
    intro m
    induction m with
    | zero =>
      intro k hm h0 h1 x
      rw [h k h0 h1, h' k h0 h1, nwV_congr (fun j j0 j1 => by omega)]
    | succ m ih =>
      intro k hm h0 h1 x
      rw [h k h0 h1, h' k h0 h1, nwV_congr (fun j j0 j1 => ih j (by omega) j0 (by omega))]
  exact fun k h0 h1 => key _ k (Nat.le_refl _) h0 h1
set_option maxHeartbeats 2000000 in
theorem s_traces {d : Nat} {A cf n p : Int} {S : Hp} {C : Int → Int → Int} {Q : Vl → Hp → Prop} (h : MW S A) (hu : Mu S A cf n p) (hn : 2 ≤ n ∧ n ≤ 4) (hp : 2 ≤ p ∧ p ≤ 7) (hc : LAN S cf 4 (fun _ => 7) p C) (d1 : cf + 8 < A ∨ A + 50 < cf)
    (H : ∀ S' P, Md (MM A) S S' → MW S' A → NW p n C P → (∀ k x, 6 * k < x → 0 ≤ k → k ≤ 2 * n - 2 → P k x = 0) → (∀ i j, 0 ≤ i → i < n → 0 ≤ j → j < n → LN S' (A + 1 + 1 + 2 * (4 * i + j)) 64 p (P (i + j))) → Q (3, 0) S') : Ev (d + 1) 55 [(2, A)] S Q := by
  have hC : ∀ j, 0 ≤ j → j < n → ∀ i, 6 < i → C j i = 0 := fun j j0 j1 i hi => (hc.at j0 (by omega)).hi i (by omega)
  have hCn : ∀ j, 0 ≤ j → j < n → ∀ i, i < 0 → C j i = 0 := fun j j0 j1 i hi => (hc.at j0 (by omega)).neg i hi
  have hCb : ∀ j, 0 ≤ j → j < n → ∀ i, 0 ≤ C j i ∧ C j i < p := fun j j0 j1 i => (hc.at j0 (by omega)).bd i
  apply w_Mill_traces_0
  refine loopU2 (α := Int → Int → Int) (P := fun k _ S' => At (d + 1) 55 c55_2 [(0, (2, A)), (1, (0, k))] [] S' Q) (I := fun k P S' => 0 ≤ k ∧ Md (MM A) S S' ∧ MW S' A ∧ (∀ j, 0 ≤ j → j < k → LN S' (A + 36 + 1 + 2 * j) 40 p (P j)) ∧ (∀ j, 0 ≤ j → j < k → ∀ x, P j x = nwV n C P j x % p) ∧ ∀ j x, 6 * j < x → 0 ≤ j → j < k → P j x = 0) (2 * n - 1) ?_ ?_ 0 (fun _ _ => 0) S (by omega) ⟨by omega, Md.refl _ _, h, fun j j0 j1 => by omega, fun j j0 j1 => by omega, fun j x hx j0 j1 => by omega⟩
  · rintro k P S1 hk ⟨k0, km, kw, kl, kn, kt⟩ hnext
    have hu1 := hu.keep km (by unfold MM; omega)
    have hlw := (kw.2.2.2.2.2.2.2.2 k k0 (by omega)).2
    have kb : ∀ j, 0 ≤ j → j < k → ∀ i, 0 ≤ P j i ∧ P j i < p := fun j j0 j1 => (kl j j0 j1).bd
    apply w_Mill_traces_2
    rw [hu1.2.1, kw.2.2.2.1, kw.2.2.2.2.2.2.ptr k0 (by omega)]
    simp (disch := omega) only [w32_id]
    refine ⟨kw.1, fun hc => by omega, fun _ => ⟨kw.1, ⟨kw.2.2.2.2.2.2.1, k0, by rw [kw.2.2.2.2.2.2.2.1]; omega⟩, ?_⟩⟩
    rintro _ rfl
    refine ⟨hlw.ln.1, n_zero (p := p) hlw (by omega) (fun S2 g1 g2 => ⟨rfl, ?_⟩)⟩
    have w2 := kw.pow g1 k0 (by omega) g2.w
    have m2 := km.tr (g1.wide (N := MM A) (fun x hx => by unfold ML at hx; unfold MM; omega))
    have hu2 := hu.keep m2 (by unfold MM; omega)
    have hc2 := hc.keep m2 (fun x x1 x2 => by unfold MM; omega) (by omega)
    -- the line holds the beginning R of the sum
    have go : ∀ (S3 : Hp) (t : Int) (R : Int → Int), Md (ML (A + 36 + 1 + 2 * k)) S1 S3 → LI S3 (A + 36 + 1 + 2 * k) 40 t R → (∀ x, -1000 ≤ R x ∧ R x ≤ 1000) → (∀ x, (R x - (if k = 0 then (if x = 0 then n else 0) else if k ≤ n then -k * C (n - k) x else 0)) % p = 0) → (∀ x, 6 * k < x → R x = 0) → At (d + 1) 55 c55_72 [(0, (2, A)), (1, (0, k)), (2, (2, A + 36 + 1 + 2 * k))] [] S3 Q := by
      intro S3 t R m3 t3 hR hRe hRt
      apply w_Mill_traces_72
      obtain ⟨e, he, he1, he2, he3⟩ : ∃ e : Int, 1 ≤ e ∧ e ≤ max k 1 ∧ (min (k - 1) n).toNat = (e - 1).toNat ∧ (k ≤ e ∨ n < e) ∧ e ≤ n + 1 := ⟨max 1 (min k (n + 1)), by omega, by omega, by omega, by omega, by omega⟩
      refine loopU (P := fun i S' => At (d + 1) 55 c55_74 [(0, (2, A)), (1, (0, k)), (2, (2, A + 36 + 1 + 2 * k)), (3, (0, i))] [] S' Q) (I := fun i S' => 1 ≤ i ∧ Md (ML (A + 36 + 1 + 2 * k)) S1 S' ∧ ∃ t, LI S' (A + 36 + 1 + 2 * k) 40 t (fun x => R x + (-1) * sm (i - 1).toNat (fun l => cnv (C (n - 1 - l)) (P (k - 1 - l)) x))) e ?_ ?_ 1 S3 he ⟨by omega, m3, t, t3.congr fun x => by rw [show ((1 : Int) - 1).toNat = 0 by omega, sm_zero]; omega⟩
      · rintro i S4 hi ⟨i0, im, u, iu⟩ hk2
        have hik : i < k := by omega
        have hin : i ≤ n := by omega
        have mm4 := km.tr (im.wide (N := MM A) (fun x hx => by unfold ML at hx; unfold MM; omega))
        have hu4 := hu.keep mm4 (by unfold MM; omega)
        have hc4 := hc.keep mm4 (fun x x1 x2 => by unfold MM; omega) (by omega)
        have w4 := kw.pow im k0 (by omega) ⟨_, _, iu⟩
        have l4 := (kl (k - i) (by omega) (by omega)).keep im (by unfold ML; omega) (by unfold ML; omega)
        obtain ⟨v, v1, v2, v3⟩ := (hc4.at (i := n - i) (by omega) (by omega)).deg (hC (n - i) (by omega) (by omega)) (by omega)
        obtain ⟨w, x1, x2, x3⟩ := l4.deg (fun x hx => kt (k - i) x hx (by omega) (by omega)) (by omega)
        apply w_Mill_traces_74
        rw [hu4.2.1, hu4.1, w4.2.2.2.1]
        simp (disch := omega) only [w32_id]
        rw [hc4.ptr (i := n - i) (by omega) (by omega), w4.2.2.2.2.2.2.ptr (i := k - i) (by omega) (by omega)]
        refine ⟨fun _ => w4.1, fun hc => by omega, fun _ => ⟨w4.1, w4.1, ⟨hc4.1, by omega, by rw [hc4.2.1]; omega⟩, w4.1, ⟨w4.2.2.2.2.2.2.1, by omega, by rw [w4.2.2.2.2.2.2.2.1]; omega⟩, iu.1.1, ?_⟩⟩
        refine s_addProduct (n := 40) iu v1 x1 (by omega) (by omega) (fun y => by have := hCb (n - i) (by omega) (by omega) y; omega) (fun y => by have := kb (k - i) (by omega) (by omega) y; omega) (fun y => ?_) (Or.inr rfl) (fun _ _ => by omega) (fun S5 g3 g4 => ⟨rfl, ?_⟩)
        · by_cases hy : u < y
          · have := iu.2.2.2.2.2.1 y hy
            dsimp only at this
            omega
          · have hu9 := iu.2.2.2.1
            have b0 := hR y
            have b1 := sm_le (n := (i - 1).toNat) (f := fun l => cnv (C (n - 1 - l)) (P (k - 1 - l)) y) (B := 100000) (fun l l0 l1 => (cnv_b (A := C (n - 1 - l)) (B := P (k - 1 - l)) (k := y) (fun z => by have := hCb (n - 1 - l) (by omega) (by omega) z; omega) (fun z => by have := kb (k - 1 - l) (by omega) (by omega) z; omega) (by omega)).2)
            have b2 := sm_ge (n := (i - 1).toNat) (f := fun l => cnv (C (n - 1 - l)) (P (k - 1 - l)) y) (B := 0) (fun l l0 l1 => by have := (cnv_b (A := C (n - 1 - l)) (B := P (k - 1 - l)) (k := y) (fun z => by have := hCb (n - 1 - l) (by omega) (by omega) z; omega) (fun z => by have := kb (k - 1 - l) (by omega) (by omega) z; omega) (by omega)).1; omega)
            omega
        · rintro _ rfl
          try rw [w32_id (by omega) (by omega)]
          refine hk2 _ ⟨by omega, im.tr g3, _, g4.congr fun x => ?_⟩
          rw [show (i + 1 - 1).toNat = (i - 1).toNat + 1 by omega, sm_succ, show (((i - 1).toNat : Nat) : Int) = i - 1 by omega, show n - 1 - (i - 1) = n - i by omega, show k - 1 - (i - 1) = k - i by omega]
          omega
      · rintro S4 ⟨i0, im, u, iu⟩
        have mm4 := km.tr (im.wide (N := MM A) (fun x hx => by unfold ML at hx; unfold MM; omega))
        have hu4 := hu.keep mm4 (by unfold MM; omega)
        have w4 := kw.pow im k0 (by omega) ⟨_, _, iu⟩
        apply w_Mill_traces_74
        rw [hu4.2.1]
        refine ⟨fun _ => w4.1, fun _ => ?_, fun hc => absurd (by omega) hc⟩
        apply w_Mill_traces_117
        rw [hu4.2.2]
        refine ⟨w4.1, iu.1.1, n_settle iu (by omega) (fun S5 g3 g4 => ⟨rfl, ?_⟩)⟩
        rintro _ rfl
        rw [w32_id (by omega) (by omega)]
        have key : ∀ x, (R x + (-1) * sm (e - 1).toNat (fun l => cnv (C (n - 1 - l)) (P (k - 1 - l)) x)) % p = nwV n C P k x % p := by
          intro x
          unfold nwV
          rw [he2, em_sub]
          have := hRe x
          rw [show R x + (-1) * sm (e - 1).toNat (fun l => cnv (C (n - 1 - l)) (P (k - 1 - l)) x) - ((if k = 0 then (if x = 0 then n else 0) else if k ≤ n then -k * C (n - k) x else 0) + (-1) * sm (e - 1).toNat (fun i => cnv (C (n - 1 - i)) (P (k - 1 - i)) x)) = R x - (if k = 0 then (if x = 0 then n else 0) else if k ≤ n then -k * C (n - k) x else 0) by omega]
          exact this
        refine hnext (fun j => if j = k then fun x => nwV n C P k x % p else P j) _ ⟨by omega, mm4.tr (g3.wide (fun x hx => by unfold ML at hx; unfold MM; omega)), w4.pow g3 k0 (by omega) g4.w, fun j j0 j1 => ?_, fun j j0 j1 x => ?_, fun j x hx j0 j1 => ?_⟩
        · by_cases ej : j = k
          · rw [if_pos ej, ej]
            exact g4.congr key
          · rw [if_neg ej]
            exact (kl j j0 (by omega)).keep (im.tr g3) (by unfold ML; omega) (by unfold ML; omega)
        · have hcg : nwV n C (fun j => if j = k then fun x => nwV n C P k x % p else P j) j x = nwV n C P j x := nwV_congr (fun l l0 l1 i => by rw [if_neg (by omega)])
          rw [hcg]
          by_cases ej : j = k
          · rw [if_pos ej, ej]
          · rw [if_neg ej]
            exact kn j j0 (by omega) x
        · by_cases ej : j = k
          · rw [if_pos ej, ← key x, hRt x (by omega), sm_zeros (fun l l0 l1 => ?_)]
            · exact Int.zero_emod p
            · exact cnv_top (hC _ (by omega) (by omega)) (fun y hy => kt (k - 1 - l) y hy (by omega) (by omega)) (by omega)
          · rw [if_neg ej]
            exact kt j x hx j0 (by omega)
    obtain ⟨t2, t2l, t2z, -⟩ := g2
    refine ⟨fun hk0 => ⟨w2.1, fun hq => ?_, fun hq => ⟨w2.1, w2.1, ⟨by rw [hu2.1]; exact hc2.1, by have := hu2.2.1; rw [hu2.2.1, w32_id (by omega) (by omega)]; omega, by have := hu2.2.1; rw [hu2.1, hu2.2.1, hc2.2.1, w32_id (by omega) (by omega)]; omega⟩, t2l.1.1, ?_⟩⟩, fun hk0 => ⟨w2.1, w2.1, by rw [hu2.2.2]; omega, t2l.1.1, ?_⟩⟩
    · rw [hu2.2.1] at hq
      exact go S2 t2 _ g1 t2l (fun x => by omega) (fun x => by rw [if_neg hk0, if_neg (by omega)]; exact Int.zero_emod p) (fun x hx => rfl)
    · rw [hu2.2.1] at hq
      rw [hu2.1, hu2.2.1, w32_id (x := n - k) (by omega) (by omega), hc2.ptr (i := n - k) (by omega) (by omega)]
      obtain ⟨v, v1, v2, v3⟩ := (hc2.at (i := n - k) (by omega) (by omega)).deg (hC (n - k) (by omega) (by omega)) (by omega)
      have vb : ∀ x, -1000 ≤ -k * C (n - k) x ∧ -k * C (n - k) x ≤ 1000 := fun x => by
        have := hCb (n - k) (by omega) (by omega) x
        have := mul_b (x := k) (y := C (n - k) x) (by omega) (by omega)
        rw [Int.neg_mul]
        omega
      refine s_add (n := 40) t2l v1 (by omega) (fun x => by have := vb x; omega) (fun x => by omega) (by omega) (by omega) (fun S3 g3 g4 => ⟨rfl, ?_⟩)
      refine go S3 _ _ (g1.tr g3) g4 (fun x => ?_) (fun x => ?_) (fun x hx => ?_)
      · have := vb (x - 0)
        (try dsimp only)
        split <;> omega
      · (try dsimp only)
        rw [if_neg hk0, if_pos (show k ≤ n by omega)]
        by_cases hx : x < 0
        · rw [if_pos hx, hCn (n - k) (by omega) (by omega) x hx, Int.mul_zero]
          exact Int.zero_emod p
        · rw [if_neg hx, show x - 0 = x by omega, Int.zero_add, Int.sub_self]
          exact Int.zero_emod p
      · (try dsimp only)
        rw [if_neg (by omega), hC (n - k) (by omega) (by omega) (x - 0) (by omega), Int.mul_zero]
        rfl
    · have hk0' : k = 0 := by omega
      rw [hu2.2.1, hu2.2.2, tm_nn (by omega)]
      refine s_write (n := 40) t2l ?_ (by omega) (by omega) (fun S3 g3 g4 => ⟨rfl, ?_⟩)
      · by_cases h9 : 0 ≤ t2
        · exact absurd rfl (t2z h9)
        · omega
      · refine go S3 _ _ (g1.tr g3) g4 (fun x => ?_) (fun x => ?_) (fun x hx => ?_)
        · have b1 := em_ge (x := n) (p := p) (by omega)
          have b2 := em_lt (x := n) (p := p) (by omega)
          (try dsimp only)
          split <;> omega
        · (try dsimp only)
          rw [if_pos hk0']
          split
          · rw [← em_sub, Int.emod_emod]
          · exact Int.zero_emod p
        · (try dsimp only)
          rw [if_neg (by omega)]
  · rintro P S1 ⟨k0, km, kw, kl, kn, kt⟩
    have hu1 := hu.keep km (by unfold MM; omega)
    apply w_Mill_traces_2
    rw [hu1.2.1]
    simp (disch := omega) only [w32_id]
    refine ⟨kw.1, fun _ => ?_, fun hc => absurd (by omega) hc⟩
    refine loopU (P := fun e S' => At (d + 1) 55 c55_133 [(0, (2, A)), (1, (0, e))] [] S' Q) (I := fun e S' => 0 ≤ e ∧ Md (MM A) S S' ∧ MW S' A ∧ (∀ j, 0 ≤ j → j < 2 * n - 1 → LN S' (A + 36 + 1 + 2 * j) 40 p (P j)) ∧ ∀ i j, 0 ≤ i → i < n → 0 ≤ j → j < n → 4 * i + j < e → LN S' (A + 1 + 1 + 2 * (4 * i + j)) 64 p (P (i + j))) (4 * n) ?_ ?_ 0 S1 (by omega) ⟨by omega, km, kw, kl, fun i j i0 i1 j0 j1 he => by omega⟩
    · rintro e S2 he ⟨e0, em, ew, el, er⟩ hk
      have hu2 := hu.keep em (by unfold MM; omega)
      have q1 : e.tdiv 4 = e / 4 := Int.tdiv_eq_ediv_of_nonneg e0
      have q2 : e.tmod 4 = e % 4 := tm_nn e0
      have hx : ∀ S3, Md (MM A) S S3 → MW S3 A → (∀ j, 0 ≤ j → j < 2 * n - 1 → LN S3 (A + 36 + 1 + 2 * j) 40 p (P j)) → (∀ i j, 0 ≤ i → i < n → 0 ≤ j → j < n → 4 * i + j < e + 1 → LN S3 (A + 1 + 1 + 2 * (4 * i + j)) 64 p (P (i + j))) → At (d + 1) 55 c55_174 [(0, (2, A)), (1, (0, e))] [] S3 Q := by
        intro S3 a1 a2 a3 a4
        apply w_Mill_traces_174
        rintro _ rfl
        rw [w32_id (by omega) (by omega)]
        exact hk _ ⟨by omega, a1, a2, a3, a4⟩
      apply w_Mill_traces_133
      rw [hu2.2.1, q1, q2, ew.2.1, ew.2.2.2.1]
      simp (disch := omega) only [w32_id]
      refine ⟨ew.1, fun hc => by omega, fun _ => ⟨by omega, ew.1, fun hq => hx S2 em ew el (fun i j i0 i1 j0 j1 h9 => er i j i0 i1 j0 j1 (by omega)), fun hq => ?_⟩⟩
      rw [ew.2.2.2.2.1.ptr e0 (by omega), ew.2.2.2.2.2.2.ptr (i := e / 4 + e % 4) (by omega) (by omega)]
      have hlw := (ew.2.2.2.2.1.2.2 e e0 (by omega)).2
      refine ⟨ew.1, ⟨ew.2.2.2.2.1.1, e0, by rw [ew.2.2.2.2.1.2.1]; omega⟩, ew.1, by omega, by omega, ⟨ew.2.2.2.2.2.2.1, by omega, by rw [ew.2.2.2.2.2.2.2.1]; omega⟩, hlw.ln.1, ?_⟩
      have hll := el (e / 4 + e % 4) (by omega) (by omega)
      refine n_take (n := 64) hlw hll (by omega) (fun x hx9 => hll.hi x (by omega)) (fun S3 g1 g2 => ⟨rfl, ?_⟩)
      refine hx S3 (em.tr (g1.wide (fun x hx => by unfold ML at hx; unfold MM; omega))) (ew.row g1 e0 (by omega) g2.w) (fun j j0 j1 => (el j j0 j1).keep g1 (by unfold ML; omega) (by unfold ML; omega)) (fun i j i0 i1 j0 j1 h9 => ?_)
      by_cases e9 : 4 * i + j = e
      · rw [e9, show i + j = e / 4 + e % 4 by omega]
        exact g2
      · exact (er i j i0 i1 j0 j1 (by omega)).keep g1 (by unfold ML; omega) (by unfold ML; omega)
    · rintro S2 ⟨e0, em, ew, el, er⟩
      have hu2 := hu.keep em (by unfold MM; omega)
      apply w_Mill_traces_133
      rw [hu2.2.1]
      simp (disch := omega) only [w32_id]
      exact ⟨ew.1, fun _ => H S2 P em ew (fun k h0 h1 => kn k h0 (by omega)) (fun k x hx k0 k1 => kt k x hx k0 (by omega)) (fun i j i0 i1 j0 j1 => er i j i0 i1 j0 j1 (by omega)), fun hc => absurd (by omega) hc⟩
