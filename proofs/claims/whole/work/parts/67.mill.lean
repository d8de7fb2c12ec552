/-! Mill: sums of a_j y^j multiplied by way of THE TABLE. -/
def MW (S : Hp) (A : Int) : Prop := zK S A = 5 ∧ zG S A 0 = A + 1 ∧ zG S A 1 = A + 34 ∧ zG S A 2 = A + 36 ∧ LAW S (A + 1) 16 (fun _ => 64) ∧ LW S (A + 34) 64 ∧ LAW S (A + 36) 7 (fun _ => 40)
/-- what a mill works with: the curve's lines, n, p -/
def Mu (S : Hp) (A cf n p : Int) : Prop := zG S A 3 = cf ∧ zG S A 4 = n ∧ zG S A 5 = p
/-- a mill's lines -/
def MM (A : Int) : Int → Prop := fun x => A < x ∧ x ≤ A + 50
theorem MW.keep {M : Int → Prop} {S S' : Hp} {A : Int} (h : MW S A) (hm : Md M S S') (hM : ∀ x, A ≤ x → x ≤ A + 50 → ¬ M x) : MW S' A := by
  obtain ⟨h1, h2, h3, h4, h5, h6, h7⟩ := h
  have h0 := hM A (by omega) (by omega)
  exact ⟨by rw [hm.K]; exact h1, by rw [hm.G h0]; exact h2, by rw [hm.G h0]; exact h3, by rw [hm.G h0]; exact h4, h5.keep hm (fun x h1 h2 => hM x (by omega) (by omega)) (by omega), h6.keep hm (hM _ (by omega) (by omega)) (hM _ (by omega) (by omega)), h7.keep hm (fun x h1 h2 => hM x (by omega) (by omega)) (by omega)⟩
theorem Mu.keep {M : Int → Prop} {S S' : Hp} {A cf n p : Int} (h : Mu S A cf n p) (hm : Md M S S') (hM : ¬ M A) : Mu S' A cf n p := ⟨by rw [hm.G hM]; exact h.1, by rw [hm.G hM]; exact h.2.1, by rw [hm.G hM]; exact h.2.2⟩
/-- a row of the table written -/
theorem MW.row {S S' : Hp} {A e : Int} (h : MW S A) (hm : Md (ML (A + 1 + 1 + 2 * e)) S S') (h0 : 0 ≤ e) (h1 : e < 16) (hl : LW S' (A + 1 + 1 + 2 * e) 64) : MW S' A := by
  obtain ⟨k1, k2, k3, k4, k5, k6, k7⟩ := h
  have hn : ¬ ML (A + 1 + 1 + 2 * e) A := by unfold ML; omega
  exact ⟨by rw [hm.K]; exact k1, by rw [hm.G hn]; exact k2, by rw [hm.G hn]; exact k3, by rw [hm.G hn]; exact k4, k5.set hm h0 h1 hl, k6.keep hm (by unfold ML; omega) (by unfold ML; omega), k7.keep hm (fun x h1 h2 => by unfold ML; omega) (by omega)⟩
theorem MW.pow {S S' : Hp} {A e : Int} (h : MW S A) (hm : Md (ML (A + 36 + 1 + 2 * e)) S S') (h0 : 0 ≤ e) (h1 : e < 7) (hl : LW S' (A + 36 + 1 + 2 * e) 40) : MW S' A := by
  obtain ⟨k1, k2, k3, k4, k5, k6, k7⟩ := h
  have hn : ¬ ML (A + 36 + 1 + 2 * e) A := by unfold ML; omega
  exact ⟨by rw [hm.K]; exact k1, by rw [hm.G hn]; exact k2, by rw [hm.G hn]; exact k3, by rw [hm.G hn]; exact k4, k5.keep hm (fun x h1 h2 => by unfold ML; omega) (by omega), k6.keep hm (by unfold ML; omega) (by unfold ML; omega), k7.set hm h0 h1 hl⟩
theorem s_use {d : Nat} {A cf n p : Int} {S : Hp} {Q : Vl → Hp → Prop} (h : MW S A) (H : ∀ S', Md (fun x => x = A) S S' → MW S' A → Mu S' A cf n p → Q (3, 0) S') : Ev d 51 [(2, A), (2, cf), (0, n), (0, p)] S Q := by
  apply w_Mill_use_0
  refine ⟨h.1, ?_⟩
  rintro _ rfl
  refine ⟨h.1, ?_⟩
  rintro _ rfl
  refine ⟨h.1, ?_⟩
  rintro _ rfl
  have hm : Md (fun x => x = A) S (zS (zS (zS S A 3 cf) A 4 n) A 5 p) := ((Md.zS _ _ _ _).tr (Md.zS _ _ _ _)).tr (Md.zS _ _ _ _)
  obtain ⟨k1, k2, k3, k4, k5, k6, k7⟩ := h
  refine H _ hm ⟨k1, ?_, ?_, ?_, k5.keep hm (fun x h1 h2 => by omega) (by omega), k6.keep hm (by omega) (by omega), k7.keep hm (fun x h1 h2 => by omega) (by omega)⟩ ⟨?_, ?_, ?_⟩
  · rw [zG_zS_ne _ (Or.inr (by omega)), zG_zS_ne _ (Or.inr (by omega)), zG_zS_ne _ (Or.inr (by omega))]
    exact k2
  · rw [zG_zS_ne _ (Or.inr (by omega)), zG_zS_ne _ (Or.inr (by omega)), zG_zS_ne _ (Or.inr (by omega))]
    exact k3
  · rw [zG_zS_ne _ (Or.inr (by omega)), zG_zS_ne _ (Or.inr (by omega)), zG_zS_ne _ (Or.inr (by omega))]
    exact k4
  · rw [zG_zS_ne _ (Or.inr (by omega)), zG_zS_ne _ (Or.inr (by omega)), zG_zS_at]
  · rw [zG_zS_ne _ (Or.inr (by omega)), zG_zS_at]
  · rw [zG_zS_at]
/-- THE TABLE of the sum of Z j y^j: row i, place j -/
def tbl (p n : Int) (C Z : Int → Int → Int) : Nat → Int → Int → Int
  | 0, j => Z j
  | i + 1, j => fun k => ((if 0 < j then tbl p n C Z i (j - 1) k else 0) + (-1) * cnv (C j) (tbl p n C Z i (n - 1)) k) % p
theorem cnv_top {A B : Int → Int} {u w k : Int} (hA : ∀ i, u < i → A i = 0) (hB : ∀ i, w < i → B i = 0) (hk : u + w < k) : cnv A B k = 0 := by
  unfold cnv
  refine sm_zeros fun i i0 i1 => ?_
  by_cases h : u < i
  · rw [hA i h, Int.zero_mul]
  · rw [hB (k - i) (by omega), Int.mul_zero]
theorem cnv_neg {A B : Int → Int} {k : Int} (hk : k < 0) : cnv A B k = 0 := by
  unfold cnv
  rw [show (k + 1).toNat = 0 by omega]
  rfl
theorem tbl_top {p n D : Int} {C Z : Int → Int → Int} (hC : ∀ j, 0 ≤ j → j < n → ∀ i, 6 < i → C j i = 0) (hZ : ∀ j, 0 ≤ j → j < n → ∀ i, D < i → Z j i = 0) : ∀ (i : Nat) (j : Int), 0 ≤ j → j < n → ∀ k, D + 6 * i < k → tbl p n C Z i j k = 0
  | 0, j, j0, j1, k, h => hZ j j0 j1 k (by omega)
  | i + 1, j, j0, j1, k, h => by
    show ((if 0 < j then tbl p n C Z i (j - 1) k else 0) + (-1) * cnv (C j) (tbl p n C Z i (n - 1)) k) % p = 0
    rw [cnv_top (hC j j0 j1) (tbl_top hC hZ i (n - 1) (by omega) (by omega)) (by omega)]
    have : (if 0 < j then tbl p n C Z i (j - 1) k else 0) = 0 := by
      split
      · exact tbl_top hC hZ i (j - 1) (by omega) (by omega) k (by omega)
      · rfl
    rw [this]
    exact Int.zero_emod p
set_option maxHeartbeats 2000000 in
theorem s_tabulate {d : Nat} {A b cf n p D : Int} {N : Int → Int} {S : Hp} {C Z : Int → Int → Int} {Q : Vl → Hp → Prop} (h : MW S A) (hu : Mu S A cf n p) (hn : 2 ≤ n ∧ n ≤ 4) (hp : 2 ≤ p ∧ p ≤ 7) (hD : -1 ≤ D ∧ D ≤ 45) (hc : LAN S cf 4 (fun _ => 7) p C) (hz : LAN S b 4 N p Z) (hb1 : b + 8 < A ∨ A + 50 < b) (hb2 : cf + 8 < A ∨ A + 50 < cf) (hZ : ∀ j, 0 ≤ j → j < n → ∀ i, D < i → Z j i = 0)
    (H : ∀ S', Md (MM A) S S' → MW S' A → (∀ i j, 0 ≤ i → i < n → 0 ≤ j → j < n → LN S' (A + 1 + 1 + 2 * (4 * i + j)) 64 p (tbl p n C Z i.toNat j)) → Q (3, 0) S') : Ev (d + 1) 52 [(2, A), (2, b)] S Q := by
  have hC : ∀ j, 0 ≤ j → j < n → ∀ i, 6 < i → C j i = 0 := fun j j0 j1 i hi => (hc.at j0 (by omega)).hi i (by omega)
  have hT := tbl_top (p := p) hC hZ
  apply w_Mill_tabulate_0
  refine loopU (P := fun l S' => At (d + 1) 52 c52_2 [(0, (2, A)), (1, (2, b)), (2, (0, l))] [] S' Q) (I := fun l S' => 0 ≤ l ∧ Md (MM A) S S' ∧ MW S' A ∧ ∀ j, 0 ≤ j → j < l → LN S' (A + 1 + 1 + 2 * j) 64 p (Z j)) n ?_ ?_ 0 S (by omega) ⟨by omega, Md.refl _ _, h, fun j j0 j1 => by omega⟩
  · rintro l S1 hl ⟨l0, lm, lw, lz⟩ hk
    have hu1 := hu.keep lm (by unfold MM; omega)
    have hz1 := hz.keep lm (fun x x1 x2 => by unfold MM; omega) (by omega)
    apply w_Mill_tabulate_2
    rw [hu1.2.1, lw.2.1, lw.2.2.2.2.1.ptr l0 (by omega), hz1.ptr l0 (by omega)]
    refine ⟨lw.1, fun hc => by omega, fun _ => ⟨lw.1, ⟨lw.2.2.2.2.1.1, l0, by rw [lw.2.2.2.2.1.2.1]; omega⟩, ⟨hz1.1, l0, by rw [hz1.2.1]; omega⟩, (lw.2.2.2.2.1.2.2 l l0 (by omega)).2.ln.1, ?_⟩⟩
    refine n_take (n := 64) (lw.2.2.2.2.1.2.2 l l0 (by omega)).2 (hz1.at l0 (by omega)) (by omega) (fun i hi => hZ l l0 hl i (by omega)) (fun S2 g1 g2 => ⟨rfl, ?_⟩)
    rintro _ rfl
    rw [w32_id (by omega) (by omega)]
    refine hk _ ⟨by omega, lm.tr (g1.wide (fun x hx => by unfold ML at hx; unfold MM; omega)), lw.row g1 l0 (by omega) g2.w, fun j j0 j1 => ?_⟩
    by_cases e : j = l
    · subst e
      exact g2
    · exact (lz j j0 (by omega)).keep g1 (by unfold ML; omega) (by unfold ML; omega)
  · rintro S1 ⟨l0, lm, lw, lz⟩
    have hu1 := hu.keep lm (by unfold MM; omega)
    apply w_Mill_tabulate_2
    rw [hu1.2.1]
    refine ⟨lw.1, fun _ => ?_, fun hc => absurd (show n ≤ n by omega) hc⟩
    refine loopU (P := fun i S' => At (d + 1) 52 c52_30 [(0, (2, A)), (2, (0, i))] [] S' Q) (I := fun i S' => 1 ≤ i ∧ Md (MM A) S S' ∧ MW S' A ∧ ∀ l j, 0 ≤ l → l < i → 0 ≤ j → j < n → LN S' (A + 1 + 1 + 2 * (4 * l + j)) 64 p (tbl p n C Z l.toNat j)) n ?_ ?_ 1 S1 (by omega) ⟨by omega, lm, lw, fun l j h1 h2 h3 h4 => by rw [show l = 0 by omega, show A + 1 + 1 + 2 * (4 * 0 + j) = A + 1 + 1 + 2 * j by omega]; exact lz j h3 h4⟩
    · rintro i S2 hi ⟨i0, im, iw, iz⟩ hk
      have hu2 := hu.keep im (by unfold MM; omega)
      apply w_Mill_tabulate_30
      rw [hu2.2.1, iw.2.1]
      simp (disch := omega) only [w32_id]
      rw [iw.2.2.2.2.1.ptr (i := 4 * (i - 1) + n - 1) (by omega) (by omega)]
      refine ⟨iw.1, fun hc => by omega, fun _ => ⟨iw.1, iw.1, ⟨iw.2.2.2.2.1.1, by omega, by rw [iw.2.2.2.2.1.2.1]; omega⟩, ?_⟩⟩
      rintro _ rfl
      refine loopU (P := fun j S' => At (d + 1) 52 c52_59 [(0, (2, A)), (2, (0, i)), (3, (2, A + 1 + 1 + 2 * (4 * (i - 1) + n - 1))), (4, (0, j))] [] S' Q) (I := fun j S' => 0 ≤ j ∧ Md (MM A) S S' ∧ MW S' A ∧ (∀ l j', 0 ≤ l → l < i → 0 ≤ j' → j' < n → LN S' (A + 1 + 1 + 2 * (4 * l + j')) 64 p (tbl p n C Z l.toNat j')) ∧ ∀ j', 0 ≤ j' → j' < j → LN S' (A + 1 + 1 + 2 * (4 * i + j')) 64 p (tbl p n C Z i.toNat j')) n ?_ ?_ 0 S2 (by omega) ⟨by omega, im, iw, iz, fun j' h1 h2 => by omega⟩
      · rintro j S3 hj ⟨j0, jm, jw, jz, jy⟩ hk2
        have hu3 := hu.keep jm (by unfold MM; omega)
        apply w_Mill_tabulate_59
        rw [hu3.2.1, jw.2.1]
        simp (disch := omega) only [w32_id]
        rw [jw.2.2.2.2.1.ptr (i := 4 * i + j) (by omega) (by omega)]
        refine ⟨jw.1, fun hc => by omega, fun _ => ⟨jw.1, ⟨jw.2.2.2.2.1.1, by omega, by rw [jw.2.2.2.2.1.2.1]; omega⟩, ?_⟩⟩
        rintro _ rfl
        have hlw := (jw.2.2.2.2.1.2.2 (4 * i + j) (by omega) (by omega)).2
        refine ⟨hlw.ln.1, n_zero hlw (show 0 < p by omega) (fun S4 g1 g2 => ⟨rfl, ?_⟩)⟩
        -- from here: the line holds R (what stood one place before, or nothing)
        have jw4 := jw.row g1 (by omega) (by omega) g2.w
        have jm4 := jm.tr (g1.wide (N := MM A) (fun x hx => by unfold ML at hx; unfold MM; omega))
        have kz : ∀ {S' : Hp}, Md (ML (A + 1 + 1 + 2 * (4 * i + j))) S3 S' → (∀ l j', 0 ≤ l → l < i → 0 ≤ j' → j' < n → LN S' (A + 1 + 1 + 2 * (4 * l + j')) 64 p (tbl p n C Z l.toNat j')) ∧ ∀ j', 0 ≤ j' → j' < j → LN S' (A + 1 + 1 + 2 * (4 * i + j')) 64 p (tbl p n C Z i.toNat j') := fun hm => ⟨fun l j' h1 h2 h3 h4 => (jz l j' h1 h2 h3 h4).keep hm (by unfold ML; omega) (by unfold ML; omega), fun j' h1 h2 => (jy j' h1 h2).keep hm (by unfold ML; omega) (by unfold ML; omega)⟩
        have go : ∀ (S5 : Hp) (t : Int) (R : Int → Int), Md (ML (A + 1 + 1 + 2 * (4 * i + j))) S3 S5 → MW S5 A → Md (MM A) S S5 → LI S5 (A + 1 + 1 + 2 * (4 * i + j)) 64 t R → (∀ k, 0 ≤ R k ∧ R k < p) → (∀ k, R k = if 0 < j then tbl p n C Z (i - 1).toNat (j - 1) k else 0) → At (d + 1) 52 c52_113 [(0, (2, A)), (2, (0, i)), (3, (2, A + 1 + 1 + 2 * (4 * (i - 1) + n - 1))), (4, (0, j)), (5, (2, A + 1 + 1 + 2 * (4 * i + j)))] [] S5 Q := by
          intro S5 t R m5 w5 mm5 h5 hR hRe
          have hu5 := hu.keep mm5 (by unfold MM; omega)
          have hc5 := hc.keep mm5 (fun x x1 x2 => by unfold MM; omega) (by omega)
          have hcb := (hc5.at j0 (show j < 4 by omega)).bd
          have hh5 := (kz m5).1 (i - 1) (n - 1) (by omega) (by omega) (by omega) (by omega)
          rw [show A + 1 + 1 + 2 * (4 * (i - 1) + (n - 1)) = A + 1 + 1 + 2 * (4 * (i - 1) + n - 1) by omega] at hh5
          have hhb := hh5.bd
          obtain ⟨u, u1, u2, u3⟩ := (hc5.at j0 (show j < 4 by omega)).deg (hC j j0 hj) (by omega)
          obtain ⟨w, w1, w2, w3⟩ := hh5.deg (hT (i - 1).toNat (n - 1) (by omega) (by omega)) (by omega)
          apply w_Mill_tabulate_113
          rw [hu5.1, hc5.ptr j0 (by omega)]
          refine ⟨w5.1, ⟨hc5.1, j0, by rw [hc5.2.1]; omega⟩, h5.1.1, ?_⟩
          refine s_addProduct h5 u1 w1 (by omega) (by omega) (fun k => by have := hcb k; omega) (fun k => by have := hhb k; omega) (fun k => by have := hR k; omega) (Or.inr rfl) (fun _ _ => by omega) (fun S6 g3 g4 => ⟨rfl, ?_⟩)
          have mm6 := mm5.tr (g3.wide (N := MM A) (fun x hx => by unfold ML at hx; unfold MM; omega))
          have hu6 := hu.keep mm6 (by unfold MM; omega)
          have w6 := w5.row g3 (by omega) (by omega) ⟨_, _, g4⟩
          rw [hu6.2.2]
          refine ⟨w6.1, g4.1.1, n_settle g4 (by omega) (fun S7 g5 g6 => ⟨rfl, ?_⟩)⟩
          rintro _ rfl
          rw [w32_id (by omega) (by omega)]
          have m7 := (m5.tr g3).tr g5
          refine hk2 _ ⟨by omega, mm6.tr (g5.wide (fun x hx => by unfold ML at hx; unfold MM; omega)), w6.row g5 (by omega) (by omega) g6.w, (kz m7).1, fun j' h1 h2 => ?_⟩
          by_cases e : j' = j
          · rw [e]
            refine g6.congr fun k => ?_
            rw [show i.toNat = (i - 1).toNat + 1 by omega]
            show _ = ((if 0 < j then tbl p n C Z (i - 1).toNat (j - 1) k else 0) + (-1) * cnv (C j) (tbl p n C Z (i - 1).toNat (n - 1)) k) % p
            rw [hRe k]
          · exact (kz m7).2 j' h1 (by omega)
        refine ⟨fun hj0 => ?_, fun hj0 => ⟨jw4.1, ⟨?_, by omega, ?_⟩, g2.ln.1, ?_⟩⟩
        · obtain ⟨t, t1, -, t3⟩ := g2
          exact go S4 t _ g1 jw4 jm4 t1 t3 (fun k => by rw [if_neg (by omega)])
        · rw [jw4.2.1]
          exact jw4.2.2.2.2.1.1
        · rw [jw4.2.1, jw4.2.2.2.2.1.2.1]
          omega
        · have hpv := (kz g1).1 (i - 1) (j - 1) (by omega) (by omega) (by omega) (by omega)
          rw [show A + 1 + 1 + 2 * (4 * (i - 1) + (j - 1)) = A + 1 + 1 + 2 * (4 * (i - 1) + j - 1) by omega] at hpv
          have hpb := hpv.bd
          have hpn := hpv.neg
          obtain ⟨u, u1, u2, u3⟩ := hpv.deg (hT (i - 1).toNat (j - 1) (by omega) (by omega)) (by omega)
          obtain ⟨t, t1, -, t3⟩ := g2
          rw [jw4.2.1, jw4.2.2.2.2.1.ptr (i := 4 * (i - 1) + j - 1) (by omega) (by omega)]
          refine s_add (n := 64) t1 u1 (by omega) (fun k => by have := hpb k; omega) (fun k => by omega) (by omega) (by omega) (fun S5 g3 g4 => ⟨rfl, ?_⟩)
          refine go S5 _ _ (g1.tr g3) (jw4.row g3 (by omega) (by omega) ⟨_, _, g4⟩) (jm4.tr (g3.wide (fun x hx => by unfold ML at hx; unfold MM; omega))) g4 (fun k => ?_) (fun k => ?_)
          · (try dsimp only)
            split
            · omega
            · rw [show k - 0 = k by omega]
              have := hpb k
              omega
          · (try dsimp only)
            rw [if_pos (show 0 < j by omega)]
            by_cases hk0 : k < 0
            · rw [if_pos hk0, hpn k hk0]
            · rw [if_neg hk0, show k - 0 = k by omega]
              omega
      · rintro S3 ⟨j0, jm, jw, jz, jy⟩
        have hu3 := hu.keep jm (by unfold MM; omega)
        apply w_Mill_tabulate_59
        rw [hu3.2.1]
        refine ⟨jw.1, fun _ => ?_, fun hc => absurd (show n ≤ n by omega) hc⟩
        rintro _ rfl
        rw [w32_id (by omega) (by omega)]
        refine hk _ ⟨by omega, jm, jw, fun l j h1 h2 h3 h4 => ?_⟩
        by_cases e : l = i
        · rw [e]
          exact jy j h3 h4
        · exact jz l j h1 (by omega) h3 h4
    · rintro S2 ⟨i0, im, iw, iz⟩
      have hu2 := hu.keep im (by unfold MM; omega)
      apply w_Mill_tabulate_30
      rw [hu2.2.1]
      exact ⟨iw.1, fun _ => H S2 im iw iz, fun hc => absurd (show n ≤ n by omega) hc⟩
