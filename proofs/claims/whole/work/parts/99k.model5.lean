/-! The model: multiplicities, order, numbers of the curve. -/
set_option maxHeartbeats 1000000 in
theorem m_movesCurve {d : Nat} {D p c dd : Int} {S : Hp} {F : Int → Int} {Q : Vl → Hp → Prop} (h : DW S D) (h0 : zG S D 0 = p) (hp : 2 ≤ p ∧ p ≤ 7) (hc : 0 ≤ c ∧ c < p) (hd : 0 ≤ dd ∧ dd < p) (hF : ∀ e, 0 ≤ e → e < 49 → zG S (D + 1) e = F e) (hFb : ∀ e, 0 ≤ F e ∧ F e < p) (H : ∀ S', Md (fun x => x = D + 31) S S' → DW S' D → (∀ e, 0 ≤ e → e < 49 → zG S' (D + 31) e = if 0 < dd then mvD p dd (mvC p c F) e else mvC p c F e) → Q (3, 0) S') : Ev (d + 1) 208 [(2, D), (0, c), (0, dd)] S Q := by
  have hM1 := fun e => mvC_bd (c := c) (show 0 < p by omega) hFb e
  obtain ⟨f1, f2, f3⟩ := h.x_f
  obtain ⟨g1, g2, g3⟩ := h.x_moved
  apply w_Model_movesCurve_0
  refine loopU (P := fun i S' => At (d + 1) 208 c208_2 [(0, (2, D)), (1, (0, c)), (2, (0, dd)), (3, (0, i))] [] S' Q) (I := fun i S' => 0 ≤ i ∧ Md (fun x => x = D + 31) S S' ∧ ∀ e, 0 ≤ e → e < i → zG S' (D + 31) e = F e) 49 ?_ ?_ 0 S (by omega) ⟨by omega, Md.refl _ _, fun e e0 e1 => by omega⟩
  · rintro i S1 hi ⟨i0, im, ig⟩ hk
    apply w_Model_movesCurve_2
    rw [im.G (a := D) (by omega), im.G (a := D) (by omega), f1, g1, im.G (a := D + 1) (by omega), hF i i0 hi]
    refine ⟨fun hc => by omega, fun _ => ⟨by rw [im.K]; exact h.1, by rw [im.K]; exact h.1, ⟨by rw [im.K]; exact f2, i0, by rw [im.L, f3]; exact hi⟩, ⟨by rw [im.K]; exact g2, i0, by rw [im.L, g3]; exact hi⟩, ?_⟩⟩
    rintro _ rfl _ rfl
    rw [w32_id (by omega) (by omega)]
    refine hk _ ⟨by omega, im.tr (Md.zS _ _ _ _), fun e e0 e1 => ?_⟩
    by_cases q : e = i
    · rw [q, zG_zS_at]
    · rw [zG_zS_ne _ (Or.inr q)]
      exact ig e e0 (by omega)
  · rintro S1 ⟨-, im, ig⟩
    apply w_Model_movesCurve_2
    refine ⟨fun _ => ?_, fun hc => absurd (show (49 : Int) ≤ 49 by omega) hc⟩
    refine loopU (P := fun j S' => At (d + 1) 208 c208_28 [(0, (2, D)), (1, (0, c)), (2, (0, dd)), (3, (0, j))] [] S' Q) (I := fun j S' => 0 ≤ j ∧ Md (fun x => x = D + 31) S S' ∧ ∀ e, 0 ≤ e → e < 49 → zG S' (D + 31) e = if e / 7 < j then mvC p c F e else F e) 7 ?_ ?_ 0 S1 (by omega) ⟨by omega, im, fun e e0 e1 => by rw [if_neg (by omega)]; exact ig e e0 e1⟩
    · rintro j S2 hj ⟨j0, jm, jg⟩ hk
      apply w_Model_movesCurve_28
      rw [w32_id (by omega) (by omega), jm.G (a := D) (by omega), g1]
      refine ⟨fun hc => by omega, fun _ => ⟨by rw [jm.K]; exact h.1, by rw [jm.K]; exact h.1, ?_⟩⟩
      refine m_moves (G := fun i => if 0 ≤ i ∧ i < 7 then F (7 * j + i) else 0) (by rw [jm.K]; exact h.1) (by rw [jm.G (by omega)]; exact h0) hp (by omega) (by rw [jm.K]; exact g2) (by rw [jm.L]; exact g3) hc (Or.inl ⟨rfl, by omega, by omega⟩) (fun i i0 i1 => ?_) (fun i => by (try dsimp only); split; exact hFb _; omega) (fun i hi => by (try dsimp only); rw [if_neg (by omega)]) (fun S3 m3 g3 e3 => ⟨rfl, ?_⟩)
      · (try dsimp only)
        rw [if_pos ⟨i0, i1⟩, jg _ (by omega) (by omega), if_neg (by omega), show 7 * j + i * 1 = 7 * j + i by omega]
      · rintro _ rfl
        rw [w32_id (by omega) (by omega)]
        refine hk _ ⟨by omega, jm.tr m3, fun e e0 e1 => ?_⟩
        by_cases q : e / 7 = j
        · have := g3 (e % 7) (by omega) (by omega)
          rw [show 7 * j + e % 7 * 1 = e by omega] at this
          rw [this, if_pos (by omega)]
          unfold mvC
          rw [q]
        · rw [e3 e (fun i i0 i1 => by omega), jg e e0 e1]
          by_cases q2 : e / 7 < j
          · rw [if_pos q2, if_pos (by omega)]
          · rw [if_neg q2, if_neg (by omega)]
    · rintro S2 ⟨j0, jm, jg⟩
      apply w_Model_movesCurve_28
      refine ⟨fun _ => ?_, fun hc => absurd (show (7 : Int) ≤ 7 by omega) hc⟩
      have jg : ∀ e, 0 ≤ e → e < 49 → zG S2 (D + 31) e = mvC p c F e := fun e e0 e1 => by rw [jg e e0 e1, if_pos (by omega)]
      by_cases d0 : 0 < dd
      · refine loopU (P := fun i S' => At (d + 1) 208 c208_58 [(0, (2, D)), (2, (0, dd)), (3, (0, i))] [] S' Q) (I := fun i S' => 0 ≤ i ∧ Md (fun x => x = D + 31) S S' ∧ ∀ e, 0 ≤ e → e < 49 → zG S' (D + 31) e = if e % 7 < i then mvD p dd (mvC p c F) e else mvC p c F e) 7 ?_ ?_ 0 S2 (by omega) ⟨by omega, jm, fun e e0 e1 => by rw [if_neg (by omega), jg e e0 e1]⟩
        · rintro i S3 hi ⟨i0, im, ig⟩ hk
          apply w_Model_movesCurve_58
          rw [im.G (a := D) (by omega), g1]
          refine ⟨fun hc => by omega, fun _ => ⟨by rw [im.K]; exact h.1, by rw [im.K]; exact h.1, ?_⟩⟩
          refine m_moves (G := fun j => if 0 ≤ j ∧ j < 7 then mvC p c F (7 * j + i) else 0) (by rw [im.K]; exact h.1) (by rw [im.G (by omega)]; exact h0) hp (by omega) (by rw [im.K]; exact g2) (by rw [im.L]; exact g3) hd (Or.inr ⟨rfl, by omega, by omega⟩) (fun j j0 j1 => ?_) (fun j => by (try dsimp only); split; exact hM1 _; omega) (fun j hj => by (try dsimp only); rw [if_neg (by omega)]) (fun S4 m4 g4 e4 => ⟨rfl, ?_⟩)
          · (try dsimp only)
            rw [if_pos ⟨j0, j1⟩, ig _ (by omega) (by omega), if_neg (by omega), show i + j * 7 = 7 * j + i by omega]
          · rintro _ rfl
            rw [w32_id (by omega) (by omega)]
            refine hk _ ⟨by omega, im.tr m4, fun e e0 e1 => ?_⟩
            by_cases q : e % 7 = i
            · have := g4 (e / 7) (by omega) (by omega)
              rw [show i + e / 7 * 7 = e by omega] at this
              rw [this, if_pos (by omega)]
              unfold mvD
              rw [q]
            · rw [e4 e (fun j j0 j1 => by omega), ig e e0 e1]
              by_cases q2 : e % 7 < i
              · rw [if_pos q2, if_pos (by omega)]
              · rw [if_neg q2, if_neg (by omega)]
        · rintro S3 ⟨i0, im, ig⟩
          apply w_Model_movesCurve_58
          refine ⟨fun _ => H S3 im (h.md im (by omega)) (fun e e0 e1 => ?_), fun hc => absurd (Or.inl (Int.le_refl 7)) hc⟩
          rw [ig e e0 e1, if_pos (by omega), if_pos d0]
      · apply w_Model_movesCurve_58
        refine ⟨fun _ => H S2 jm (h.md jm (by omega)) (fun e e0 e1 => ?_), fun hc => absurd (Or.inr (by omega)) hc⟩
        rw [jg e e0 e1, if_neg d0]
theorem mvD_0 {p : Int} {M : Int → Int} (hp : 2 ≤ p) (hM : ∀ i, 0 ≤ M i ∧ M i < p) (e : Int) (e0 : 0 ≤ e) (e1 : e < 49) : mvD p 0 M e = M e := by
  unfold mvD mv7
  rw [mvN_c0 (Int.zero_emod p) (fun i => by (try dsimp only); split; exact hM _; omega) (fun i hi => by (try dsimp only); rw [if_neg (by omega)])]
  rw [if_pos (by omega), show 7 * (e / 7) + e % 7 = e by omega]
theorem mnN_congr {F F' g : Int → Int} : ∀ (n : Nat), (∀ e : Int, 0 ≤ e → e < n → F e = F' e) → mnN F g n = mnN F' g n
  | 0, _ => rfl
  | n + 1, h => by
    show (if F n = 0 then mnN F g n else min (mnN F g n) (g n)) = (if F' n = 0 then mnN F' g n else min (mnN F' g n) (g n))
    rw [h n (by omega) (by omega), mnN_congr n (fun e e0 e1 => h e e0 (by omega))]
theorem mnN_bd {F : Int → Int} : ∀ (n : Nat), 0 ≤ mnN F (fun e => e / 7 + e % 7) n ∧ mnN F (fun e => e / 7 + e % 7) n ≤ 12
  | 0 => ⟨show (0 : Int) ≤ 12 by decide, show (12 : Int) ≤ 12 by decide⟩
  | n + 1 => by
    have := mnN_bd (F := F) n
    show 0 ≤ (if F n = 0 then mnN F (fun e => e / 7 + e % 7) n else min (mnN F (fun e => e / 7 + e % 7) n) ((n : Int) / 7 + (n : Int) % 7)) ∧ (if F n = 0 then mnN F (fun e => e / 7 + e % 7) n else min (mnN F (fun e => e / 7 + e % 7) n) ((n : Int) / 7 + (n : Int) % 7)) ≤ 12
    split <;> omega
theorem m_multiplicityOf {d : Nat} {D p c dd : Int} {S : Hp} {F : Int → Int} {Q : Vl → Hp → Prop} (h : DW S D) (h0 : zG S D 0 = p) (hp : 2 ≤ p ∧ p ≤ 7) (hc : 0 ≤ c ∧ c < p) (hd : 0 ≤ dd ∧ dd < p) (hF : ∀ e, 0 ≤ e → e < 49 → zG S (D + 1) e = F e) (hFb : ∀ e, 0 ≤ F e ∧ F e < p) (H : ∀ S', Md (fun x => x = D + 31) S S' → DW S' D → Q (0, lowV p c dd F) S') : Ev (d + 2) 209 [(2, D), (0, c), (0, dd)] S Q := by
  apply w_Model_multiplicityOf_0
  refine ⟨h.1, m_movesCurve h h0 hp hc hd hF hFb (fun S1 m1 w1 g1 => ⟨rfl, ?_⟩)⟩
  obtain ⟨x1, x2, x3⟩ := w1.x_moved
  have hM1 := fun e => mvC_bd (c := c) (show 0 < p by omega) hFb e
  have g1 : ∀ e, 0 ≤ e → e < 49 → zG S1 (D + 31) e = mvD p dd (mvC p c F) e := fun e e0 e1 => by
    rw [g1 e e0 e1]
    by_cases q : 0 < dd
    · rw [if_pos q]
    · rw [if_neg q, show dd = 0 by omega, mvD_0 hp.1 hM1 e e0 e1]
  generalize hM : mvD p dd (mvC p c F) = M at g1
  refine loopU (α := Int) (P := fun j v => At (d + 1 + 1) 209 c209_12 [(0, (2, D)), (3, (0, v)), (4, (0, j))] [] S1 Q) (I := fun j v => 0 ≤ j ∧ v = mnN M (fun e => e / 7 + e % 7) (7 * j).toNat) 7 ?_ ?_ 0 12 (by omega) ⟨by omega, rfl⟩
  · rintro j v hj ⟨j0, rfl⟩ hk
    apply w_Model_multiplicityOf_12
    refine ⟨fun hc => by omega, fun _ => ?_⟩
    refine loopU (α := Int) (P := fun i v => At (d + 1 + 1) 209 c209_22 [(0, (2, D)), (3, (0, v)), (4, (0, j)), (5, (0, i))] [] S1 Q) (I := fun i v => 0 ≤ i ∧ v = mnN M (fun e => e / 7 + e % 7) (7 * j + i).toNat) 7 ?_ ?_ 0 _ (by omega) ⟨by omega, by rw [show 7 * j + 0 = 7 * j by omega]⟩
    · rintro i v hi ⟨i0, rfl⟩ hk2
      have st : mnN M (fun e => e / 7 + e % 7) (7 * j + (i + 1)).toNat = if M (7 * j + i) = 0 then mnN M (fun e => e / 7 + e % 7) (7 * j + i).toNat else min (mnN M (fun e => e / 7 + e % 7) (7 * j + i).toNat) (i + j) := by
        rw [show (7 * j + (i + 1)).toNat = (7 * j + i).toNat + 1 by omega]
        show (if M ((7 * j + i).toNat : Int) = 0 then mnN M (fun e => e / 7 + e % 7) (7 * j + i).toNat else min (mnN M (fun e => e / 7 + e % 7) (7 * j + i).toNat) (((7 * j + i).toNat : Int) / 7 + ((7 * j + i).toNat : Int) % 7)) = _
        rw [show (((7 * j + i).toNat : Nat) : Int) = 7 * j + i by omega, show (7 * j + i) / 7 + (7 * j + i) % 7 = i + j by omega]
      apply w_Model_multiplicityOf_22
      rw [x1, w32_id (x := 7 * j) (by omega) (by omega), w32_id (x := 7 * j + i) (by omega) (by omega), g1 _ (by omega) (by omega), x2, x3, w32_id (x := i + j) (by omega) (by omega)]
      refine ⟨fun hc => by omega, fun _ => ⟨w1.1, ⟨rfl, by omega, by omega⟩, ?_⟩⟩
      rintro _ rfl _ rfl
      rw [w32_id (by omega) (by omega)]
      refine hk2 _ ⟨by omega, ?_⟩
      rw [st]
      grind
    · rintro v ⟨i0, rfl⟩
      apply w_Model_multiplicityOf_22
      refine ⟨fun _ => ?_, fun hc => absurd (Int.le_refl 7) hc⟩
      rintro _ rfl
      rw [w32_id (by omega) (by omega)]
      exact hk _ ⟨by omega, by rw [show 7 * (j + 1) = 7 * j + 7 by omega]⟩
  · rintro v ⟨-, rfl⟩
    apply w_Model_multiplicityOf_12
    refine ⟨fun _ => ?_, fun hc => absurd (Int.le_refl 7) hc⟩
    rw [← hM]
    exact H S1 m1 w1
theorem m_multiplicity {d : Nat} {D p n c dd : Int} {S : Hp} {F : Int → Int} {Q : Vl → Hp → Prop} (h : DW S D) (h0 : zG S D 0 = p) (hn : zG S D 1 = n) (hp : 2 ≤ p ∧ p ≤ 7) (hF : ∀ e, 0 ≤ e → e < 49 → zG S (D + 1) e = F e) (hFb : ∀ e, 0 ≤ F e ∧ F e < p) (H0 : n = 0 → Q (0, -2) S) (H1 : n ≠ 0 → ¬ ((0 ≤ c ∧ c < p) ∧ 0 ≤ dd ∧ dd < p) → Q (0, -1) S) (H2 : n ≠ 0 → (0 ≤ c ∧ c < p) ∧ 0 ≤ dd ∧ dd < p → ∀ S', Md (fun x => x = D + 31) S S' → DW S' D → Q (0, lowV p c dd F) S') : Ev (d + 3) 210 [(2, D), (0, c), (0, dd)] S Q := by
  apply w_Model_multiplicity_0
  rw [hn]
  refine ⟨h.1, fun n0 => ⟨h.1, m_isNumber h.1 h0 hp ⟨_, rfl, fun hz => H1 n0 (by grind), fun hz => ⟨h.1, m_isNumber h.1 h0 hp ⟨_, rfl, fun hz => H1 n0 (by grind), fun hz2 => ⟨h.1, ?_⟩⟩⟩⟩⟩, fun n0 => H0 (by omega)⟩
  have h1 : 0 ≤ c ∧ c < p := by grind
  have h2 : 0 ≤ dd ∧ dd < p := by grind
  exact m_multiplicityOf h h0 hp h1 h2 hF hFb (fun S' m w => ⟨_, rfl, H2 n0 ⟨h1, h2⟩ S' m w⟩)
/-- a set of bits -/
def bsN (f : Int → Int) : Nat → Int
  | 0 => 0
  | k + 1 => bOr (bsN f k) (if f k = 0 then 0 else bShl 1 k)
theorem bsN_congr {f g : Int → Int} : ∀ (n : Nat), (∀ k : Int, 0 ≤ k → k < n → (f k = 0 ↔ g k = 0)) → bsN f n = bsN g n
  | 0, _ => rfl
  | n + 1, h => by
    show bOr (bsN f n) (if f n = 0 then 0 else bShl 1 n) = bOr (bsN g n) (if g n = 0 then 0 else bShl 1 n)
    rw [bsN_congr n (fun k k0 k1 => h k k0 (by omega))]
    have := h n (by omega) (by omega)
    by_cases q : f n = 0
    · rw [if_pos q, if_pos (this.mp q)]
    · rw [if_neg q, if_neg (fun z => q (this.mpr z))]
theorem bOr_zero (a b : Int) : bOr (bOr a b) 0 = bOr a b := by
  unfold bOr
  rw [Int32.ofInt_toInt, show Int32.ofInt 0 = 0 from rfl, Int32.or_zero]
theorem bsN_zero (f : Int → Int) : ∀ (n : Nat), bOr (bsN f n) 0 = bsN f n
  | 0 => show bOr 0 0 = 0 by decide
  | n + 1 => bOr_zero _ _
theorem bsN_skip {f : Int → Int} {n : Nat} (h : f n = 0) : bsN f (n + 1) = bsN f n := by
  show bOr (bsN f n) (if f n = 0 then 0 else bShl 1 n) = _
  rw [if_pos h, bsN_zero]
theorem bsN_at {f : Int → Int} {n : Nat} (h : f n ≠ 0) : bsN f (n + 1) = bOr (bsN f n) (bShl 1 n) := by
  show bOr (bsN f n) (if f n = 0 then 0 else bShl 1 n) = _
  rw [if_neg h]
theorem m_singular {d : Nat} {D p n c : Int} {S : Hp} {F : Int → Int} {Q : Vl → Hp → Prop} (h : DW S D) (h0 : zG S D 0 = p) (hn : zG S D 1 = n) (hp : 2 ≤ p ∧ p ≤ 7) (hF : ∀ e, 0 ≤ e → e < 49 → zG S (D + 1) e = F e) (hFb : ∀ e, 0 ≤ F e ∧ F e < p) (H0 : n = 0 → Q (0, -2) S) (H1 : n ≠ 0 → ¬ (0 ≤ c ∧ c < p) → Q (0, -1) S) (H2 : n ≠ 0 → 0 ≤ c ∧ c < p → ∀ S', Md (fun x => x = D + 31) S S' → DW S' D → Q (0, bsN (fun e => if lowV p c e F < 2 then 0 else 1) p.toNat) S') : Ev (d + 3) 211 [(2, D), (0, c)] S Q := by
  apply w_Model_singular_0
  rw [hn]
  refine ⟨h.1, fun n0 => ⟨h.1, m_isNumber h.1 h0 hp ⟨_, rfl, fun hz => ?_, fun hz => H1 n0 (by grind)⟩⟩, fun n0 => H0 (by omega)⟩
  have h1 : 0 ≤ c ∧ c < p := by grind
  refine loopU2 (α := Int) (β := Hp) (P := fun i v S' => At (d + 3) 211 c211_24 [(0, (2, D)), (1, (0, c)), (2, (0, v)), (3, (0, i))] [] S' Q) (I := fun i v S' => 0 ≤ i ∧ v = bsN (fun e => if lowV p c e F < 2 then 0 else 1) i.toNat ∧ Md (fun x => x = D + 31) S S' ∧ DW S' D) p ?_ ?_ 0 0 S (by omega) ⟨by omega, rfl, Md.refl _ _, h⟩
  · rintro i v S1 hi ⟨i0, rfl, m1, w1⟩ hk
    have p1 : zG S1 D 0 = p := (m1.G (by omega) 0).trans h0
    apply w_Model_singular_24
    rw [p1]
    refine ⟨w1.1, fun hc => by omega, fun _ => ⟨w1.1, m_multiplicityOf w1 p1 hp h1 ⟨i0, hi⟩ (fun e e0 e1 => (m1.G (by omega) e).trans (hF e e0 e1)) hFb (fun S2 m2 w2 => ⟨_, rfl, ?_⟩)⟩⟩
    rintro _ rfl _ rfl _ rfl
    rw [w32_id (by omega) (by omega)]
    refine hk _ _ ⟨by omega, ?_, m1.tr m2, w2⟩
    rw [show (i + 1).toNat = i.toNat + 1 by omega]
    show _ = bOr _ (if (if lowV p c (i.toNat : Int) F < 2 then (0 : Int) else 1) = 0 then 0 else bShl 1 (i.toNat : Int))
    rw [show ((i.toNat : Nat) : Int) = i by omega]
    congr 1
    grind
  · rintro v S1 ⟨i0, rfl, m1, w1⟩
    apply w_Model_singular_24
    rw [(m1.G (by omega) 0).trans h0]
    exact ⟨w1.1, fun _ => H2 n0 h1 S1 m1 w1, fun hc => absurd (Int.le_refl p) hc⟩
