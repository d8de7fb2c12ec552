/-! Products of the class's reader. -/
/-- the product of two rows of 49, after k pairs -/
def acc (p : Int) (A B : Int → Int) : Nat → Int → Int
  | 0 => fun _ => 0
  | k + 1 => fun x => if A ((k : Int) / 49) = 0 ∨ B ((k : Int) % 49) = 0 ∨ ¬ x = (k : Int) / 49 + (k : Int) % 49 then acc p A B k x else (acc p A B k x + A ((k : Int) / 49) * B ((k : Int) % 49)) % p
theorem acc_bd {p : Int} {A B : Int → Int} (hp : 2 ≤ p) : ∀ (k : Nat) (x : Int), 0 ≤ acc p A B k x ∧ acc p A B k x < p
  | 0, x => ⟨Int.le_refl 0, show (0 : Int) < p by omega⟩
  | k + 1, x => by
    have := acc_bd (A := A) (B := B) hp k x
    show 0 ≤ (if A ((k : Int) / 49) = 0 ∨ B ((k : Int) % 49) = 0 ∨ ¬ x = (k : Int) / 49 + (k : Int) % 49 then acc p A B k x else (acc p A B k x + A ((k : Int) / 49) * B ((k : Int) % 49)) % p) ∧ (if A ((k : Int) / 49) = 0 ∨ B ((k : Int) % 49) = 0 ∨ ¬ x = (k : Int) / 49 + (k : Int) % 49 then acc p A B k x else (acc p A B k x + A ((k : Int) / 49) * B ((k : Int) % 49)) % p) < p
    split
    · exact this
    · exact ⟨em_ge (by omega), em_lt (by omega)⟩
theorem acc_at {p e g : Int} {A B : Int → Int} (e0 : 0 ≤ e) (g0 : 0 ≤ g) (g1 : g < 49) (x : Int) : acc p A B (49 * e + g + 1).toNat x = if A e = 0 ∨ B g = 0 ∨ ¬ x = e + g then acc p A B (49 * e + g).toNat x else (acc p A B (49 * e + g).toNat x + A e * B g) % p := by
  rw [show (49 * e + g + 1).toNat = (49 * e + g).toNat + 1 by omega]
  show (if A (((49 * e + g).toNat : Int) / 49) = 0 ∨ B (((49 * e + g).toNat : Int) % 49) = 0 ∨ ¬ x = ((49 * e + g).toNat : Int) / 49 + ((49 * e + g).toNat : Int) % 49 then acc p A B (49 * e + g).toNat x else (acc p A B (49 * e + g).toNat x + A (((49 * e + g).toNat : Int) / 49) * B (((49 * e + g).toNat : Int) % 49)) % p) = _
  rw [show (((49 * e + g).toNat : Nat) : Int) / 49 = e by omega, show (((49 * e + g).toNat : Nat) : Int) % 49 = g by omega]
theorem acc_skip {p e : Int} {A B : Int → Int} (e0 : 0 ≤ e) (hA : A e = 0) (x : Int) : ∀ (k : Nat), k ≤ 49 → acc p A B (49 * e + k).toNat x = acc p A B (49 * e).toNat x
  | 0, _ => by rw [show 49 * e + ((0 : Nat) : Int) = 49 * e by omega]
  | k + 1, hk => by
    rw [show 49 * e + ((k + 1 : Nat) : Int) = 49 * e + k + 1 by omega, acc_at e0 (by omega) (by omega), if_pos (Or.inl hA)]
    exact acc_skip e0 hA x k (by omega)
theorem Md_zC (S : Hp) (a sp b dp n : Int) : Md (fun x => x = b) S (zC S a sp b dp n) := ⟨rfl, rfl, fun c j q => by rw [zG_zC, if_neg (fun z => q z.1)]⟩
def dgS (e : Int) : Int := e % 7 + e / 7
/-- no pair is too high -/
def nHi (A B : Int → Int) : Prop := ∀ e g, 0 ≤ e → e < 49 → 0 ≤ g → g < 49 → A e ≠ 0 → B g ≠ 0 → dgS e + dgS g ≤ 6
theorem s_setNumber {d : Nat} {a v : Int} {S : Hp} {Q : Vl → Hp → Prop} (k : zK S a = 101) (l : zL S a = 49) (H : ∀ S', Md (fun x => x = a) S S' → (∀ x, 0 ≤ x → x < 49 → zG S' a x = if x = 0 then v else 0) → Q (3, 0) S') : Ev d 92 [(2, a), (0, v)] S Q := by
  apply w_Reader_setNumber_0
  refine loopU (P := fun i S' => At d 92 c92_2 [(0, (2, a)), (1, (0, v)), (2, (0, i))] [] S' Q) (I := fun i S' => 0 ≤ i ∧ Md (fun x => x = a) S S' ∧ ∀ x, 0 ≤ x → x < i → zG S' a x = 0) 49 ?_ ?_ 0 S (by omega) ⟨by omega, Md.refl _ _, fun x a b => by omega⟩
  · rintro i S1 hi ⟨i0, m1, v1⟩ hk
    apply w_Reader_setNumber_2
    rw [m1.K, m1.L, k, l]
    refine ⟨fun z => by omega, fun _ => ⟨⟨rfl, by omega, by omega⟩, ?_⟩⟩
    rintro _ rfl _ rfl
    rw [w32_id (by omega) (by omega)]
    refine hk _ ⟨by omega, m1.tr (Md.zS _ _ _ _), fun x x0 x1 => ?_⟩
    rw [zG_zS]
    split
    · rfl
    · exact v1 x x0 (by omega)
  · rintro S1 ⟨-, m1, v1⟩
    apply w_Reader_setNumber_2
    rw [m1.K, m1.L, k, l]
    refine ⟨fun _ => ⟨⟨rfl, by omega, by omega⟩, ?_⟩, fun z => absurd (Int.le_refl 49) z⟩
    rintro _ rfl
    refine H _ (m1.tr (Md.zS _ _ _ _)) (fun x x0 x1 => ?_)
    rw [zG_zS]
    by_cases q : x = 0
    · rw [if_pos ⟨rfl, q⟩, if_pos q]
    · rw [if_neg (fun z => q z.2), if_neg q]
      exact v1 x x0 x1
theorem s_rdMultiply {d : Nat} {R a b p g0 : Int} {S : Hp} {A B : Int → Int} {Q : Vl → Hp → Prop} (h2 : 2 ≤ p ∧ p ≤ 7) (h : RDW S R) (hp : zG S R 5 = p) (ka : zK S a = 101) (la : zL S a = 49) (kb : zK S b = 101) (lb : zL S b = 49) (aR : a ≠ R ∧ a ≠ R + 19) (bR : b ≠ R ∧ b ≠ R + 19) (hA : ∀ x, 0 ≤ x → x < 49 → zG S a x = A x ∧ 0 ≤ A x ∧ A x < p) (hB : ∀ x, 0 ≤ x → x < 49 → zG S b x = B x ∧ 0 ≤ B x ∧ B x < p) (H0 : 0 ≤ zG S R 10 → Q (3, 0) S) (H1 : zG S R 10 < 0 → nHi A B → ∀ S', Md (fun x => x = a ∨ x = R + 19) S S' → (∀ x, 0 ≤ x → x < 49 → zG S' a x = acc p A B 2401 x) → Q (3, 0) S') (H2 : zG S R 10 < 0 → ¬ nHi A B → ∀ S', Md (fun x => x = R ∨ x = R + 19) S S' → (∀ i, i ≠ 10 → zG S' R i = zG S R i) → zG S' R 10 = g0 → Q (3, 0) S') : Ev (d + 1) 93 [(2, R), (2, a), (2, b), (0, g0)] S Q := by
  have h19 : zK S (R + 19) = 101 ∧ zL S (R + 19) = 49 := by
    have := h.2.2.2.2.2.2.2.2 16 (by omega) (by omega)
    rw [show R + 3 + 16 = R + 19 by omega] at this
    exact this
  apply w_Reader_multiply_0
  refine ⟨h.1, fun q => ⟨h.1, ?_⟩, fun q => H0 (by omega)⟩
  rw [h.2.2.2.2.1]
  refine s_setNumber h19.1 h19.2 (fun S1 m1 v1 => ⟨rfl, ?_⟩)
  refine loopU (P := fun e S' => At (d + 1) 93 c93_19 [(0, (2, R)), (1, (2, a)), (2, (2, b)), (3, (0, g0)), (4, (0, e))] [] S' Q) (I := fun e S' => 0 ≤ e ∧ Md (fun x => x = R + 19) S S' ∧ (∀ x, 0 ≤ x → x < 49 → zG S' (R + 19) x = acc p A B (49 * e).toNat x) ∧ ∀ e' g', 0 ≤ e' → e' < e → 0 ≤ g' → g' < 49 → A e' ≠ 0 → B g' ≠ 0 → dgS e' + dgS g' ≤ 6) 49 ?_ ?_ 0 S1 (by omega) ⟨by omega, m1, fun x x0 x1 => ?_, fun e' g' a b => by omega⟩
  · rintro e S2 he ⟨e0, m2, v2, n2⟩ hk1
    have A2 := hA e e0 he
    have nxt : ∀ S3, Md (fun x => x = R + 19) S S3 → (∀ x, 0 ≤ x → x < 49 → zG S3 (R + 19) x = acc p A B (49 * e + 49).toNat x) → (A e ≠ 0 → ∀ g', 0 ≤ g' → g' < 49 → B g' ≠ 0 → dgS e + dgS g' ≤ 6) → At (d + 1) 93 c93_142 [(0, (2, R)), (1, (2, a)), (2, (2, b)), (3, (0, g0)), (4, (0, e))] [] S3 Q := fun S3 m3 v3 n3 => by
      apply w_Reader_multiply_142
      rintro _ rfl
      rw [w32_id (by omega) (by omega)]
      refine hk1 S3 ⟨by omega, m3, fun x x0 x1 => ?_, fun e' g' e0' e1' g0' g1' hA' hB' => ?_⟩
      · rw [show 49 * (e + 1) = 49 * e + 49 by omega]
        exact v3 x x0 x1
      · by_cases q : e' = e
        · rw [q] at hA' ⊢
          exact n3 hA' g' g0' g1' hB'
        · exact n2 e' g' e0' (by omega) g0' g1' hA' hB'
    apply w_Reader_multiply_19
    refine ⟨fun z => by omega, fun _ => ?_⟩
    by_cases z0 : A e = 0
    · apply w_Reader_multiply_29
      rw [m2.K, m2.L, ka, la, m2.G (a := a) aR.2, A2.1]
      refine ⟨⟨rfl, by omega, by omega⟩, fun _ => nxt S2 m2 (fun x x0 x1 => ?_) (fun z => absurd z0 z), fun z => absurd (Or.inl z0) z⟩
      rw [v2 x x0 x1]
      exact (acc_skip e0 z0 x 49 (by omega)).symm
    · refine loopU (P := fun g S' => At (d + 1) 93 c93_29 [(0, (2, R)), (1, (2, a)), (2, (2, b)), (3, (0, g0)), (4, (0, e)), (5, (0, g))] [] S' Q) (I := fun g S' => 0 ≤ g ∧ Md (fun x => x = R + 19) S S' ∧ (∀ x, 0 ≤ x → x < 49 → zG S' (R + 19) x = acc p A B (49 * e + g).toNat x) ∧ ∀ g', 0 ≤ g' → g' < g → B g' ≠ 0 → dgS e + dgS g' ≤ 6) 49 ?_ ?_ 0 S2 (by omega) ⟨by omega, m2, fun x x0 x1 => by rw [Int.add_zero]; exact v2 x x0 x1, fun g' a b => by omega⟩
      · rintro g S3 hg ⟨g0', m3, v3, n3⟩ hk2
        have B3 := hB g g0' hg
        have w3 : RDW S3 R := h.keep m3 (fun i _ => m3.G (by omega) i) (by omega)
        have stp : ∀ S4, Md (fun x => x = R + 19) S S4 → (∀ x, 0 ≤ x → x < 49 → zG S4 (R + 19) x = acc p A B (49 * e + g + 1).toNat x) → (B g ≠ 0 → dgS e + dgS g ≤ 6) → At (d + 1) 93 c93_136 [(0, (2, R)), (1, (2, a)), (2, (2, b)), (3, (0, g0)), (4, (0, e)), (5, (0, g))] [] S4 Q := fun S4 m4 v4 n4 => by
          apply w_Reader_multiply_136
          rintro _ rfl
          rw [w32_id (by omega) (by omega)]
          refine hk2 S4 ⟨by omega, m4, fun x x0 x1 => ?_, fun g' a0 a1 hB' => ?_⟩
          · rw [show 49 * e + (g + 1) = 49 * e + g + 1 by omega]
            exact v4 x x0 x1
          · by_cases q : g' = g
            · rw [q] at hB' ⊢
              exact n4 hB'
            · exact n3 g' a0 (by omega) hB'
        apply w_Reader_multiply_29
        rw [m3.K, m3.L, m3.K, m3.L, ka, la, kb, lb, m3.G (a := a) aR.2, m3.G (a := b) bR.2, A2.1, B3.1, w3.2.2.2.2.1, tm_nn e0, tm_nn g0', show e.tdiv 7 = e / 7 from Int.tdiv_eq_ediv_of_nonneg e0, show g.tdiv 7 = g / 7 from Int.tdiv_eq_ediv_of_nonneg g0', w32_id (x := e / 7) (by omega) (by omega), w32_id (x := g / 7) (by omega) (by omega), w32_id (x := e % 7 + g % 7) (by omega) (by omega), w32_id (x := e / 7 + g / 7) (by omega) (by omega)]
        refine ⟨⟨rfl, by omega, by omega⟩, fun z => absurd z (by omega), fun _ => ⟨⟨rfl, by omega, by omega⟩, fun y => ⟨by decide, by decide, ?_⟩, fun y => stp S3 m3 (fun x x0 x1 => ?_) (fun z => absurd z y)⟩⟩
        · rintro _ rfl
          refine ⟨by decide, by decide, ?_⟩
          rintro _ rfl
          rw [w32_id (x := e % 7 + g % 7 + (e / 7 + g / 7)) (by omega) (by omega)]
          refine ⟨fun z => ?_, fun z => ⟨w3.1, ?_⟩⟩
          · have v3' := v3 (e + g) (by omega) (by omega)
            have ab := acc_bd (A := A) (B := B) h2.1 (49 * e + g).toNat (e + g)
            have pb : 0 ≤ A e * B g ∧ A e * B g ≤ 49 := ⟨Int.mul_nonneg A2.2.1 B3.2.1, by have := Int.mul_le_mul (show A e ≤ 7 by omega) (show B g ≤ 7 by omega) B3.2.1 (by omega); omega⟩
            rw [w32_id (x := 7 * (e / 7 + g / 7)) (by omega) (by omega), w32_id (x := e % 7 + g % 7 + 7 * (e / 7 + g / 7)) (by omega) (by omega), show e % 7 + g % 7 + 7 * (e / 7 + g / 7) = e + g by omega, v3', (m3.G (a := R) (by omega) 5).trans hp, w32_id (x := A e * B g) (by omega) (by omega), w32_id (x := acc p A B (49 * e + g).toNat (e + g) + A e * B g) (by omega) (by omega), tm_nn (by omega), m3.K (R + 19), m3.L (R + 19), h19.1, h19.2]
            refine ⟨w3.1, w3.1, ⟨rfl, by omega, by omega⟩, ⟨rfl, by omega, by omega⟩, ⟨rfl, by omega, by omega⟩, w3.1, by omega, ⟨rfl, by omega, by omega⟩, ?_⟩
            rintro _ rfl
            refine stp _ (m3.tr (Md.zS _ _ _ _)) (fun x x0 x1 => ?_) (fun _ => by unfold dgS; omega)
            rw [zG_zS, acc_at e0 g0' hg]
            by_cases q : x = e + g
            · rw [if_pos ⟨rfl, q⟩, if_neg (fun w => by rcases w with w | w | w; exact z0 w; exact y w; exact w q), q]
            · rw [if_neg (fun w => q w.2), if_pos (Or.inr (Or.inr q))]
              exact v3 x x0 x1
          · rintro _ rfl
            refine H2 q (fun nh => z ?_) _ ((m3.wide (fun x hx => Or.inr hx)).tr ((Md.zS _ _ _ _).wide (fun x hx => Or.inl hx))) (fun i hi => ?_) (zG_zS_at _ _ _ _)
            · have := nh e g e0 he g0' hg z0 y
              unfold dgS at this
              omega
            · rw [zG_zS_ne _ (Or.inr hi)]
              exact m3.G (by omega) i
        · rw [acc_at e0 g0' hg, if_pos (Or.inr (Or.inl (Decidable.not_not.mp y)))]
          exact v3 x x0 x1
      · rintro S3 ⟨-, m3, v3, n3⟩
        apply w_Reader_multiply_29
        rw [m3.K, m3.L, ka, la]
        exact ⟨⟨rfl, by omega, by omega⟩, fun _ => nxt S3 m3 v3 (fun _ g' a0 a1 hB' => n3 g' a0 a1 hB'), fun z => absurd (Or.inr (Int.le_refl 49)) z⟩
  · rintro S2 ⟨-, m2, v2, n2⟩
    have w2 : RDW S2 R := h.keep m2 (fun i _ => m2.G (by omega) i) (by omega)
    apply w_Reader_multiply_19
    rw [w2.2.2.2.2.1, m2.K (R + 19), m2.L (R + 19), m2.K a, m2.L a, h19.1, h19.2, ka, la]
    refine ⟨fun _ => ⟨w2.1, by decide, ?_⟩, fun z => absurd (Int.le_refl 49) z⟩
    rintro _ rfl
    refine H1 q n2 _ ((m2.wide (fun x hx => Or.inr hx)).tr ((Md_zC _ _ _ _ _ _).wide (fun x hx => Or.inl hx))) (fun x x0 x1 => ?_)
    rw [zG_zC, if_pos (by omega), show 0 + (x - 0) = x by omega, v2 x x0 x1]
    rfl
  · rw [v1 x x0 x1]
    show (if x = 0 then 0 else 0) = (0 : Int)
    split <;> rfl
