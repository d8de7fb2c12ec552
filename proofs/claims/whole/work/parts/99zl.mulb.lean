/-! The model: multipliesBasis. -/
def mbI (a b r x : Int) : Int := if a / 21 + b / 21 = r ∧ 40 - a % 21 - b % 21 = x then 1 else 0
def mbT (F G : Int → Int) (A B r x : Int) : Int := sm A.toNat (fun a => sm 84 (fun b => mbI a b r x * (F a * G b))) + sm B.toNat (fun b => mbI A b r x * (F A * G b))
/-- the product of two of the basis before it goes down -/
def mbF (p : Int) (F G : Int → Int) : Int → Int → Int := fun r x => sm 84 (fun a => sm 84 (fun b => mbI a b r x * (F a * G b))) % p
theorem mbI_0 {a b r x : Int} (a0 : 0 ≤ a) (b0 : 0 ≤ b) (h : x < 0 ∨ 40 < x) : mbI a b r x = 0 := by
  unfold mbI
  rw [if_neg (by omega)]
theorem mbF_deg {p : Int} {F G : Int → Int} (r x : Int) (h : x < 0 ∨ 40 < x) : mbF p F G r x = 0 := by
  unfold mbF
  rw [sm_zeros (fun a a0 a1 => sm_zeros (fun b b0 b1 => by rw [mbI_0 a0 b0 h, Int.zero_mul]))]
  rfl
set_option maxHeartbeats 1000000 in
theorem m_multipliesBasis {d : Nat} {D p n k i j : Int} {S : Hp} {F G : Int → Int} {C : Int → Int → Int} {Q : Vl → Hp → Prop} (h : DW S D) (hp : zG S D 0 = p) (h2 : 2 ≤ p ∧ p ≤ 7) (hN : zG S D 1 = n) (hn : 2 ≤ n ∧ n ≤ 4) (hk : 0 ≤ k ∧ k < 20) (hi : 0 ≤ i ∧ i < 4) (hj : 0 ≤ j ∧ j < 4) (hF : ∀ a, 0 ≤ a → a < 84 → zG S (D + 32) (84 * (4 * k + i) + a) = F a ∧ 0 ≤ F a ∧ F a < p) (hG : ∀ a, 0 ≤ a → a < 84 → zG S (D + 32) (84 * (4 * k + j) + a) = G a ∧ 0 ≤ G a ∧ G a < p) (hC : ∀ k, 0 ≤ k → k < 7 * n → zG S (D + 31) k = C (k / 7) (k % 7)) (bC : ∀ j e, 0 ≤ C j e ∧ C j e < p) (sC : ∀ j e, (e < 0 ∨ 6 < e) → C j e = 0) (zC : ∀ j e, n ≤ j → C j e = 0) (H : ∀ S', Md (fun x => x = D + 34) S S' → BR S' (D + 34) 96 7 p (lwN p n C (2 * n - 2) (n - 1).toNat (mbF p F G)) → Q (3, 0) S') : Ev (d + 2) 216 [(2, D), (0, k), (0, i), (0, j)] S Q := by
  apply w_Model_multipliesBasis_0
  rw [h.x_lau.1]
  refine ⟨h.1, h.1, m_zeroB (w := 96) (n := 7) (p := p) h.x_lau.2.1 h.x_lau.2.2 (by omega) (by omega) (by omega) (by omega) (fun S1 m1 b1 => ⟨rfl, ?_⟩)⟩
  have bd : ∀ A B r x, 0 ≤ mbT F G A B r x % p ∧ mbT F G A B r x % p < p := fun A B r x => ⟨em_ge (by omega), em_lt (by omega)⟩
  have zo : ∀ A B r x, 0 ≤ A → (x < 0 ∨ 96 ≤ x) → mbT F G A B r x % p = 0 := fun A B r x A0 hx => by
    unfold mbT
    rw [sm_zeros (fun a a0 a1 => sm_zeros (fun b b0 b1 => by rw [mbI_0 a0 b0 (by omega), Int.zero_mul])), sm_zeros (fun b b0 b1 => by rw [mbI_0 A0 b0 (by omega), Int.zero_mul])]
    rfl
  refine loopU (P := fun a S' => At (d + 2) 216 c216_11 [(0, (2, D)), (1, (0, k)), (2, (0, i)), (3, (0, j)), (4, (0, a))] [] S' Q) (I := fun a S' => 0 ≤ a ∧ Md (fun x => x = D + 34) S S' ∧ BR S' (D + 34) 96 7 p (fun r x => mbT F G a 0 r x % p)) 84 ?_ ?_ 0 S1 (by omega) ⟨by omega, m1, b1.congr (fun r x => ?_)⟩
  · rintro a S2 ha ⟨a0, m2, b2⟩ hk2
    have w2 : DW S2 D := h.md m2 (by omega)
    have fa := hF a a0 ha
    have nxt : ∀ S3, Md (fun x => x = D + 34) S S3 → ∀ b, 0 ≤ b → (F a = 0 ∨ b = 84) → BR S3 (D + 34) 96 7 p (fun r x => mbT F G a b r x % p) → At (d + 2) 216 c216_136 [(0, (2, D)), (1, (0, k)), (2, (0, i)), (3, (0, j)), (4, (0, a))] [] S3 Q := fun S3 m3 b b0 hb b3 => by
      apply w_Model_multipliesBasis_136
      rintro _ rfl
      rw [w32_id (by omega) (by omega)]
      refine hk2 _ ⟨by omega, m3, b3.congr (fun r x => ?_)⟩
      unfold mbT
      rw [show (a + 1).toNat = a.toNat + 1 by omega, sm_succ, show ((a.toNat : Nat) : Int) = a by omega, show (0 : Int).toNat = 0 from rfl, sm_zero, Int.add_zero]
      have e : sm b.toNat (fun b => mbI a b r x * (F a * G b)) = sm 84 (fun b => mbI a b r x * (F a * G b)) := by
        rcases hb with z | z
        · rw [sm_zeros (fun b _ _ => by rw [z, Int.zero_mul, Int.mul_zero]), sm_zeros (fun b _ _ => by rw [z, Int.zero_mul, Int.mul_zero])]
        · rw [z, show (84 : Int).toNat = 84 from rfl]
      rw [e]
    apply w_Model_multipliesBasis_11
    rw [w2.x_digits.1, w2.x_digits.2.1, w2.x_digits.2.2, w32_id (x := 4 * k) (by omega) (by omega), w32_id (x := 4 * k + i) (by omega) (by omega), w32_id (x := 84 * (4 * k + i)) (by omega) (by omega), w32_id (x := 84 * (4 * k + i) + a) (by omega) (by omega), m2.G (a := D + 32) (by omega), fa.1]
    refine ⟨fun hc => by omega, fun _ => ⟨w2.1, ⟨rfl, by omega, by omega⟩, ?_⟩⟩
    rintro _ rfl
    refine loopU (P := fun b S' => At (d + 2) 216 c216_39 [(0, (2, D)), (1, (0, k)), (2, (0, i)), (3, (0, j)), (4, (0, a)), (5, (0, F a)), (6, (0, b))] [] S' Q) (I := fun b S' => 0 ≤ b ∧ Md (fun x => x = D + 34) S S' ∧ BR S' (D + 34) 96 7 p (fun r x => mbT F G a b r x % p)) 84 ?_ ?_ 0 S2 (by omega) ⟨by omega, m2, b2⟩
    · rintro b S3 hb ⟨b0, m3, b3⟩ hk3
      have w3 : DW S3 D := h.md m3 (by omega)
      have gb := hG b b0 hb
      have stp : ∀ r x, mbT F G a (b + 1) r x = mbT F G a b r x + mbI a b r x * (F a * G b) := fun r x => by
        unfold mbT
        rw [show (b + 1).toNat = b.toNat + 1 by omega, sm_succ, show ((b.toNat : Nat) : Int) = b by omega, Int.add_assoc]
      have go : ∀ S4, Md (fun x => x = D + 34) S S4 → BR S4 (D + 34) 96 7 p (fun r x => mbT F G a (b + 1) r x % p) → At (d + 2) 216 c216_130 [(0, (2, D)), (1, (0, k)), (2, (0, i)), (3, (0, j)), (4, (0, a)), (5, (0, F a)), (6, (0, b))] [] S4 Q := fun S4 m4 b4 => by
        apply w_Model_multipliesBasis_130
        rintro _ rfl
        rw [w32_id (by omega) (by omega)]
        exact hk3 _ ⟨by omega, m4, b4⟩
      apply w_Model_multipliesBasis_39
      refine ⟨fun hc => nxt S3 m3 b b0 (by omega) b3, fun hc => ?_⟩
      rw [w3.x_digits.1, w3.x_digits.2.1, w3.x_digits.2.2, w32_id (x := 4 * k) (by omega) (by omega), w32_id (x := 4 * k + j) (by omega) (by omega), w32_id (x := 84 * (4 * k + j)) (by omega) (by omega), w32_id (x := 84 * (4 * k + j) + b) (by omega) (by omega), m3.G (a := D + 32) (by omega), gb.1]
      refine ⟨w3.1, ⟨rfl, by omega, by omega⟩, ?_⟩
      rintro _ rfl
      refine ⟨by decide, by decide, by decide, by decide, ?_⟩
      intro x2 hx2
      rw [show a.tdiv 21 = a / 21 from Int.tdiv_eq_ediv_of_nonneg a0, show b.tdiv 21 = b / 21 from Int.tdiv_eq_ediv_of_nonneg b0, tm_nn a0, tm_nn b0, w32_id (x := a / 21) (by omega) (by omega), w32_id (x := b / 21) (by omega) (by omega), w32_id (x := a / 21 + b / 21) (by omega) (by omega), w32_id (x := 96 * (a / 21 + b / 21)) (by omega) (by omega), w32_id (x := 96 * (a / 21 + b / 21) + 40) (by omega) (by omega), w32_id (x := 96 * (a / 21 + b / 21) + 40 - a % 21) (by omega) (by omega), w32_id (by omega) (by omega)] at hx2
      refine ⟨fun gz => go S3 m3 (b3.congr (fun r x => ?_)), fun gz => ?_⟩
      · rw [stp, gz, Int.mul_zero, Int.mul_zero, Int.add_zero]
      · have vx := b3.2.2.1 (a / 21 + b / 21) (40 - a % 21 - b % 21) (by omega) (by omega) (by omega) (by omega)
        rw [show 96 * (a / 21 + b / 21) + (40 - a % 21 - b % 21) = x2 by omega] at vx
        (try dsimp only at vx)
        have bb := bd a b (a / 21 + b / 21) (40 - a % 21 - b % 21)
        have mb := mul_b (x := F a) (y := G b) (by omega) (by omega)
        rw [w3.x_lau.1, w3.x_lau.2.1, w3.x_lau.2.2, vx, (m3.G (a := D) (by omega) 0).trans hp, w32_id (x := F a * G b) (by omega) (by omega), w32_id (by omega) (by omega), tm_nn (by omega)]
        refine ⟨w3.1, w3.1, ⟨rfl, by omega, by omega⟩, w3.1, by omega, ⟨rfl, by omega, by omega⟩, ?_⟩
        rintro _ rfl
        refine go _ (m3.tr (Md.zS _ _ _ _)) ?_
        rw [zS_as_zR]
        have b4 := b3.set (k := a / 21 + b / 21) (G := fun x => mbT F G a (b + 1) (a / 21 + b / 21) x % p) (f := fun y => if y = x2 then (mbT F G a b (a / 21 + b / 21) (40 - a % 21 - b % 21) % p + F a * G b) % p else zG S3 (D + 34) y) (by omega) (by omega) (fun x x0 x1 => by
          (try dsimp only)
          rw [stp]
          by_cases q : x = 40 - a % 21 - b % 21
          · rw [if_pos (by omega), q]
            unfold mbI
            rw [if_pos ⟨rfl, rfl⟩, Int.one_mul, Int.emod_add_emod]
          · rw [if_neg (by omega), b3.2.2.1 (a / 21 + b / 21) x (by omega) (by omega) x0 x1]
            (try dsimp only)
            unfold mbI
            rw [if_neg (fun z => q z.2.symm), Int.zero_mul, Int.add_zero]) (fun c x c0 c1 hc x0 x1 => by
          (try dsimp only)
          rw [if_neg (by omega)]) (fun x hx => zo a (b + 1) _ x a0 (by omega)) (fun x => bd _ _ _ x)
        refine b4.congr (fun r x => ?_)
        by_cases q : r = a / 21 + b / 21
        · rw [if_pos q, q]
        · rw [if_neg q, stp]
          unfold mbI
          rw [if_neg (fun z => q z.1.symm), Int.zero_mul, Int.add_zero]
    · rintro S3 ⟨-, m3, b3⟩
      apply w_Model_multipliesBasis_39
      exact ⟨fun _ => nxt S3 m3 84 (by omega) (Or.inr rfl) b3, fun hc => absurd (Or.inl (Int.le_refl 84)) hc⟩
  · rintro S2 ⟨-, m2, b2⟩
    have w2 : DW S2 D := h.md m2 (by omega)
    have n2 : zG S2 D 1 = n := (m2.G (by omega) 1).trans hN
    have b2 : BR S2 (D + 34) 96 7 p (mbF p F G) := b2.congr (fun r x => by
      unfold mbT mbF
      rw [show (0 : Int).toNat = 0 from rfl, sm_zero, Int.add_zero]
      rfl)
    apply w_Model_multipliesBasis_11
    rw [n2, w32_id (x := 2 * n) (by omega) (by omega), w32_id (x := 2 * n - 2) (by omega) (by omega)]
    refine ⟨fun _ => ⟨w2.1, w2.1, ?_⟩, fun hc => absurd (Int.le_refl 84) hc⟩
    refine m_lowers (t := 2 * n - 2) (dg := 40) w2 ((m2.G (by omega) 0).trans hp) h2 n2 hn (by omega) (fun k k0 k1 => (m2.G (by omega) k).trans (hC k k0 k1)) bC sC zC b2 (by omega) (fun r x hx => mbF_deg r x (Or.inr hx)) (fun S3 m3 b3 => ⟨rfl, H S3 (m2.tr m3) ?_⟩)
    rw [show 2 * n - 2 + 1 - n = n - 1 by omega] at b3
    exact b3
  · unfold mbT
    rw [show (0 : Int).toNat = 0 from rfl, sm_zero, sm_zero]
    rfl
