/-! The model: settles. -/
theorem BR.row {S : Hp} {a w n p b : Int} {F : Int → Int → Int} (h : BR S a w n p F) (b0 : 0 ≤ b) (b1 : b < n) : rwP (zG S a) (w * b) w = F b := funext fun x => h.rw b0 b1 (Int.le_refl w) (fun x hx => h.2.2.2.1 b x (Or.inr hx)) x
theorem qr_0 {p c T : Int} {P : Int → Int} (h : ∀ x, P x = 0) : ∀ i, -1 ≤ T → -1 ≤ i → qr p c P T i = 0 := fun i hT hi => qr_z h hi hT
theorem m_isDivisible {d : Nat} {D p n c : Int} {S : Hp} {W : Int → Int → Int} {Q : Vl → Hp → Prop} (h : DW S D) (hp : zG S D 0 = p) (h2 : 2 ≤ p ∧ p ≤ 7) (hN : zG S D 1 = n) (hn : 2 ≤ n ∧ n ≤ 4) (h59 : zG S D 59 = c) (hc : 0 ≤ c ∧ c < p) (hW : BR S (D + 41) 100 7 p W) (zW : ∀ b x, n ≤ b → W b x = 0) (H1 : rootAll p c 99 W → Q (0, 1) S) (H0 : ¬ rootAll p c 99 W → Q (0, 0) S) : Ev (d + 1) 248 [(2, D)] S Q := by
  have hv : ∀ o i, 0 ≤ o → o + 100 ≤ 700 → o ≤ i → i < o + 100 → 0 ≤ zG S (D + 41) i ∧ zG S (D + 41) i < p := fun o i o0 o1 i0 i1 => (hW.bd (by omega) i (by omega) (by omega)).2
  apply w_Model_isDivisible_0
  refine loopU (α := Int) (P := fun j v => At (d + 1) 248 c248_4 [(0, (2, D)), (1, (0, v)), (2, (0, j))] [] S Q) (I := fun j v => 0 ≤ j ∧ in01 v ∧ (v = 1 ↔ ∀ b, 0 ≤ b → b < j → qr p c (W b) 99 (-1) = 0)) n ?_ ?_ 0 1 (by omega) ⟨by omega, Or.inr rfl, ⟨fun _ b b0 b1 => by omega, fun _ => rfl⟩⟩
  · rintro j v hj ⟨j0, v1, v2⟩ hk
    apply w_Model_isDivisible_4
    rw [hN, h59, h.x_work.1, w32_id (x := 100 * j) (by omega) (by omega)]
    refine ⟨h.1, fun hc => ⟨v1, ?_⟩, fun hc' => ⟨h.1, h.1, h.1, m_atNumber h.1 hp h2 h.x_work.2.1 (by rw [h.x_work.2.2]; omega) (by omega) (by omega) hc (fun i i0 i1 => hv _ i (by omega) (by omega) i0 i1) ⟨_, rfl, ?_⟩⟩⟩
    · have v0 : v = 0 := by omega
      rw [v0]
      refine H0 (fun z => ?_)
      rw [rootAll_iff] at z
      have := v2.mpr (fun b b0 b1 => z b b0 (by omega))
      omega
    · rw [hW.row j0 (by omega), show (100 : Int) - 1 = 99 by omega]
      rintro _ rfl _ rfl
      rw [w32_id (by omega) (by omega)]
      have v1' : v = 1 := by
        rcases v1 with z | z
        · exact absurd (Or.inr z) hc'
        · exact z
      refine hk _ ⟨by omega, ?_, ?_⟩
      · split
        · exact Or.inl rfl
        · exact Or.inr rfl
      · constructor
        · intro hz b b0 b1
          rcases Int.lt_or_le b j with q | q
          · exact v2.mp v1' b b0 q
          · rw [show b = j by omega]
            by_cases z : qr p c (W j) 99 (-1) = 0
            · exact z
            · rw [if_pos z] at hz
              omega
        · intro hz
          exact if_neg (fun z => z (hz j j0 (by omega)))
  · rintro v ⟨-, v1, v2⟩
    apply w_Model_isDivisible_4
    rw [hN]
    refine ⟨h.1, fun _ => ⟨v1, ?_⟩, fun hc => absurd (Or.inl (Int.le_refl n)) hc⟩
    rcases v1 with z | z
    · rw [z]
      refine H0 (fun y => ?_)
      rw [rootAll_iff] at y
      have := v2.mpr (fun b b0 b1 => y b b0 (by omega))
      omega
    · rw [z]
      refine H1 (rootAll_iff.mpr (fun b b0 b1 => ?_))
      rcases Int.lt_or_le b n with q | q
      · exact v2.mp z b b0 q
      · exact qr_0 (fun x => zW b x q) _ (by omega) (by omega)
/-- what a shelf gets -/
def stlR (D s n M c : Int) (G : Int → Int → Int) (S S' : Hp) : Prop := Md (fun x => x = D ∨ x = D + 3 ∨ x = D + 4 ∨ x = D + 5 ∨ x = D + 6 ∨ x = D + 41) S S' ∧ DW S' D ∧ (∀ i, i ≠ 58 → zG S' D i = zG S D i) ∧ (∀ i, i ≠ s → zG S' (D + 3) i = zG S (D + 3) i ∧ zG S' (D + 5) i = zG S (D + 5) i ∧ zG S' (D + 6) i = zG S (D + 6) i) ∧ zG S' (D + 3) s = 1 ∧ zG S' (D + 5) s = M ∧ zG S' (D + 6) s = (if M = 0 then 0 else c) ∧ (∀ j i, 0 ≤ j → j < 4 → 0 ≤ i → i < 31 → zG S' (D + 4) (124 * s + 31 * j + i) = G j i) ∧ ∀ x, x < 124 * s ∨ 124 * s + 124 ≤ x → zG S' (D + 4) x = zG S (D + 4) x
set_option maxHeartbeats 2000000 in
theorem m_settlesEnd {d : Nat} {D p n c s m : Int} {S : Hp} {G : Int → Int → Int} {Q : Vl → Hp → Prop} (h : DW S D) (hN : zG S D 1 = n) (hn : 2 ≤ n ∧ n ≤ 4) (h58 : zG S D 58 = m) (m0 : 0 ≤ m) (h59 : zG S D 59 = c) (hs : 0 ≤ s ∧ s < 6) (hW : BR S (D + 41) 100 7 p G) (zW : ∀ b x, n ≤ b → G b x = 0) (H1 : (m ≤ 20 ∧ ∀ j, 0 ≤ j → j < 4 → ∀ i, 30 < i → G j i = 0) → ∀ S', stlR D s n m c G S S' → Q (0, m) S') (H0 : ¬ (m ≤ 20 ∧ ∀ j, 0 ≤ j → j < 4 → ∀ i, 30 < i → G j i = 0) → Q (0, -4) S) : At (d + 1) 249 c249_61 [(0, (2, D)), (1, (0, s))] [] S Q := by
  apply w_Model_settles_61
  rw [h58]
  refine ⟨h.1, ?_⟩
  rintro _ rfl
  refine loopU (α := Int) (P := fun j v => At (d + 1) 249 c249_78 [(0, (2, D)), (1, (0, s)), (2, (0, v)), (3, (0, j))] [] S Q) (I := fun j v => 0 ≤ j ∧ (v = 0 ∨ v = 1) ∧ (v = 1 ↔ m ≤ 20 ∧ ∀ b, 0 ≤ b → b < j → ∀ i, 30 < i → G b i = 0)) n ?_ ?_ 0 _ (by omega) ⟨by omega, ?_, ?_⟩
  · rintro j v hj ⟨j0, v1, v2⟩ hk
    apply w_Model_settles_78
    rw [hN]
    refine ⟨h.1, fun hc => by omega, fun _ => ?_⟩
    refine loopU (α := Int) (P := fun e v => At (d + 1) 249 c249_90 [(0, (2, D)), (1, (0, s)), (2, (0, v)), (3, (0, j)), (4, (0, e))] [] S Q) (I := fun e v => 31 ≤ e ∧ (v = 0 ∨ v = 1) ∧ (v = 1 ↔ (m ≤ 20 ∧ ∀ b, 0 ≤ b → b < j → ∀ i, 30 < i → G b i = 0) ∧ ∀ i, 30 < i → i < e → G j i = 0)) 100 ?_ ?_ 31 v (by omega) ⟨by omega, v1, ⟨fun z => ⟨v2.mp z, fun i i0 i1 => by omega⟩, fun z => v2.mpr z.1⟩⟩
    · rintro e u he ⟨e0, u1, u2⟩ hk2
      have ev := hW.2.2.1 j e j0 (by omega) (by omega) he
      apply w_Model_settles_90
      rw [h.x_work.1, w32_id (x := 100 * j) (by omega) (by omega), w32_id (x := 100 * j + e) (by omega) (by omega), h.x_work.2.1, h.x_work.2.2, ev]
      refine ⟨fun hc => by omega, fun _ => ⟨fun _ => ⟨h.1, rfl, by omega, by omega⟩, ?_⟩⟩
      rintro _ rfl _ rfl
      rw [w32_id (by omega) (by omega)]
      refine hk2 _ ⟨by omega, ?_, ?_⟩
      · split
        · exact Or.inl rfl
        · exact Or.inr rfl
      · constructor
        · intro z
          have z : ¬ (u = 0 ∨ ¬ G j e = 0) := fun y => by rw [if_pos y] at z; omega
          have u3 := u2.mp (by omega)
          refine ⟨u3.1, fun i i0 i1 => ?_⟩
          rcases Int.lt_or_le i e with q | q
          · exact u3.2 i i0 q
          · rw [show i = e by omega]
            exact Decidable.not_not.mp (fun y => z (Or.inr y))
        · intro z
          refine if_neg (fun y => ?_)
          rcases y with y | y
          · have := u2.mpr ⟨z.1, fun i i0 i1 => z.2 i i0 (by omega)⟩
            omega
          · exact y (z.2 e (by omega) (by omega))
    · rintro u ⟨-, u1, u2⟩
      apply w_Model_settles_90
      refine ⟨fun _ => ?_, fun hc => absurd (Int.le_refl 100) hc⟩
      rintro _ rfl
      rw [w32_id (by omega) (by omega)]
      refine hk _ ⟨by omega, u1, ?_⟩
      constructor
      · intro z
        have z := u2.mp z
        refine ⟨z.1.1, fun b b0 b1 i i0 => ?_⟩
        rcases Int.lt_or_le b j with q | q
        · exact z.1.2 b b0 q i i0
        · rw [show b = j by omega]
          rcases Int.lt_or_le i 100 with r | r
          · exact z.2 i i0 r
          · exact hW.2.2.2.1 j i (Or.inr r)
      · intro z
        exact u2.mpr ⟨⟨z.1, fun b b0 b1 => z.2 b b0 (by omega)⟩, fun i i0 _ => z.2 j j0 (by omega) i i0⟩
  · rintro v ⟨-, v1, v2⟩
    have fit : v = 1 ↔ (m ≤ 20 ∧ ∀ j, 0 ≤ j → j < 4 → ∀ i, 30 < i → G j i = 0) := by
      constructor
      · intro z
        refine ⟨(v2.mp z).1, fun j j0 j1 i i0 => ?_⟩
        rcases Int.lt_or_le j n with q | q
        · exact (v2.mp z).2 j j0 q i i0
        · exact zW j i q
      · intro z
        exact v2.mpr ⟨z.1, fun b b0 b1 => z.2 b b0 (by omega)⟩
    apply w_Model_settles_78
    rw [hN]
    refine ⟨h.1, fun _ => ⟨fun hv => ?_, fun hv => H0 (fun z => ?_)⟩, fun hc => absurd (Int.le_refl n) hc⟩
    · have ft := fit.mp (by omega)
      refine loopU (P := fun j S' => At (d + 1) 249 c249_143 [(0, (2, D)), (1, (0, s)), (3, (0, j))] [] S' Q) (I := fun j S' => 0 ≤ j ∧ Md (fun x => x = D + 4) S S' ∧ (∀ b i, 0 ≤ b → b < j → 0 ≤ i → i < 31 → zG S' (D + 4) (124 * s + 31 * b + i) = G b i) ∧ ∀ x, x < 124 * s ∨ 124 * s + 124 ≤ x → zG S' (D + 4) x = zG S (D + 4) x) 4 ?_ ?_ 0 S (by omega) ⟨by omega, Md.refl _ _, fun b i b0 b1 => by omega, fun x _ => rfl⟩
      · rintro j S1 hj ⟨j0, m1, g1, o1⟩ hk
        apply w_Model_settles_143
        refine ⟨fun hc => by omega, fun _ => ?_⟩
        refine loopU (P := fun i S' => At (d + 1) 249 c249_151 [(0, (2, D)), (1, (0, s)), (3, (0, j)), (4, (0, i))] [] S' Q) (I := fun i S' => 0 ≤ i ∧ Md (fun x => x = D + 4) S S' ∧ (∀ b i, 0 ≤ b → b < j → 0 ≤ i → i < 31 → zG S' (D + 4) (124 * s + 31 * b + i) = G b i) ∧ (∀ e, 0 ≤ e → e < i → zG S' (D + 4) (124 * s + 31 * j + e) = G j e) ∧ ∀ x, x < 124 * s ∨ 124 * s + 124 ≤ x → zG S' (D + 4) x = zG S (D + 4) x) 31 ?_ ?_ 0 S1 (by omega) ⟨by omega, m1, g1, fun e e0 e1 => by omega, o1⟩
        · rintro i S2 hi ⟨i0, m2, g2, k2, o2⟩ hk2
          have w2 : DW S2 D := h.md m2 (by omega)
          have n2 : zG S2 D 1 = n := (m2.G (by omega) 1).trans hN
          apply w_Model_settles_151
          rw [w2.x_work.1, w2.x_parts.1, n2, w32_id (x := 100 * j) (by omega) (by omega), w32_id (x := 100 * j + i) (by omega) (by omega), w32_id (x := 124 * s) (by omega) (by omega), w32_id (x := 31 * j) (by omega) (by omega), w32_id (x := 124 * s + 31 * j) (by omega) (by omega), w32_id (x := 124 * s + 31 * j + i) (by omega) (by omega), w2.x_work.2.1, w2.x_work.2.2, w2.x_parts.2.1, w2.x_parts.2.2, m2.G (a := D + 41) (by omega), hW.2.2.1 j i j0 (by omega) i0 (by omega)]
          refine ⟨fun hc => by omega, fun _ => ⟨w2.1, w2.1, fun _ => ⟨w2.1, rfl, by omega, by omega⟩, ?_⟩⟩
          intro x2 hx2
          have hx2 : x2 = G j i := by
            rw [hx2]
            split
            · rename_i z
              exact (zW j i z).symm
            · rfl
          subst hx2
          refine ⟨⟨rfl, by omega, by omega⟩, ?_⟩
          rintro _ rfl _ rfl
          rw [w32_id (by omega) (by omega)]
          refine hk2 _ ⟨by omega, m2.tr (Md.zS _ _ _ _), fun b e b0 b1 e0 e1 => ?_, fun e e0 e1 => ?_, fun x hx => ?_⟩
          · rw [zG_zS_ne _ (Or.inr (by omega))]
            exact g2 b e b0 b1 e0 e1
          · by_cases q : e = i
            · rw [q, zG_zS_at]
            · rw [zG_zS_ne _ (Or.inr (by omega))]
              exact k2 e e0 (by omega)
          · rw [zG_zS_ne _ (Or.inr (by omega))]
            exact o2 x hx
        · rintro S2 ⟨-, m2, g2, k2, o2⟩
          apply w_Model_settles_151
          refine ⟨fun _ => ?_, fun hc => absurd (Int.le_refl 31) hc⟩
          rintro _ rfl
          rw [w32_id (by omega) (by omega)]
          refine hk _ ⟨by omega, m2, fun b i b0 b1 i0 i1 => ?_, o2⟩
          rcases Int.lt_or_le b j with q | q
          · exact g2 b i b0 q i0 i1
          · rw [show b = j by omega]
            exact k2 i i0 i1
      · rintro S1 ⟨-, m1, g1, o1⟩
        have w1 : DW S1 D := h.md m1 (by omega)
        have o1' : ∀ i, zG S1 D i = zG S D i := fun i => m1.G (by omega) i
        apply w_Model_settles_143
        rw [w1.x_under.1, w1.x_under.2.1, w1.x_under.2.2, o1' 58, h58]
        refine ⟨fun _ => ⟨w1.1, w1.1, ⟨rfl, by omega, by omega⟩, ?_⟩, fun hc => absurd (Int.le_refl 4) hc⟩
        rintro _ rfl
        have w2 : DW (zS S1 (D + 5) s m) D := w1.zSr (by omega)
        rw [zG_zS_ne _ (Or.inl (by omega)), o1' 58, h58, zG_zS_ne _ (Or.inl (by omega)), o1' 59, h59, w2.x_places.1, w2.x_places.2.1, w2.x_places.2.2]
        refine ⟨w2.1, w2.1, fun _ => w2.1, ?_⟩
        rintro _ rfl
        refine ⟨⟨rfl, by omega, by omega⟩, ?_⟩
        rintro _ rfl
        have w3 : DW (zS (zS S1 (D + 5) s m) (D + 6) s (if m ≤ 0 then 0 else c)) D := w2.zSr (by omega)
        rw [w3.x_holds.1, w3.x_holds.2.1, w3.x_holds.2.2]
        refine ⟨w3.1, ⟨rfl, by omega, by omega⟩, ?_⟩
        rintro _ rfl
        have w4 : DW (zS (zS (zS S1 (D + 5) s m) (D + 6) s (if m ≤ 0 then 0 else c)) (D + 3) s 1) D := w3.zSr (by omega)
        refine ⟨w4.1, ?_⟩
        rw [zG_zS_ne _ (Or.inl (by omega)), zG_zS_ne _ (Or.inl (by omega)), zG_zS_ne _ (Or.inl (by omega)), o1' 58, h58]
        refine H1 ft _ ⟨?_, w4, fun i _ => ?_, fun i hi => ⟨?_, ?_, ?_⟩, zG_zS_at _ _ _ _, ?_, ?_, fun j i j0 j1 i0 i1 => ?_, fun x hx => ?_⟩
        · refine (m1.wide ?_).tr (((Md.zS _ _ _ _).wide ?_).tr (((Md.zS _ _ _ _).wide ?_).tr ((Md.zS _ _ _ _).wide ?_))) <;> intro x hx <;> omega
        · rw [zG_zS_ne _ (Or.inl (by omega)), zG_zS_ne _ (Or.inl (by omega)), zG_zS_ne _ (Or.inl (by omega)), o1']
        · rw [zG_zS_ne _ (Or.inr hi), zG_zS_ne _ (Or.inl (by omega)), zG_zS_ne _ (Or.inl (by omega)), m1.G (by omega)]
        · rw [zG_zS_ne _ (Or.inl (by omega)), zG_zS_ne _ (Or.inl (by omega)), zG_zS_ne _ (Or.inr hi), m1.G (by omega)]
        · rw [zG_zS_ne _ (Or.inl (by omega)), zG_zS_ne _ (Or.inr hi), zG_zS_ne _ (Or.inl (by omega)), m1.G (by omega)]
        · rw [zG_zS_ne _ (Or.inl (by omega)), zG_zS_ne _ (Or.inl (by omega)), zG_zS_at]
        · rw [zG_zS_ne _ (Or.inl (by omega)), zG_zS_at]
          by_cases q : m = 0
          · rw [if_pos (by omega), if_pos q]
          · rw [if_neg (by omega), if_neg q]
        · rw [zG_zS_ne _ (Or.inl (by omega)), zG_zS_ne _ (Or.inl (by omega)), zG_zS_ne _ (Or.inl (by omega))]
          exact g1 j i j0 j1 i0 i1
        · rw [zG_zS_ne _ (Or.inl (by omega)), zG_zS_ne _ (Or.inl (by omega)), zG_zS_ne _ (Or.inl (by omega))]
          exact o1 x hx
    · have := fit.mpr z
      omega
  · split
    · exact Or.inl rfl
    · exact Or.inr rfl
  · constructor
    · intro z
      refine ⟨?_, fun b b0 b1 => by omega⟩
      rcases Int.lt_or_le 20 m with q | q
      · rw [if_pos q] at z
        omega
      · exact q
    · intro z
      exact if_neg (by omega)
