/-! The model: plus. -/
theorem tmR_zero {p c : Int} {F : Int → Int → Int} {j : Int} (h : ∀ i, F j i = 0) : ∀ (k : Nat) (i : Int), tmR p c k F j i = 0
  | 0, i => h i
  | k + 1, i => by
    show (tmR p c k F j (i - 1) + (p - c) * tmR p c k F j i) % p = 0
    rw [tmR_zero h k, tmR_zero h k, Int.mul_zero]
    rfl
theorem tmR_neg {p c : Int} {F : Int → Int → Int} {j : Int} (h : ∀ i, i < 0 → F j i = 0) : ∀ (k : Nat) (i : Int), i < 0 → tmR p c k F j i = 0
  | 0, i, hi => h i hi
  | k + 1, i, hi => by
    show (tmR p c k F j (i - 1) + (p - c) * tmR p c k F j i) % p = 0
    rw [tmR_neg h k _ (by omega), tmR_neg h k _ hi, Int.mul_zero]
    rfl
def plF (p c : Int) (k : Nat) (A B : Int → Int → Int) : Int → Int → Int := fun j x => (tmR p c k A j x + B j x) % p
set_option maxHeartbeats 2000000 in
theorem m_plus {d : Nat} {D p n a b t : Int} {S : Hp} {W : Int → Int → Int → Int} {Q : Vl → Hp → Prop} (h : DW S D) (hp : zG S D 0 = p) (h2 : 2 ≤ p ∧ p ≤ 7) (hN : zG S D 1 = n) (hn : n = 0 ∨ (2 ≤ n ∧ n ≤ 4)) (hE : ∀ s, 0 ≤ s → s < 6 → zG S (D + 3) s ≠ 0 → zG S (D + 3) s ≠ 2 → n ≠ 0 → elW S D s n p (W s) ∧ (0 ≤ zG S (D + 5) s ∧ zG S (D + 5) s ≤ 20) ∧ 0 ≤ zG S (D + 6) s ∧ zG S (D + 6) s < p) (H0 : rfT n a b t (zG S (D + 3) a) (zG S (D + 3) b) (zG S (D + 5) a) (zG S (D + 5) b) (zG S (D + 6) a) (zG S (D + 6) b) ≠ 0 → Q (0, rfT n a b t (zG S (D + 3) a) (zG S (D + 3) b) (zG S (D + 5) a) (zG S (D + 5) b) (zG S (D + 6) a) (zG S (D + 6) b)) S) (H1 : rfT n a b t (zG S (D + 3) a) (zG S (D + 3) b) (zG S (D + 5) a) (zG S (D + 5) b) (zG S (D + 6) a) (zG S (D + 6) b) = 0 → ∀ l u, (l = a ∧ u = b ∨ l = b ∧ u = a) → zG S (D + 5) l ≤ zG S (D + 5) u → stP D p t (zG S (D + 5) u) (zG S (D + 6) u) (plF p (zG S (D + 6) u) (zG S (D + 5) u - zG S (D + 5) l).toNat (W l) (W u)) S Q) : Ev (d + 3) 257 [(2, D), (0, a), (0, b), (0, t)] S Q := by
  apply w_Model_plus_0
  refine ⟨h.1, m_wrongTwo h hN ⟨_, rfl, fun hz => ?_, fun hz => H0 hz⟩⟩
  have H1 := H1 hz
  have hz' : n ≠ 0 ∧ ((0 ≤ a ∧ a < 6) ∧ (0 ≤ b ∧ b < 6) ∧ 0 ≤ t ∧ t < 6) ∧ ¬ (zG S (D + 3) a = 0 ∨ zG S (D + 3) b = 0) ∧ ¬ (zG S (D + 3) a = 2 ∨ zG S (D + 3) b = 2) := by
    unfold rfT at hz
    grind
  obtain ⟨n0, ⟨ra, rb, rt⟩, z1, z2⟩ := hz'
  have hn : 2 ≤ n ∧ n ≤ 4 := by omega
  clear hz H0
  rw [h.x_under.1, h.x_under.2.1, h.x_under.2.2]
  refine ⟨h.1, ⟨rfl, by omega, by omega⟩, h.1, ⟨rfl, by omega, by omega⟩, ?_⟩
  intro l hl u hu
  have lu : l = a ∧ u = b ∨ l = b ∧ u = a := by
    rw [hu, hl]
    grind
  have le : zG S (D + 5) l ≤ zG S (D + 5) u := by
    rw [hu, hl]
    grind
  have H1 := H1 l u lu le
  have rl : 0 ≤ l ∧ l < 6 := by omega
  have ru : 0 ≤ u ∧ u < 6 := by omega
  obtain ⟨eL, uL, -⟩ := hE l rl.1 rl.2 (by rcases lu with ⟨x, y⟩ | ⟨x, y⟩ <;> rw [x] <;> omega) (by rcases lu with ⟨x, y⟩ | ⟨x, y⟩ <;> rw [x] <;> omega) n0
  obtain ⟨eU, uU, pU⟩ := hE u ru.1 ru.2 (by rcases lu with ⟨x, y⟩ | ⟨x, y⟩ <;> rw [y] <;> omega) (by rcases lu with ⟨x, y⟩ | ⟨x, y⟩ <;> rw [y] <;> omega) n0
  generalize hUl : zG S (D + 5) l = ml at *
  generalize hUu : zG S (D + 5) u = mu at *
  generalize hPu : zG S (D + 6) u = c at *
  clear hl hu hE z1 z2 lu
  refine ⟨h.1, eL.up h hN hn h2 rl (fun S1 f1 a1 b1 w1 => ⟨rfl, f1.2.1.1, ?_⟩)⟩
  have k1 : ∀ o i, o ≠ D → o ≠ D + 41 → zG S1 o i = zG S o i := fun o i o1 o2 => f1.1.G (by omega) i
  rw [f1.2.1.x_places.1, f1.2.1.x_places.2.1, f1.2.1.x_places.2.2, k1 _ _ (by omega) (by omega), hPu]
  refine ⟨⟨rfl, by omega, by omega⟩, f1.2.1.1, ?_⟩
  rintro _ rfl
  have f2 : nfR D S (zS S1 D 59 c) := f1.tr ⟨(Md.zS _ _ _ _).wide (fun x hx => Or.inl hx), f1.2.1.sc (by decide), fun i i1 i2 => by rw [zG_zS_ne _ (Or.inr i2)]⟩
  have b2 : BR (zS S1 D 59 c) (D + 41) 100 7 p (W l) := w1.keep (Md.zS _ _ _ _) (by omega)
  have c2 : zG (zS S1 D 59 c) D 59 = c := zG_zS_at _ _ _ _
  generalize zS S1 D 59 c = S2 at *
  clear w1 k1 a1 b1 f1
  have k2 : ∀ o i, o ≠ D → o ≠ D + 41 → zG S2 o i = zG S o i := fun o i o1 o2 => f2.1.G (by omega) i
  rw [f2.2.1.x_under.1, f2.2.1.x_under.2.1, f2.2.1.x_under.2.2, k2 _ _ (by omega) (by omega), hUl]
  refine ⟨f2.2.1.1, ⟨rfl, by omega, by omega⟩, ?_⟩
  intro x7 hx7
  rw [hx7]
  clear hx7
  -- widening
  have zL : ∀ j i, (j < 0 ∨ n ≤ j) → W l j i = 0 := eL.2.2.2
  refine loopU (P := fun m S' => At (d + 3) 257 c257_78 [(0, (2, D)), (3, (0, t)), (6, (0, u)), (7, (0, m))] [] S' Q) (I := fun m S' => ml ≤ m ∧ nfR D S S' ∧ zG S' D 59 = c ∧ BR S' (D + 41) 100 7 p (tmR p c (m - ml).toNat (W l))) mu ?_ ?_ ml S2 le ⟨by omega, f2, c2, by rw [show ml - ml = 0 by omega]; exact b2⟩
  · rintro m S3 hm ⟨m0, f3, c3, b3⟩ hk
    have w3 := f3.2.1
    have k3 : ∀ o i, o ≠ D → o ≠ D + 41 → zG S3 o i = zG S o i := fun o i o1 o2 => f3.1.G (by omega) i
    have dT : ∀ j i : Int, 30 + ((m - ml).toNat : Int) < i → tmR p c (m - ml).toNat (W l) j i = 0 := fun j i hi => tmR_top (D := 30) (fun i hi => eL.2.2.1 j i (Or.inr hi)) _ i hi
    have zT : ∀ j i, (j < 0 ∨ n ≤ j) → tmR p c (m - ml).toNat (W l) j i = 0 := fun j i hj => tmR_zero (fun i => zL j i hj) _ i
    have eT : ∀ j x, tmR p c (m + 1 - ml).toNat (W l) j x = (tmR p c (m - ml).toNat (W l) j (x - 1) + (p - c) * tmR p c (m - ml).toNat (W l) j x) % p := fun j x => by
      rw [show (m + 1 - ml).toNat = (m - ml).toNat + 1 by omega]
      rfl
    generalize tmR p c (m - ml).toNat (W l) = V at *
    apply w_Model_plus_78
    rw [w3.x_under.1, w3.x_under.2.1, w3.x_under.2.2, k3 _ _ (by omega) (by omega), hUu]
    refine ⟨w3.1, ⟨rfl, by omega, by omega⟩, fun hc => by omega, fun _ => ?_⟩
    refine loopU (P := fun j S' => At (d + 3) 257 c257_93 [(0, (2, D)), (3, (0, t)), (6, (0, u)), (7, (0, m)), (8, (0, j))] [] S' Q) (I := fun j S' => 0 ≤ j ∧ nfR D S S' ∧ zG S' D 59 = c ∧ BR S' (D + 41) 100 7 p (fun b x => if 0 ≤ b ∧ b < j then (V b (x - 1) + (p - c) * V b x) % p else V b x)) n ?_ ?_ 0 S3 (by omega) ⟨by omega, f3, c3, b3.congr (fun b x => by rw [if_neg (by omega)])⟩
    · rintro j S4 hj ⟨j0, f4, c4, b4⟩ hk2
      have w4 := f4.2.1
      apply w_Model_plus_93
      rw [(f4.2.2 1 (by omega) (by omega)).trans hN, c4, w32_id (x := 100 * j) (by omega) (by omega)]
      refine ⟨w4.1, fun hc => by omega, fun _ => ⟨w4.1, w4.1, ?_⟩⟩
      refine m_timesLine (k := j) w4 ((f4.2.2 0 (by omega) (by omega)).trans hp) h2 pU b4 j0 (by omega) rfl (by rw [if_neg (by omega)]; exact dT j 99 (by omega)) (fun S5 m5 b5 => ⟨rfl, ?_⟩)
      rintro _ rfl
      rw [w32_id (by omega) (by omega)]
      refine hk2 _ ⟨by omega, f4.tr ⟨m5.wide (fun x hx => Or.inr hx), w4.md m5 (by omega), fun i _ _ => m5.G (by omega) i⟩, (m5.G (by omega) 59).trans c4, b5.congr (fun b x => ?_)⟩
      by_cases q : b = j
      · rw [if_pos q, if_neg (by omega), if_neg (by omega), if_pos (by omega), q]
      · rw [if_neg q]
        by_cases q2 : 0 ≤ b ∧ b < j
        · rw [if_pos q2, if_pos (by omega)]
        · rw [if_neg q2, if_neg (by omega)]
    · rintro S4 ⟨-, f4, c4, b4⟩
      apply w_Model_plus_93
      rw [(f4.2.2 1 (by omega) (by omega)).trans hN]
      refine ⟨f4.2.1.1, fun _ => ?_, fun hc => absurd (Int.le_refl n) hc⟩
      rintro _ rfl
      rw [w32_id (by omega) (by omega)]
      refine hk _ ⟨by omega, f4, c4, b4.congr (fun b x => ?_)⟩
      rw [eT]
      by_cases q : 0 ≤ b ∧ b < n
      · rw [if_pos q]
      · rw [if_neg q, zT b x (by omega), zT b (x - 1) (by omega), Int.mul_zero]
        rfl
  · rintro S3 ⟨-, f3, c3, b3⟩
    have w3 := f3.2.1
    have k3 : ∀ o i, o ≠ D → o ≠ D + 41 → zG S3 o i = zG S o i := fun o i o1 o2 => f3.1.G (by omega) i
    have zT : ∀ j i, (j < 0 ∨ n ≤ j) → tmR p c (mu - ml).toNat (W l) j i = 0 := fun j i hj => tmR_zero (fun i => zL j i hj) _ i
    have nT : ∀ j i, i < 0 → tmR p c (mu - ml).toNat (W l) j i = 0 := fun j i hi => tmR_neg (fun i hi => eL.2.2.1 j i (Or.inl hi)) _ i hi
    unfold plF at H1
    generalize tmR p c (mu - ml).toNat (W l) = V at *
    apply w_Model_plus_78
    rw [w3.x_under.1, w3.x_under.2.1, w3.x_under.2.2, k3 _ _ (by omega) (by omega), hUu]
    refine ⟨w3.1, ⟨rfl, by omega, by omega⟩, fun _ => ⟨w3.1, ⟨rfl, by omega, by omega⟩, w3.1, ?_⟩, fun hc => absurd (Int.le_refl mu) hc⟩
    rintro _ rfl
    have f4 : nfR D S (zS S3 D 58 mu) := f3.tr ⟨(Md.zS _ _ _ _).wide (fun x hx => Or.inl hx), w3.sc (by decide), fun i i1 i2 => by rw [zG_zS_ne _ (Or.inr i1)]⟩
    have b4 : BR (zS S3 D 58 mu) (D + 41) 100 7 p V := b3.keep (Md.zS _ _ _ _) (by omega)
    have c4 : zG (zS S3 D 58 mu) D 59 = c := by rw [zG_zS_ne _ (Or.inr (by omega))]; exact c3
    have e4 : zG (zS S3 D 58 mu) D 58 = mu := zG_zS_at _ _ _ _
    generalize zS S3 D 58 mu = S4 at *
    clear f3 c3 b3 w3 k3
    refine loopU (P := fun j S' => At (d + 3) 257 c257_141 [(0, (2, D)), (3, (0, t)), (6, (0, u)), (7, (0, j))] [] S' Q) (I := fun j S' => 0 ≤ j ∧ nfR D S S' ∧ zG S' D 59 = c ∧ zG S' D 58 = mu ∧ BR S' (D + 41) 100 7 p (fun b x => if 0 ≤ b ∧ b < j then (V b x + W u b x) % p else V b x)) n ?_ ?_ 0 S4 (by omega) ⟨by omega, f4, c4, e4, b4.congr (fun b x => by rw [if_neg (by omega)])⟩
    · rintro j S5 hj ⟨j0, f5, c5, e5, b5⟩ hk
      have w5 := f5.2.1
      apply w_Model_plus_141
      rw [(f5.2.2 1 (by omega) (by omega)).trans hN]
      refine ⟨w5.1, fun hc => by omega, fun _ => ?_⟩
      refine loopU (P := fun i S' => At (d + 3) 257 c257_153 [(0, (2, D)), (3, (0, t)), (6, (0, u)), (7, (0, j)), (8, (0, i))] [] S' Q) (I := fun i S' => 0 ≤ i ∧ S' = zR S5 (D + 41) (fun x => if 100 * j ≤ x ∧ x < 100 * j + i then (V j (x - 100 * j) + W u j (x - 100 * j)) % p else zG S5 (D + 41) x)) 31 ?_ ?_ 0 S5 (by omega) ⟨by omega, (zR_self S5 (D + 41)).symm.trans (zR_congr _ _ (fun x => by rw [if_neg (by omega)]))⟩
      · rintro i _ hi ⟨i0, rfl⟩ hk2
        have w6 : DW (zR S5 (D + 41) (fun x => if 100 * j ≤ x ∧ x < 100 * j + i then (V j (x - 100 * j) + W u j (x - 100 * j)) % p else zG S5 (D + 41) x)) D := w5.zR (by omega)
        have v5 := b5.2.2.1 j i j0 (by omega) i0 (by omega)
        have bV := b4.2.2.2.2 j i
        have bU := eU.2.1 j i
        (try dsimp only at v5)
        rw [if_neg (by omega)] at v5
        apply w_Model_plus_153
        rw [w32_id (x := 100 * j) (by omega) (by omega), w32_id (x := 100 * j + i) (by omega) (by omega)]
        refine ⟨fun hc => by omega, fun _ => ?_⟩
        rintro _ rfl
        rw [w6.x_parts.1, w6.x_work.1, w32_id (x := 124 * u) (by omega) (by omega), w32_id (x := 31 * j) (by omega) (by omega), w32_id (x := 124 * u + 31 * j) (by omega) (by omega), w32_id (x := 124 * u + 31 * j + i) (by omega) (by omega), w6.x_parts.2.1, w6.x_parts.2.2, w6.x_work.2.1, w6.x_work.2.2, zG_zR_at, if_neg (by omega), v5, zG_zR_ne _ (show D + 4 ≠ D + 41 by omega), f5.1.G (a := D + 4) (by omega), eU.1 j i j0 (by omega) i0 hi, zG_zR_ne _ (show D ≠ D + 41 by omega), (f5.2.2 0 (by omega) (by omega)).trans hp, w32_id (x := V j i + W u j i) (by omega) (by omega), tm_nn (by omega)]
        refine ⟨w6.1, w6.1, ⟨rfl, by omega, by omega⟩, w6.1, ⟨rfl, by omega, by omega⟩, w6.1, by omega, ⟨rfl, by omega, by omega⟩, ?_⟩
        rintro _ rfl _ rfl
        rw [w32_id (by omega) (by omega), zS_zR]
        refine hk2 _ ⟨by omega, zR_congr _ _ (fun x => ?_)⟩
        by_cases q : x = 100 * j + i
        · rw [if_pos q, if_pos (by omega), show x - 100 * j = i by omega]
        · rw [if_neg q]
          by_cases q2 : 100 * j ≤ x ∧ x < 100 * j + i
          · rw [if_pos q2, if_pos (by omega)]
          · rw [if_neg q2, if_neg (by omega)]
      · rintro _ ⟨-, rfl⟩
        apply w_Model_plus_153
        refine ⟨fun _ => ?_, fun hc => absurd (Int.le_refl 31) hc⟩
        rintro _ rfl
        rw [w32_id (by omega) (by omega)]
        have b6 := b5.set (k := j) (G := fun x => (V j x + W u j x) % p) (f := fun x => if 100 * j ≤ x ∧ x < 100 * j + 31 then (V j (x - 100 * j) + W u j (x - 100 * j)) % p else zG S5 (D + 41) x) j0 (by omega) (fun i i0 i1 => by
          (try dsimp only)
          by_cases q : i < 31
          · rw [if_pos (by omega), show 100 * j + i - 100 * j = i by omega]
          · rw [if_neg (by omega), b5.2.2.1 j i j0 (by omega) i0 i1]
            (try dsimp only)
            rw [if_neg (by omega), eU.2.2.1 j i (Or.inr (by omega)), Int.add_zero, em_id (b4.2.2.2.2 j i).1 (b4.2.2.2.2 j i).2]) (fun b i b0 b1 hb i0 i1 => by
          (try dsimp only)
          rw [if_neg (by omega)]) (fun i hi => by
          (try dsimp only)
          rw [b4.2.2.2.1 j i hi, eU.2.2.1 j i (by omega)]
          rfl) (fun i => ⟨em_ge (by omega), em_lt (by omega)⟩)
        refine hk _ ⟨by omega, f5.tr ⟨(Md.zR _ _ _).wide (fun x hx => Or.inr hx), w5.zR (by omega), fun i _ _ => by rw [zG_zR_ne _ (by omega)]⟩, by rw [zG_zR_ne _ (by omega)]; exact c5, by rw [zG_zR_ne _ (by omega)]; exact e5, b6.congr (fun b x => ?_)⟩
        by_cases q : b = j
        · rw [if_pos q, if_pos (by omega), q]
        · rw [if_neg q]
          by_cases q2 : 0 ≤ b ∧ b < j
          · rw [if_pos q2, if_pos (by omega)]
          · rw [if_neg q2, if_neg (by omega)]
    · rintro S5 ⟨-, f5, c5, e5, b5⟩
      have w5 := f5.2.1
      apply w_Model_plus_141
      rw [(f5.2.2 1 (by omega) (by omega)).trans hN]
      refine ⟨w5.1, fun _ => ⟨w5.1, ?_⟩, fun hc => absurd (Int.le_refl n) hc⟩
      have b5 : BR S5 (D + 41) 100 7 p (fun b x => (V b x + W u b x) % p) := b5.congr (fun b x => by
        by_cases q : 0 ≤ b ∧ b < n
        · rw [if_pos q]
        · rw [if_neg q, zT b x (by omega), eU.2.2.2 b x (by omega)]
          rfl)
      exact m_settlesF (W := fun b x => (V b x + W u b x) % p) h2 hn pU rt (by omega) w5 ((f5.2.2 0 (by omega) (by omega)).trans hp) ((f5.2.2 1 (by omega) (by omega)).trans hN) e5 c5 b5 (fun b x hb => by
        (try dsimp only)
        rw [zT b x (Or.inr hb), eU.2.2.2 b x (Or.inr hb)]
        rfl) f5 ⟨fun ft S' r => ⟨_, rfl, H1.1 ft S' r⟩, fun ft S' r => ⟨_, rfl, H1.2 ft S' r⟩⟩
