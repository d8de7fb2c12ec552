/-! The model: an element by its place, and the first ring where it lies. -/
/-- a line read anew by powers of x - c, times x to the -u, written from 40 on -/
def sbP (p n c u : Int) (W : Int → Int → Int) : Int → Int → Int := fun i z => if 0 ≤ i ∧ i < n then bsH p (p - c) (fun k => W i (30 - k)) 31 (z - (40 - u)) else 0
theorem m_standRow {d : Nat} {D p c u s i e : Int} {k : Nat} {S : Hp} {G : Int → Int → Int} {f : Int → Int} {Q : Vl → Hp → Prop} (h2 : 2 ≤ p ∧ p ≤ 7) (hc : 0 ≤ c ∧ c < p) (hu : 0 ≤ u ∧ u ≤ 20) (hs : 0 ≤ s ∧ s < 6) (hi : 0 ≤ i ∧ i < 4) (hk : k ≤ 30) (he : e = 30 - k) (h : DW S D) (hp : zG S D 0 = p) (h6 : zG S (D + 6) s = c) (hv : zG S (D + 4) (124 * s + 31 * i + e) = f k) (bf : 0 ≤ f k ∧ f k < p) (hG : BR S (D + 34) 96 7 p (fun b => if b = i then fun z => bsH p (p - c) f k (z - (40 - u)) else G b)) (H : ∀ S', Md (fun x => x = D + 34) S S' → BR S' (D + 34) 96 7 p (fun b => if b = i then fun z => bsH p (p - c) f (k + 1) (z - (40 - u)) else G b) → At (d + 1) 266 c266_21 [(0, (2, D)), (1, (0, s)), (2, (0, i)), (3, (0, e - 1))] [] S' Q) : At (d + 1) 266 c266_45 [(0, (2, D)), (1, (0, s)), (2, (0, i)), (3, (0, e)), (4, (0, 96 * i + 40 - u)), (5, (0, 30))] [] S Q := by
  have gb : ∀ x, 0 ≤ bsH p (p - c) f k x ∧ bsH p (p - c) f k x < p := bsH_bd h2.1 k
  have gz : ∀ x, (x < 0 ∨ (k : Int) ≤ x) → bsH p (p - c) f k x = 0 := bsH_z k
  have nx : ∀ x, bsH p (p - c) f (k + 1) x = if x = 0 then ((bsH p (p - c) f k (x - 1) + c * bsH p (p - c) f k x) % p + f k) % p else (bsH p (p - c) f k (x - 1) + c * bsH p (p - c) f k x) % p := fun x => by
    show (if x = 0 then ((bsH p (p - c) f k (x - 1) + (p - (p - c)) * bsH p (p - c) f k x) % p + f k) % p else (bsH p (p - c) f k (x - 1) + (p - (p - c)) * bsH p (p - c) f k x) % p) = _
    rw [show p - (p - c) = c by omega]
  generalize bsH p (p - c) f k = g at hG gb gz nx
  generalize hq : bsH p (p - c) f (k + 1) = q at H nx
  have tw : ∃ t : Int → Int, ∀ x, t x = (g (x - 1) + c * g x) % p := ⟨_, fun _ => rfl⟩
  obtain ⟨t, ht⟩ := tw
  have tb : ∀ x, 0 ≤ t x ∧ t x < p := fun x => by rw [ht]; exact ⟨em_ge (by omega), em_lt (by omega)⟩
  have tz : ∀ x, (x < 0 ∨ 30 < x) → t x = 0 := fun x hx => by
    rw [ht, gz (x - 1) (by omega), gz x (by omega), Int.mul_zero]
    exact Int.zero_emod p
  have nx : ∀ x, q x = if x = 0 then (t 0 + f k) % p else t x := fun x => by
    rw [nx]
    by_cases z : x = 0
    · rw [if_pos z, if_pos z, ht, z]
    · rw [if_neg z, if_neg z, ht]
  refine loopD (P := fun x S' => At (d + 1) 266 c266_45 [(0, (2, D)), (1, (0, s)), (2, (0, i)), (3, (0, e)), (4, (0, 96 * i + 40 - u)), (5, (0, x))] [] S' Q) (I := fun x S' => x ≤ 30 ∧ Md (fun x => x = D + 34) S S' ∧ BR S' (D + 34) 96 7 p (fun b => if b = i then fun z => if x < z - (40 - u) then t (z - (40 - u)) else g (z - (40 - u)) else G b)) 0 ?_ ?_ 30 S (by omega) ⟨by omega, Md.refl _ _, hG.congr (fun b z => ?_)⟩
  · rintro x S1 x0 ⟨x1, m1, b1⟩ hk1
    have w1 : DW S1 D := h.md m1 (by omega)
    have p1 : zG S1 D 0 = p := (m1.G (by omega) 0).trans hp
    have c1 : zG S1 (D + 6) s = c := (m1.G (by omega) s).trans h6
    have v1 := b1.2.2.1 i (40 - u + x) hi.1 (by omega) (by omega) (by omega)
    (try dsimp only at v1)
    rw [if_pos rfl] at v1
    (try dsimp only at v1)
    rw [if_neg (by omega), show 96 * i + (40 - u + x) = 96 * i + 40 - u + x by omega, show 40 - u + x - (40 - u) = x by omega] at v1
    have y1 : x ≤ 0 → g (x - 1) = 0 := fun z => gz _ (by omega)
    have u1 : ¬ x ≤ 0 → zG S1 (D + 34) (96 * i + 40 - u + x - 1) = g (x - 1) := fun z => by
      have := b1.2.2.1 i (40 - u + x - 1) hi.1 (by omega) (by omega) (by omega)
      (try dsimp only at this)
      rw [if_pos rfl] at this
      (try dsimp only at this)
      rw [if_neg (by omega), show 96 * i + (40 - u + x - 1) = 96 * i + 40 - u + x - 1 by omega, show 40 - u + x - 1 - (40 - u) = x - 1 by omega] at this
      exact this
    have cb : 0 ≤ c * g x ∧ c * g x ≤ 49 := ⟨Int.mul_nonneg hc.1 (gb x).1, by have := Int.mul_le_mul (show c ≤ 7 by omega) (show g x ≤ 7 by have := gb x; omega) (gb x).1 (by omega); omega⟩
    have gx := gb (x - 1)
    apply w_Model_standsByPlace_45
    rw [w1.x_lau.1, w1.x_lau.2.1, w1.x_lau.2.2, w1.x_places.1, w1.x_places.2.1, w1.x_places.2.2, w32_id (x := 96 * i + 40 - u + x) (by omega) (by omega), w32_id (x := 96 * i + 40 - u + x - 1) (by omega) (by omega), p1, c1, v1, w32_id (x := c * g x) (by omega) (by omega)]
    refine ⟨fun z => by omega, fun _ => ⟨fun _ => ⟨w1.1, rfl, by omega, by omega⟩, ?_⟩⟩
    rw [show (if x ≤ 0 then 0 else zG S1 (D + 34) (96 * i + 40 - u + x - 1)) = g (x - 1) by
      by_cases z : x ≤ 0
      · rw [if_pos z, y1 z]
      · rw [if_neg z, u1 z]]
    rintro _ rfl
    rw [w32_id (x := g (x - 1) + c * g x) (by omega) (by omega), tm_nn (by omega), ← ht]
    refine ⟨w1.1, w1.1, ⟨rfl, by omega, by omega⟩, w1.1, ⟨rfl, by omega, by omega⟩, w1.1, by omega, ⟨rfl, by omega, by omega⟩, ?_⟩
    rintro _ rfl _ rfl
    rw [w32_id (by omega) (by omega), show x + -1 = x - 1 by omega]
    have b2 := b1.put (k := i) (i := 40 - u + x) (v := t x) hi.1 (by omega) (by omega) (by omega) (tb x)
    rw [show 96 * i + (40 - u + x) = 96 * i + 40 - u + x by omega] at b2
    refine hk1 _ ⟨by omega, m1.tr (Md.zS _ _ _ _), b2.congr (fun b z => ?_)⟩
    (try dsimp only)
    by_cases zb : b = i
    · rw [if_pos zb, if_pos zb]
      (try dsimp only)
      by_cases zz : z = 40 - u + x
      · rw [if_pos zz, if_pos (by omega), zz, show 40 - u + x - (40 - u) = x by omega]
      · rw [if_neg zz, if_pos rfl]
        (try dsimp only)
        by_cases z3 : x < z - (40 - u)
        · rw [if_pos z3, if_pos (by omega)]
        · rw [if_neg z3, if_neg (by omega)]
    · rw [if_neg zb, if_neg zb, if_neg zb]
  · rintro S1 ⟨-, m1, b1⟩
    have w1 : DW S1 D := h.md m1 (by omega)
    have p1 : zG S1 D 0 = p := (m1.G (by omega) 0).trans hp
    have v1 := b1.2.2.1 i (40 - u) hi.1 (by omega) (by omega) (by omega)
    (try dsimp only at v1)
    rw [if_pos rfl] at v1
    (try dsimp only at v1)
    rw [if_pos (by omega), show 96 * i + (40 - u) = 96 * i + 40 - u by omega, show 40 - u - (40 - u) = 0 by omega] at v1
    have t0 := tb 0
    apply w_Model_standsByPlace_45
    refine ⟨fun _ => ?_, fun z => absurd (by omega) z⟩
    rw [w1.x_lau.1, w1.x_lau.2.1, w1.x_lau.2.2, w1.x_parts.1, w1.x_parts.2.1, w1.x_parts.2.2, w32_id (x := 124 * s) (by omega) (by omega), w32_id (x := 31 * i) (by omega) (by omega), w32_id (x := 124 * s + 31 * i) (by omega) (by omega), w32_id (x := 124 * s + 31 * i + e) (by omega) (by omega), m1.G (a := D + 4) (by omega), hv, p1, v1, w32_id (x := t 0 + f k) (by omega) (by omega), tm_nn (by omega), w32_id (x := e + -1) (by omega) (by omega), show e + -1 = e - 1 by omega]
    refine ⟨w1.1, w1.1, ⟨rfl, by omega, by omega⟩, w1.1, ⟨rfl, by omega, by omega⟩, w1.1, by omega, ⟨rfl, by omega, by omega⟩, ?_⟩
    rintro _ rfl _ rfl
    have b2 := b1.put (k := i) (i := 40 - u) (v := (t 0 + f k) % p) hi.1 (by omega) (by omega) (by omega) ⟨em_ge (by omega), em_lt (by omega)⟩
    rw [show 96 * i + (40 - u) = 96 * i + 40 - u by omega] at b2
    refine H _ (m1.tr (Md.zS _ _ _ _)) (b2.congr (fun b z => ?_))
    (try dsimp only)
    by_cases zb : b = i
    · rw [if_pos zb, if_pos zb]
      (try dsimp only)
      rw [nx]
      by_cases zz : z = 40 - u
      · rw [if_pos zz, if_pos (by omega)]
      · rw [if_neg zz, if_pos rfl, if_neg (show ¬ z - (40 - u) = 0 by omega)]
        (try dsimp only)
        by_cases z3 : 0 - 1 < z - (40 - u)
        · rw [if_pos z3]
        · rw [if_neg z3, gz _ (by omega), tz _ (by omega)]
    · rw [if_neg zb, if_neg zb, if_neg zb]
  · (try dsimp only)
    by_cases zb : b = i
    · rw [if_pos zb, if_pos zb]
      (try dsimp only)
      by_cases z3 : 30 < z - (40 - u)
      · rw [if_pos z3, gz _ (by omega), tz _ (by omega)]
      · rw [if_neg z3]
    · rw [if_neg zb, if_neg zb]
theorem m_standsByPlace {d : Nat} {D p n c u s : Int} {S : Hp} {W : Int → Int → Int} {Q : Vl → Hp → Prop} (h2 : 2 ≤ p ∧ p ≤ 7) (hn : 2 ≤ n ∧ n ≤ 4) (hc : 0 ≤ c ∧ c < p) (hu : 0 ≤ u ∧ u ≤ 20) (hs : 0 ≤ s ∧ s < 6) (h : DW S D) (hp : zG S D 0 = p) (hN : zG S D 1 = n) (h5 : zG S (D + 5) s = u) (h6 : zG S (D + 6) s = c) (hW : elW S D s n p W) (H : ∀ S', Md (fun x => x = D + 34) S S' → BR S' (D + 34) 96 7 p (sbP p n c u W) → Q (3, 0) S') : Ev (d + 1) 266 [(2, D), (0, s)] S Q := by
  apply w_Model_standsByPlace_0
  rw [h.x_lau.1]
  refine ⟨h.1, h.1, m_zeroB (w := 96) (n := 7) (p := p) h.x_lau.2.1 (h.x_lau.2.2.trans (by decide)) (by omega) (by omega) (by omega) (by omega) (fun S1 m1 b1 => ⟨rfl, ?_⟩)⟩
  have pick : ∀ i z, sbP p 0 c u W i z = 0 := fun i z => if_neg (by omega)
  refine loopU (P := fun i S' => At (d + 1) 266 c266_10 [(0, (2, D)), (1, (0, s)), (2, (0, i))] [] S' Q) (I := fun i S' => 0 ≤ i ∧ Md (fun x => x = D + 34) S S' ∧ BR S' (D + 34) 96 7 p (sbP p i c u W)) n ?_ ?_ 0 S1 (by omega) ⟨by omega, m1, b1.congr (fun b x => (pick b x).symm)⟩
  · rintro i S2 hi ⟨i0, m2, b2⟩ hk1
    have w2 : DW S2 D := h.md m2 (by omega)
    apply w_Model_standsByPlace_10
    rw [(m2.G (a := D) (by omega) 1).trans hN]
    refine ⟨w2.1, fun z => by omega, fun _ => ?_⟩
    refine loopD (P := fun e S' => At (d + 1) 266 c266_21 [(0, (2, D)), (1, (0, s)), (2, (0, i)), (3, (0, e))] [] S' Q) (I := fun e S' => e ≤ 30 ∧ Md (fun x => x = D + 34) S S' ∧ BR S' (D + 34) 96 7 p (fun b => if b = i then fun z => bsH p (p - c) (fun k => W i (30 - k)) (30 - e).toNat (z - (40 - u)) else sbP p i c u W b)) 0 ?_ ?_ 30 S2 (by omega) ⟨by omega, m2, b2.congr (fun b z => ?_)⟩
    · rintro e S3 e0 ⟨e1, m3, b3⟩ hk2
      have w3 : DW S3 D := h.md m3 (by omega)
      apply w_Model_standsByPlace_21
      rw [w3.x_under.1, w3.x_under.2.1, w3.x_under.2.2, (m3.G (a := D + 5) (by omega) s).trans h5, w32_id (x := 96 * i) (by omega) (by omega), w32_id (x := 96 * i + 40) (by omega) (by omega), w32_id (x := 96 * i + 40 - u) (by omega) (by omega)]
      refine ⟨fun z => by omega, fun _ => ⟨w3.1, ⟨rfl, by omega, by omega⟩, ?_⟩⟩
      rintro _ rfl
      have ee : 30 - (((30 - e).toNat : Nat) : Int) = e := by omega
      refine m_standRow (f := fun k => W i (30 - k)) (k := (30 - e).toNat) h2 hc hu hs (by omega) (by omega) (by omega) w3 ((m3.G (by omega) 0).trans hp) ((m3.G (by omega) s).trans h6) ?_ ?_ b3 (fun S4 m4 b4 => hk2 _ ⟨by omega, m3.tr m4, b4.congr (fun b z => ?_)⟩)
      · (try dsimp only)
        rw [ee, m3.G (by omega)]
        exact hW.1 i e i0 (by omega) e0 (by omega)
      · exact hW.2.1 i _
      · rw [show (30 - (e - 1)).toNat = (30 - e).toNat + 1 by omega]
    · rintro S3 ⟨-, m3, b3⟩
      apply w_Model_standsByPlace_21
      refine ⟨fun _ => ?_, fun z => absurd (by omega) z⟩
      rintro _ rfl
      rw [w32_id (by omega) (by omega)]
      refine hk1 _ ⟨by omega, m3, b3.congr (fun b z => ?_)⟩
      (try dsimp only)
      unfold sbP
      by_cases q : b = i
      · rw [if_pos q, if_pos (by omega), q]
        rfl
      · rw [if_neg q]
        by_cases q' : 0 ≤ b ∧ b < i
        · rw [if_pos q', if_pos (by omega)]
        · rw [if_neg q', if_neg (by omega)]
    · (try dsimp only)
      by_cases q : b = i
      · rw [if_pos q, show (30 - (30 : Int)).toNat = 0 by decide]
        exact if_neg (by omega)
      · rw [if_neg q]
  · rintro S2 ⟨-, m2, b2⟩
    apply w_Model_standsByPlace_10
    rw [(m2.G (a := D) (by omega) 1).trans hN]
    exact ⟨by rw [m2.K]; exact h.1, fun _ => H S2 m2 b2, fun z => absurd (Int.le_refl n) z⟩
theorem m_lies {d : Nat} {D p n s : Int} {S : Hp} {F : Int → Int} {W : Int → Int → Int} {Q : Vl → Hp → Prop} (h : MC S D p n F) (hE : 0 ≤ s → s < 6 → zG S (D + 3) s ≠ 0 → zG S (D + 3) s ≠ 2 → n ≠ 0 → elW S D s n p W ∧ (0 ≤ zG S (D + 5) s ∧ zG S (D + 5) s ≤ 20) ∧ 0 ≤ zG S (D + 6) s ∧ zG S (D + 6) s < p) (H0 : rfE n s True (zG S (D + 3) s) ≠ 0 → Q (0, rfE n s True (zG S (D + 3) s)) S) (H1 : rfE n s True (zG S (D + 3) s) = 0 → zG S (D + 5) s = 0 → Q (0, 0) S) (H2 : rfE n s True (zG S (D + 3) s) = 0 → zG S (D + 5) s ≠ 0 → ∀ S' L fK dK, opR D S S' → MC S' D p n F → RG S' D (zG S (D + 6) s) p n (cfF (mvC p (zG S (D + 6) s) F) n) L fK dK → ∀ v, (v = -3 ∧ (∀ k, 0 ≤ k → k ≤ L → ¬ okE p n (dK k) (fK k) (sbP p n (zG S (D + 6) s) (zG S (D + 5) s) W))) ∨ (0 ≤ v ∧ v ≤ L ∧ okE p n (dK v) (fK v) (sbP p n (zG S (D + 6) s) (zG S (D + 5) s) W) ∧ ∀ k, 0 ≤ k → k < v → ¬ okE p n (dK k) (fK k) (sbP p n (zG S (D + 6) s) (zG S (D + 5) s) W)) → Q (0, v) S') : Ev (d + 5) 267 [(2, D), (0, s)] S Q := by
  have h2 := isPr_b h.2.2.1
  have w := h.1
  unfold rfE at H0 H1 H2
  apply w_Model_lies_0
  rw [h.2.2.2.1]
  refine ⟨w.1, fun n0 => m_isShelf ⟨_, rfl, fun y => ⟨w.1, ?_⟩, fun y => ?_⟩, fun n0 => ?_⟩
  · have hs := i1 y
    rw [if_neg n0, if_pos ⟨hs.1, hs.2, trivial⟩] at H0 H1 H2
    refine m_wrongElement w hs (fun e => ⟨_, rfl, fun z => absurd (by decide) z, fun _ => ?_, fun z => absurd (Or.inl (by decide)) z⟩) (fun e => ⟨_, rfl, fun z => absurd (by decide) z, fun _ => ?_, fun z => absurd (Or.inl (by decide)) z⟩) (fun e0 e2 => ⟨_, rfl, ?_⟩)
    · rw [if_pos e] at H0
      exact H0 (by decide)
    · rw [if_neg (by omega), if_pos e] at H0
      exact H0 (by decide)
    · rw [if_neg e0, if_neg e2] at H1 H2
      obtain ⟨el, hu, hc⟩ := hE hs.1 hs.2 e0 e2 n0
      have hn : 2 ≤ n ∧ n ≤ 4 := by have := h.2.2.2.2.1; omega
      generalize hcc : zG S (D + 6) s = c at hc H2
      generalize huu : zG S (D + 5) s = u at hu H1 H2
      rw [w.x_under.1, w.x_under.2.1, w.x_under.2.2, w.x_places.1, w.x_places.2.1, w.x_places.2.2, huu, hcc]
      refine ⟨fun _ => ⟨w.1, rfl, by omega, by omega⟩, fun z => H1 rfl ?_, fun z => ⟨w.1, ⟨rfl, by omega, by omega⟩, w.1, ?_⟩⟩
      · rcases z with z | z
        · exact absurd rfl z
        · exact Decidable.not_not.mp z
      have u0 : u ≠ 0 := fun e => z (Or.inr (fun y => y e))
      refine m_opensM h n0 hc (fun S1 L fK dK o mc v r => ⟨rfl, ?_⟩)
      have HH := H2 rfl u0
      have L9 := r.2.2.2.1
      refine loopU (P := fun k S' => At (d + 5) 267 c267_52 [(0, (2, D)), (1, (0, s)), (3, (0, k))] [] S' Q) (I := fun k S' => 0 ≤ k ∧ Md (fun x => x = D + 34 ∨ x = D + 35) S1 S' ∧ ∀ k', 0 ≤ k' → k' < k → ¬ okE p n (dK k') (fK k') (sbP p n c u W)) (L + 1) ?_ ?_ 0 S1 (by have := r.2.2.1; omega) ⟨by omega, Md.refl _ _, fun k' a b => by omega⟩
      · rintro k S2 hk ⟨k0, m2, al⟩ hk1
        have w2 : DW S2 D := mc.1.md m2 (by omega)
        have o2 : ∀ i, zG S2 D i = zG S1 D i := fun i => m2.G (by omega) i
        have oS : opR D S S2 := o.tr ⟨m2.wide (fun x hx => by unfold opM; omega), fun i _ _ _ => o2 i⟩
        obtain ⟨k9, hr, -⟩ := RG.m mc n0 hc r ⟨k0, show k ≤ L by omega⟩
        have rb := r.b ⟨k0, show k ≤ L by omega⟩
        apply w_Model_lies_52
        rw [(o2 47).trans r.2.1]
        refine ⟨w2.1, fun z => by omega, fun _ => ⟨w2.1, ?_⟩⟩
        refine m_standsByPlace (W := W) (c := c) (u := u) h2 hn hc hu hs w2 ((o2 0).trans mc.2.1) ((o2 1).trans mc.2.2.2.1) ((oS.1.G (by unfold opM; omega) s).trans huu) ((oS.1.G (by unfold opM; omega) s).trans hcc) ⟨fun j i j0 j1 i0 i1 => (oS.1.G (by unfold opM; omega) _).trans (el.1 j i j0 j1 i0 i1), el.2⟩ (fun S3 m3 b3 => ⟨rfl, ?_⟩)
        have M3 : Md (fun x => x = D + 34 ∨ x = D + 35) S1 S3 := m2.tr (m3.wide (fun x hx => Or.inl hx))
        have w3 : DW S3 D := mc.1.md M3 (by omega)
        refine ⟨w3.1, m_isIn (Sp := sbP p n c u W) w3 ((M3.G (by omega) 0).trans mc.2.1) h2 ((M3.G (by omega) 1).trans mc.2.2.2.1) hn (by omega) (rb.1.keep M3 (by omega) (by omega)) hr b3 (fun i x i0 i1 hx => ?_) (fun hb S4 m4 => ⟨_, rfl, fun _ => ?_, fun z => absurd rfl z⟩) (fun hb S4 m4 c4 => ⟨_, rfl, fun z => by omega, fun _ => ?_⟩)⟩
        · unfold sbP
          rw [if_pos ⟨i0, i1⟩]
          exact bsH_z _ _ (by omega)
        · rintro _ rfl
          rw [w32_id (by omega) (by omega)]
          refine hk1 _ ⟨by omega, M3.tr m4, fun k' a b => ?_⟩
          by_cases q : k' = k
          · rw [q]
            exact hb
          · exact al k' a (by omega)
        · have M4 := M3.tr m4
          have o4 : ∀ i, zG S4 D i = zG S1 D i := fun i => M4.G (by omega) i
          exact HH S4 L fK dK (o.tr ⟨M4.wide (fun x hx => by unfold opM; omega), fun i _ _ _ => o4 i⟩) (mc.keep M4 (mc.1.md M4 (by omega)) (by omega) (by omega) (by omega) (fun i _ => o4 i)) (r.keep M4 (by omega) (by omega) (fun i _ => o4 i)) k (Or.inr ⟨k0, by omega, hb, al⟩)
      · rintro S2 ⟨-, m2, al⟩
        have o2 : ∀ i, zG S2 D i = zG S1 D i := fun i => m2.G (by omega) i
        apply w_Model_lies_52
        rw [(o2 47).trans r.2.1]
        refine ⟨by rw [m2.K]; exact mc.1.1, fun _ => ?_, fun z => absurd (show L < L + 1 by omega) z⟩
        exact HH S2 L fK dK (o.tr ⟨m2.wide (fun x hx => by unfold opM; omega), fun i _ _ _ => o2 i⟩) (mc.keep m2 (mc.1.md m2 (by omega)) (by omega) (by omega) (by omega) (fun i _ => o2 i)) (r.keep m2 (by omega) (by omega) (fun i _ => o2 i)) (-3) (Or.inl ⟨rfl, fun k a b => al k a (by omega)⟩)
  · rw [if_neg n0, if_neg (fun z => i2 y ⟨z.1, z.2.1⟩)] at H0
    exact H0 (by decide)
  · rw [if_pos (Decidable.not_not.mp n0)] at H0
    exact H0 (by decide)
