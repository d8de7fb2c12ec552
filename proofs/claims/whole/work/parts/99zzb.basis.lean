/-! The model: an element of a basis to a shelf. -/
theorem BR.put {S : Hp} {a w n p k i v : Int} {F : Int → Int → Int} (h : BR S a w n p F) (k0 : 0 ≤ k) (k1 : k < n) (i0 : 0 ≤ i) (i1 : i < w) (hv : 0 ≤ v ∧ v < p) : BR (zS S a (w * k + i) v) a w n p (fun b => if b = k then fun x => if x = i then v else F k x else F b) := by
  obtain ⟨h1, h2, h3, h4, h5⟩ := h
  refine ⟨h1, h2, fun b x b0 b1 x0 x1 => ?_, fun b x hx => ?_, fun b x => ?_⟩
  · rw [zG_zS]
    (try dsimp only)
    by_cases q : b = k
    · rw [if_pos q, q]
      (try dsimp only)
      by_cases q' : x = i
      · rw [if_pos ⟨rfl, by rw [q']⟩, if_pos q']
      · rw [if_neg (fun z => q' (by omega)), if_neg q']
        exact h3 k x k0 k1 x0 x1
    · have : ¬ w * b + x = w * k + i := fun z => by
        have e : (w * b + x) / w = (w * k + i) / w := by rw [z]
        rw [Int.mul_add_ediv_left _ _ (by omega), Int.mul_add_ediv_left _ _ (by omega), Int.ediv_eq_zero_of_lt x0 x1, Int.ediv_eq_zero_of_lt i0 i1] at e
        omega
      rw [if_neg (fun z => this z.2), if_neg q]
      exact h3 b x b0 b1 x0 x1
  · (try dsimp only)
    by_cases q : b = k
    · rw [if_pos q]
      (try dsimp only)
      rw [if_neg (by omega)]
      exact h4 k x hx
    · rw [if_neg q]
      exact h4 b x hx
  · (try dsimp only)
    by_cases q : b = k
    · rw [if_pos q]
      (try dsimp only)
      by_cases q' : x = i
      · rw [if_pos q']
        exact hv
      · rw [if_neg q']
        exact h5 k x
    · rw [if_neg q]
      exact h5 b x
/-- the deepest number of one element -/
def djN (f : Int → Int → Int) : Nat → Int
  | 0 => 0
  | e + 1 => if f ((e : Int) / 21) ((e : Int) % 21) = 0 ∨ (e : Int) % 21 ≤ djN f e then djN f e else (e : Int) % 21
theorem djN_bd {f : Int → Int → Int} : ∀ (e : Nat), 0 ≤ djN f e ∧ djN f e ≤ 20
  | 0 => ⟨Int.le_refl 0, by show (0 : Int) ≤ 20; decide⟩
  | e + 1 => by
    have := djN_bd (f := f) e
    show 0 ≤ (if f ((e : Int) / 21) ((e : Int) % 21) = 0 ∨ (e : Int) % 21 ≤ djN f e then djN f e else (e : Int) % 21) ∧ (if f ((e : Int) / 21) ((e : Int) % 21) = 0 ∨ (e : Int) % 21 ≤ djN f e then djN f e else (e : Int) % 21) ≤ 20
    split <;> omega
/-- a line of numbers f 0, f 1, .. read by powers of x - c -/
def bsH (p c : Int) (f : Int → Int) : Nat → Int → Int
  | 0 => fun _ => 0
  | k + 1 => fun x => if x = 0 then ((bsH p c f k (x - 1) + (p - c) * bsH p c f k x) % p + f k) % p else (bsH p c f k (x - 1) + (p - c) * bsH p c f k x) % p
theorem bsH_bd {p c : Int} {f : Int → Int} (hp : 2 ≤ p) : ∀ (k : Nat) (x : Int), 0 ≤ bsH p c f k x ∧ bsH p c f k x < p
  | 0, x => ⟨Int.le_refl 0, by show (0 : Int) < p; omega⟩
  | k + 1, x => by
    show 0 ≤ (if x = 0 then ((bsH p c f k (x - 1) + (p - c) * bsH p c f k x) % p + f k) % p else (bsH p c f k (x - 1) + (p - c) * bsH p c f k x) % p) ∧ (if x = 0 then ((bsH p c f k (x - 1) + (p - c) * bsH p c f k x) % p + f k) % p else (bsH p c f k (x - 1) + (p - c) * bsH p c f k x) % p) < p
    split
    · exact ⟨em_ge (by omega), em_lt (by omega)⟩
    · exact ⟨em_ge (by omega), em_lt (by omega)⟩
theorem bsH_z {p c : Int} {f : Int → Int} : ∀ (k : Nat) (x : Int), (x < 0 ∨ (k : Int) ≤ x) → bsH p c f k x = 0
  | 0, _, _ => rfl
  | k + 1, x, hx => by
    show (if x = 0 then ((bsH p c f k (x - 1) + (p - c) * bsH p c f k x) % p + f k) % p else (bsH p c f k (x - 1) + (p - c) * bsH p c f k x) % p) = 0
    rw [if_neg (by omega), bsH_z k (x - 1) (by omega), bsH_z k x (by omega), Int.mul_zero]
    exact Int.zero_emod p
def bsW (p c n : Int) (f : Int → Int → Int) (k : Nat) : Int → Int → Int := fun i x => if 0 ≤ i ∧ i < n then bsH p c (f i) k x else 0
theorem m_basis {d : Nat} {D p n s c k j : Int} {S : Hp} {F : Int → Int} {Q : Vl → Hp → Prop} (h : MC S D p n F) (H0 : n = 0 → Q (0, -2) S) (H1 : n ≠ 0 → ¬ ((0 ≤ s ∧ s < 6) ∧ 0 ≤ c ∧ c < p) → Q (0, -1) S) (H2 : n ≠ 0 → 0 ≤ s ∧ s < 6 → 0 ≤ c ∧ c < p → ∀ S' L fK dK, opR D S S' → MC S' D p n F → RG S' D c p n (cfF (mvC p c F) n) L fK dK → (¬ ((0 ≤ k ∧ k ≤ L) ∧ 0 ≤ j ∧ j < n) → Q (0, -1) S') ∧ (0 ≤ k ∧ k ≤ L → 0 ≤ j ∧ j < n → stP D p s (djN (fK k j) (21 * n).toNat) c (bsW p c n (fK k j) (djN (fK k j) (21 * n).toNat + 1).toNat) S' Q)) : Ev (d + 5) 253 [(2, D), (0, s), (0, c), (0, k), (0, j)] S Q := by
  have h2 := isPr_b h.2.2.1
  apply w_Model_basis_0
  rw [h.2.2.2.1]
  refine ⟨h.1.1, fun n0 => m_isShelf ⟨_, rfl, fun y => H1 n0 (fun z => i0 y z.1), fun y => ⟨h.1.1, m_isNumber h.1.1 h.2.1 h2 ⟨_, rfl, fun y2 => ⟨h.1.1, ?_⟩, fun y2 => H1 n0 (fun z => i2 y2 z.2)⟩⟩⟩, fun n0 => H0 (by omega)⟩
  have hs := i1 y
  have hc := i1 y2
  have hn : 2 ≤ n ∧ n ≤ 4 := by have := h.2.2.2.2.1; omega
  refine m_opensM h n0 hc (fun S1 L fK dK o mc v r => ⟨rfl, mc.1.1, ?_⟩)
  have HH := H2 n0 hs hc S1 L fK dK o mc r
  rw [r.2.1]
  refine m_in ⟨_, rfl, fun y => HH.1 (fun z => i0 y z.1), fun y => ⟨mc.1.1, ?_⟩⟩
  rw [mc.2.2.2.1, w32_id (x := n - 1) (by omega) (by omega)]
  refine m_in ⟨_, rfl, fun y' => ⟨mc.1.1, mc.1.1, ?_⟩, fun y' => HH.1 (fun z => i2 y' (by omega))⟩
  have hk := i1 y
  have hj : 0 ≤ j ∧ j < n := by have := i1 y'; omega
  have HH := HH.2 hk hj
  have rb := r.b hk
  have L9 := r.2.2.2.1
  have w1 := mc.1
  rw [w1.x_work.1]
  refine m_zeroB (w := 100) (n := 7) (p := p) w1.x_work.2.1 (w1.x_work.2.2.trans (by decide)) (by omega) (by omega) (by omega) (by omega) (fun S2 m2 b2 => ⟨rfl, by rw [m2.K]; exact w1.1, ?_⟩)
  rintro _ rfl
  have fd : ∀ i m, 0 ≤ i → i < n → 0 ≤ m → m < 21 → zG S1 (D + 32) (84 * (4 * k + j) + 21 * i + m) = fK k j i m ∧ 0 ≤ fK k j i m ∧ fK k j i m < p := fun i m i0 i1 m0 m1 => rb.1.1 j i m hj.1 hj.2 i0 (by omega) m0 m1
  generalize fK k j = f at HH fd
  have w2 : DW S2 D := w1.md m2 (by omega)
  -- the state while depths are sought
  have base : nfR D S1 (zS S2 D 58 0) := ⟨(m2.wide (fun x hx => Or.inr hx)).tr ((Md.zS _ _ _ _).wide (fun x hx => Or.inl hx)), w2.sc (by decide), fun i i1 _ => by rw [zG_zS_ne _ (Or.inr i1)]; exact m2.G (by omega) i⟩
  have bb : BR (zS S2 D 58 0) (D + 41) 100 7 p (fun _ _ => 0) := b2.keep (Md.zS _ _ _ _) (by omega)
  have dg : ∀ {S' : Hp}, nfR D S1 S' → ∀ i m, 0 ≤ i → i < n → 0 ≤ m → m < 21 → zG S' (D + 32) (84 * (4 * k + j) + 21 * i + m) = f i m := fun nf i m i0 i1 m0 m1 => (nf.1.G (by omega) _).trans (fd i m i0 i1 m0 m1).1
  refine loopU (P := fun i S' => At (d + 5) 253 c253_77 [(0, (2, D)), (1, (0, s)), (2, (0, c)), (3, (0, k)), (4, (0, j)), (5, (0, i))] [] S' Q) (I := fun i S' => 0 ≤ i ∧ nfR D S1 S' ∧ BR S' (D + 41) 100 7 p (fun _ _ => 0) ∧ zG S' D 58 = djN f (21 * i).toNat) n ?_ ?_ 0 (zS S2 D 58 0) (by omega) ⟨by omega, base, bb, zG_zS_at _ _ _ _⟩
  · rintro i S3 hi ⟨i0, nf3, b3, e3⟩ hk1
    apply w_Model_basis_77
    rw [(nf3.2.2 1 (by omega) (by omega)).trans mc.2.2.2.1]
    refine ⟨nf3.2.1.1, fun z => by omega, fun _ => ?_⟩
    refine loopU (P := fun m S' => At (d + 5) 253 c253_89 [(0, (2, D)), (1, (0, s)), (2, (0, c)), (3, (0, k)), (4, (0, j)), (5, (0, i)), (6, (0, m))] [] S' Q) (I := fun m S' => 0 ≤ m ∧ nfR D S1 S' ∧ BR S' (D + 41) 100 7 p (fun _ _ => 0) ∧ zG S' D 58 = djN f (21 * i + m).toNat) 21 ?_ ?_ 0 S3 (by omega) ⟨by omega, nf3, b3, by rw [Int.add_zero]; exact e3⟩
    · rintro m S4 hm ⟨m0, nf4, b4, e4⟩ hk2
      have db := djN_bd (f := f) (21 * i + m).toNat
      apply w_Model_basis_89
      refine ⟨fun z => by omega, fun _ => ⟨nf4.2.1.1, nf4.2.1.1, m_digitAt (by omega) (by omega) (by omega) (by omega) ⟨_, rfl, ?_⟩⟩⟩
      rw [nf4.2.1.x_digits.1, nf4.2.1.x_digits.2.1, nf4.2.1.x_digits.2.2, dg nf4 i m i0 hi m0 hm, e4]
      refine ⟨⟨rfl, by omega, by omega⟩, fun _ => nf4.2.1.1, fun _ => nf4.2.1.1, ?_⟩
      rintro _ rfl
      refine ⟨nf4.2.1.1, ?_⟩
      rintro _ rfl _ rfl
      rw [w32_id (by omega) (by omega)]
      refine hk2 _ ⟨by omega, nf4.tr ⟨(Md.zS _ _ _ _).wide (fun x hx => Or.inl hx), nf4.2.1.sc (by decide), fun i i1 _ => zG_zS_ne _ (Or.inr i1)⟩, b4.keep (Md.zS _ _ _ _) (by omega), ?_⟩
      rw [zG_zS_at, show (21 * i + (m + 1)).toNat = (21 * i + m).toNat + 1 by omega]
      show _ = if f (((21 * i + m).toNat : Int) / 21) (((21 * i + m).toNat : Int) % 21) = 0 ∨ ((21 * i + m).toNat : Int) % 21 ≤ djN f (21 * i + m).toNat then djN f (21 * i + m).toNat else ((21 * i + m).toNat : Int) % 21
      rw [show (((21 * i + m).toNat : Nat) : Int) / 21 = i by omega, show (((21 * i + m).toNat : Nat) : Int) % 21 = m by omega]
    · rintro S4 ⟨-, nf4, b4, e4⟩
      apply w_Model_basis_89
      refine ⟨fun _ => ?_, fun z => absurd (Int.le_refl 21) z⟩
      rintro _ rfl
      rw [w32_id (by omega) (by omega)]
      refine hk1 _ ⟨by omega, nf4, b4, ?_⟩
      rw [e4, show 21 * (i + 1) = 21 * i + 21 by omega]
  · rintro S3 ⟨-, nf3, b3, e3⟩
    apply w_Model_basis_77
    rw [(nf3.2.2 1 (by omega) (by omega)).trans mc.2.2.2.1]
    refine ⟨nf3.2.1.1, fun _ => ?_, fun z => absurd (Int.le_refl n) z⟩
    have Mb := djN_bd (f := f) (21 * n).toNat
    generalize djN f (21 * n).toNat = M at HH e3 Mb
    have pick : ∀ i x, bsW p c 0 f (M + 1).toNat i x = 0 := fun i x => if_neg (by omega)
    refine loopU (P := fun i S' => At (d + 5) 253 c253_152 [(0, (2, D)), (1, (0, s)), (2, (0, c)), (3, (0, k)), (4, (0, j)), (5, (0, i))] [] S' Q) (I := fun i S' => 0 ≤ i ∧ nfR D S1 S' ∧ BR S' (D + 41) 100 7 p (bsW p c i f (M + 1).toNat) ∧ zG S' D 58 = M) n ?_ ?_ 0 S3 (by omega) ⟨by omega, nf3, b3.congr (fun b x => (pick b x).symm), e3⟩
    · rintro i S4 hi ⟨i0, nf4, b4, e4⟩ hk1
      apply w_Model_basis_152
      rw [(nf4.2.2 1 (by omega) (by omega)).trans mc.2.2.2.1]
      refine ⟨nf4.2.1.1, fun z => by omega, fun _ => ?_⟩
      refine loopU (P := fun m S' => At (d + 5) 253 c253_164 [(0, (2, D)), (1, (0, s)), (2, (0, c)), (3, (0, k)), (4, (0, j)), (5, (0, i)), (6, (0, m))] [] S' Q) (I := fun m S' => 0 ≤ m ∧ nfR D S1 S' ∧ BR S' (D + 41) 100 7 p (fun b => if b = i then bsH p c (f i) m.toNat else bsW p c i f (M + 1).toNat b) ∧ zG S' D 58 = M) (M + 1) ?_ ?_ 0 S4 (by omega) ⟨by omega, nf4, b4.congr (fun b x => ?_), e4⟩
      · rintro m S5 hm ⟨m0, nf5, b5, e5⟩ hk2
        have fdm := fd i m i0 hi m0 (by omega)
        have p5 : zG S5 D 0 = p := (nf5.2.2 0 (by omega) (by omega)).trans mc.2.1
        apply w_Model_basis_164
        rw [e5, w32_id (x := 100 * i) (by omega) (by omega), w32_id (x := m + 1) (by omega) (by omega)]
        refine ⟨nf5.2.1.1, fun z => by omega, fun _ => ⟨nf5.2.1.1, ?_⟩⟩
        refine m_timesLine (k := i) nf5.2.1 p5 h2 hc b5 i0 (by omega) rfl (by rw [if_pos rfl]; exact bsH_z _ _ (by omega)) (fun S6 m6 b6 => ⟨rfl, ?_⟩)
        have nf6 : nfR D S1 S6 := nf5.tr ⟨m6.wide (fun x hx => Or.inr hx), nf5.2.1.md m6 (by omega), fun i _ _ => m6.G (by omega) i⟩
        have w6 := nf6.2.1
        have p6 : zG S6 D 0 = p := (nf6.2.2 0 (by omega) (by omega)).trans mc.2.1
        have q6 := b6.2.2.1 i 0 i0 (by omega) (by omega) (by omega)
        (try dsimp only at q6)
        rw [if_pos rfl, if_pos rfl, show 100 * i + 0 = 100 * i by omega] at q6
        rw [w6.x_work.1, w6.x_work.2.1, w6.x_work.2.2]
        refine ⟨w6.1, w6.1, ⟨rfl, by omega, by omega⟩, w6.1, w6.1, m_digitAt (by omega) (by omega) (by omega) (by omega) ⟨_, rfl, ?_⟩⟩
        have vb : 0 ≤ (bsH p c (f i) m.toNat (0 - 1) + (p - c) * bsH p c (f i) m.toNat 0) % p ∧ (bsH p c (f i) m.toNat (0 - 1) + (p - c) * bsH p c (f i) m.toNat 0) % p < p := ⟨em_ge (by omega), em_lt (by omega)⟩
        rw [w6.x_digits.1, w6.x_digits.2.1, w6.x_digits.2.2, dg nf6 i m i0 hi m0 (by omega), p6, q6, w32_id (x := (bsH p c (f i) m.toNat (0 - 1) + (p - c) * bsH p c (f i) m.toNat 0) % p + f i m) (by omega) (by omega), tm_nn (by omega), w6.x_work.2.1, w6.x_work.2.2]
        refine ⟨⟨rfl, by omega, by omega⟩, w6.1, by omega, ⟨rfl, by omega, by omega⟩, ?_⟩
        rintro _ rfl _ rfl
        have b7 := b6.put (k := i) (i := 0) (v := ((bsH p c (f i) m.toNat (0 - 1) + (p - c) * bsH p c (f i) m.toNat 0) % p + f i m) % p) i0 (by omega) (by omega) (by omega) ⟨em_ge (by omega), em_lt (by omega)⟩
        rw [show 100 * i + 0 = 100 * i by omega] at b7
        refine hk2 _ ⟨by omega, nf6.tr ⟨(Md.zS _ _ _ _).wide (fun x hx => Or.inr hx), w6.zSr (by omega), fun i _ _ => zG_zS_ne _ (Or.inl (by omega))⟩, b7.congr (fun b x => ?_), ?_⟩
        · (try dsimp only)
          by_cases q : b = i
          · rw [if_pos q, if_pos q]
            (try dsimp only)
            rw [if_pos rfl, show (m + 1).toNat = m.toNat + 1 by omega]
            show _ = if x = 0 then ((bsH p c (f i) m.toNat (x - 1) + (p - c) * bsH p c (f i) m.toNat x) % p + f i (m.toNat : Int)) % p else (bsH p c (f i) m.toNat (x - 1) + (p - c) * bsH p c (f i) m.toNat x) % p
            rw [show ((m.toNat : Nat) : Int) = m by omega]
            by_cases q' : x = 0
            · rw [if_pos q', if_pos q', q']
            · rw [if_neg q', if_neg q']
              (try dsimp only)
              rw [if_pos rfl]
          · rw [if_neg q, if_neg q, if_neg q]
            (try dsimp only)
            rw [if_neg q]
        · rw [zG_zS_ne _ (Or.inl (by omega)), m6.G (by omega)]
          exact e5
      · rintro S5 ⟨-, nf5, b5, e5⟩
        apply w_Model_basis_164
        rw [e5]
        refine ⟨nf5.2.1.1, fun _ => ?_, fun z => absurd (show M < M + 1 by omega) z⟩
        rintro _ rfl
        rw [w32_id (by omega) (by omega)]
        refine hk1 _ ⟨by omega, nf5, b5.congr (fun b x => ?_), e5⟩
        (try dsimp only)
        unfold bsW
        by_cases q : b = i
        · rw [if_pos q, if_pos (by omega), q]
        · rw [if_neg q]
          by_cases q' : 0 ≤ b ∧ b < i
          · rw [if_pos q', if_pos (by omega)]
          · rw [if_neg q', if_neg (by omega)]
      · (try dsimp only)
        by_cases q : b = i
        · rw [if_pos q]
          exact if_neg (by omega)
        · rw [if_neg q]
    · rintro S4 ⟨-, nf4, b4, e4⟩
      apply w_Model_basis_152
      rw [(nf4.2.2 1 (by omega) (by omega)).trans mc.2.2.2.1]
      refine ⟨nf4.2.1.1, fun _ => ⟨nf4.2.1.1, ?_⟩, fun z => absurd (Int.le_refl n) z⟩
      rintro _ rfl
      have nf5 : nfR D S1 (zS S4 D 59 c) := nf4.tr ⟨(Md.zS _ _ _ _).wide (fun x hx => Or.inl hx), nf4.2.1.sc (by decide), fun i _ i1 => zG_zS_ne _ (Or.inr i1)⟩
      refine ⟨nf5.2.1.1, m_settlesF (W := bsW p c n f (M + 1).toNat) h2 hn hc hs (by omega) nf5.2.1 ((nf5.2.2 0 (by omega) (by omega)).trans mc.2.1) ((nf5.2.2 1 (by omega) (by omega)).trans mc.2.2.2.1) ((zG_zS_ne _ (Or.inr (by omega))).trans e4) (zG_zS_at _ _ _ _) (b4.keep (Md.zS _ _ _ _) (by omega)) (fun b x hb => if_neg (by omega)) nf5 ?_⟩
      exact ⟨fun ft S' sh => ⟨_, rfl, HH.1 ft S' sh⟩, fun ft S' nf => ⟨_, rfl, HH.2 ft S' nf⟩⟩
