/-! Minors: the determinant of T times 1 less a table. -/
def pcS (s : Int) : Int := s % 2 + s / 2 % 2 + s / 4 % 2 + s / 8 % 2
def p2 (j : Int) : Int := if j = 0 then 1 else if j = 1 then 2 else if j = 2 then 4 else if j = 3 then 8 else 16
def bitS (s j : Int) : Int := s / p2 j % 2
def sgS (s j : Int) : Int := if pcS (s / p2 (j + 1)) % 2 = 0 then 1 else -1
def bcI (x : Int) : Int :=
  let x1 := w32 (x - (bAnd (bUsh x 1) 1431655765))
  let x2 := w32 ((bAnd x1 858993459) + (bAnd (bUsh x1 2) 858993459))
  let x3 := bAnd (w32 (x2 + (bUsh x2 4))) 252645135
  let x4 := w32 (x3 + (bUsh x3 8))
  let x5 := w32 (x4 + (bUsh x4 16))
  bAnd x5 63
theorem bcI_all : ∀ s : Fin 16, bcI (s.val : Int) = pcS (s.val : Int) := by decide +kernel
theorem bcI_ok {s : Int} (h0 : 0 ≤ s) (h1 : s < 16) : bcI s = pcS s := by
  have := bcI_all ⟨s.toNat, by omega⟩
  simpa [show ((s.toNat : Nat) : Int) = s by omega] using this
theorem s_bitCount {d : Nat} {s : Int} {S : Hp} {Q : Vl → Hp → Prop} (h0 : 0 ≤ s) (h1 : s < 16) (H : Q (0, pcS s) S) : Ev d 286 [(0, s)] S Q := by
  apply w_Integer_bitCount_0
  rintro _ rfl _ rfl _ rfl _ rfl _ rfl
  show Q (0, bcI s) S
  rw [bcI_ok h0 h1]
  exact H
theorem bsl_all : ∀ n : Fin 5, bShl 1 (n.val : Int) = p2 (n.val : Int) := by decide +kernel
theorem bsl_ok {n : Int} (h0 : 0 ≤ n) (h1 : n < 5) : bShl 1 n = p2 n := by
  have := bsl_all ⟨n.toNat, by omega⟩
  simpa [show ((n.toNat : Nat) : Int) = n by omega] using this
theorem bsr_all : ∀ s : Fin 16, ∀ j : Fin 5, bShr (s.val : Int) (j.val : Int) = (s.val : Int) / p2 (j.val : Int) := by decide +kernel
theorem bsr_ok {s j : Int} (h0 : 0 ≤ s) (h1 : s < 16) (j0 : 0 ≤ j) (j1 : j < 5) : bShr s j = s / p2 j := by
  have := bsr_all ⟨s.toNat, by omega⟩ ⟨j.toNat, by omega⟩
  simpa [show ((s.toNat : Nat) : Int) = s by omega, show ((j.toNat : Nat) : Int) = j by omega] using this
theorem ba1_all : ∀ s : Fin 16, bAnd (s.val : Int) 1 = (s.val : Int) % 2 := by decide +kernel
theorem ba1_ok {s : Int} (h0 : 0 ≤ s) (h1 : s < 16) : bAnd s 1 = s % 2 := by
  have := ba1_all ⟨s.toNat, by omega⟩
  simpa [show ((s.toNat : Nat) : Int) = s by omega] using this
theorem bxr_all : ∀ s : Fin 16, ∀ j : Fin 4, bitS (s.val : Int) (j.val : Int) = 1 → bXor (s.val : Int) (p2 (j.val : Int)) = (s.val : Int) - p2 (j.val : Int) := by decide +kernel
theorem bxr_ok {s j : Int} (h0 : 0 ≤ s) (h1 : s < 16) (j0 : 0 ≤ j) (j1 : j < 4) (hb : bitS s j = 1) : bXor s (p2 j) = s - p2 j := by
  have := bxr_all ⟨s.toNat, by omega⟩ ⟨j.toNat, by omega⟩
  simp only [show ((s.toNat : Nat) : Int) = s by omega, show ((j.toNat : Nat) : Int) = j by omega] at this
  exact this hb
/-- what is so of every set: its size, what is left without a place, where its minors lie -/
theorem set_all : ∀ s : Fin 16, ∀ j : Fin 4, bitS (s.val : Int) (j.val : Int) = 1 → (pcS ((s.val : Int) - p2 (j.val : Int)) = pcS (s.val : Int) - 1 ∧ 0 ≤ (s.val : Int) - p2 (j.val : Int) ∧ zSt ((s.val : Int) - p2 (j.val : Int)) + pcS (s.val : Int) ≤ zSt (s.val : Int) ∧ 0 < p2 (j.val : Int)) := by decide +kernel
theorem st_all : ∀ s : Fin 16, 0 ≤ zSt (s.val : Int) ∧ zSt (s.val : Int) + pcS (s.val : Int) < 48 ∧ 0 ≤ pcS (s.val : Int) ∧ pcS (s.val : Int) ≤ 4 ∧ (1 ≤ s.val → 1 ≤ pcS (s.val : Int)) := by decide +kernel
theorem st_mono : ∀ s : Fin 16, ∀ u : Fin 16, s.val < u.val → zSt (s.val : Int) + pcS (s.val : Int) < zSt (u.val : Int) := by decide +kernel
theorem bit_lt_all : ∀ s : Fin 16, ∀ n : Fin 5, (s.val : Int) < p2 (n.val : Int) → pcS (s.val : Int) ≤ (n.val : Int) := by decide +kernel
theorem sz_st {s : Int} (h0 : 0 ≤ s) (h1 : s < 16) : 0 ≤ zSt s ∧ zSt s + pcS s < 48 ∧ 0 ≤ pcS s ∧ pcS s ≤ 4 ∧ (1 ≤ s → 1 ≤ pcS s) := by
  have := st_all ⟨s.toNat, by omega⟩
  simp only [show ((s.toNat : Nat) : Int) = s by omega] at this
  refine ⟨this.1, this.2.1, this.2.2.1, this.2.2.2.1, fun h => this.2.2.2.2 (by omega)⟩
theorem sz_mono {s u : Int} (h0 : 0 ≤ s) (h1 : s < u) (h2 : u < 16) : zSt s + pcS s < zSt u := by
  have := st_mono ⟨s.toNat, by omega⟩ ⟨u.toNat, by omega⟩ (by show s.toNat < u.toNat; omega)
  simpa only [show ((s.toNat : Nat) : Int) = s by omega, show ((u.toNat : Nat) : Int) = u by omega] using this
theorem sz_rest {s j : Int} (h0 : 0 ≤ s) (h1 : s < 16) (j0 : 0 ≤ j) (j1 : j < 4) (hb : bitS s j = 1) : pcS (s - p2 j) = pcS s - 1 ∧ 0 ≤ s - p2 j ∧ zSt (s - p2 j) + pcS s ≤ zSt s ∧ 0 < p2 j := by
  have := set_all ⟨s.toNat, by omega⟩ ⟨j.toNat, by omega⟩
  simp only [show ((s.toNat : Nat) : Int) = s by omega, show ((j.toNat : Nat) : Int) = j by omega] at this
  exact this hb
theorem sz_pc {s n : Int} (h0 : 0 ≤ s) (h1 : s < 16) (n0 : 0 ≤ n) (n1 : n < 5) (h : s < p2 n) : pcS s ≤ n := by
  have := bit_lt_all ⟨s.toNat, by omega⟩ ⟨n.toNat, by omega⟩
  simp only [show ((s.toNat : Nat) : Int) = s by omega, show ((n.toNat : Nat) : Int) = n by omega] at this
  exact this h
/-- the rooms of the minors' lines -/
def rmM (k : Int) : Int := if k < 1 then 1 else if k < 5 then 44 else if k < 8 then 87 else if k < 10 then 44 else if k < 16 then 87 else if k < 20 then 130 else if k < 22 then 44 else if k < 28 then 87 else if k < 32 then 130 else if k < 35 then 87 else if k < 43 then 130 else 173
theorem rm_all : ∀ s : Fin 16, ∀ d : Fin 5, (d.val : Int) ≤ pcS (s.val : Int) → rmM (zSt (s.val : Int) + (d.val : Int)) = 43 * pcS (s.val : Int) + 1 := by decide +kernel
theorem rm_ok {s d : Int} (h0 : 0 ≤ s) (h1 : s < 16) (d0 : 0 ≤ d) (d1 : d ≤ pcS s) : rmM (zSt s + d) = 43 * pcS s + 1 := by
  have h9 := sz_st h0 h1
  have := rm_all ⟨s.toNat, by omega⟩ ⟨d.toNat, by omega⟩
  simp only [show ((s.toNat : Nat) : Int) = s by omega, show ((d.toNat : Nat) : Int) = d by omega] at this
  exact this d1
/-- how high the minors of k rows may go -/
def hiM (k : Int) : Int := 30 * k + 3 * k * (k - 1)
theorem hi_all : ∀ k : Fin 5, hiM (k.val : Int) < 43 * (k.val : Int) + 1 ∧ (1 ≤ k.val → hiM ((k.val : Int) - 1) + (30 + 6 * ((k.val : Int) - 1)) = hiM (k.val : Int)) ∧ 0 ≤ hiM (k.val : Int) ∧ (1 ≤ k.val → hiM ((k.val : Int) - 1) < hiM (k.val : Int)) := by decide +kernel
theorem hi_ok {k : Int} (h0 : 0 ≤ k) (h1 : k < 5) : hiM k < 43 * k + 1 ∧ (1 ≤ k → hiM (k - 1) + (30 + 6 * (k - 1)) = hiM k) ∧ 0 ≤ hiM k ∧ (1 ≤ k → hiM (k - 1) < hiM k) := by
  have := hi_all ⟨k.toNat, by omega⟩
  simp only [show ((k.toNat : Nat) : Int) = k by omega] at this
  exact ⟨this.1, fun h => this.2.1 (by omega), this.2.2.1, fun h => this.2.2.2 (by omega)⟩
/-- what one place brings to the minor of a set, in front of T^d -/
def mnT (E G : Int → Int → Int) (s d x j : Int) : Int := if bitS s j = 1 then (if d < pcS s then (-sgS s j) * cnv (E (4 * (pcS s - 1) + j)) (G (zSt (s - p2 j) + d)) x else 0) + (if j = pcS s - 1 ∧ 1 ≤ d then sgS s j * G (zSt (s - p2 j) + (d - 1)) x else 0) else 0
def MN (p n : Int) (E G : Int → Int → Int) : Prop := (∀ x, G 0 x = if x = 0 then 1 else 0) ∧ ∀ s, 1 ≤ s → s < p2 n → ∀ d, 0 ≤ d → d ≤ pcS s → ∀ x, G (zSt s + d) x = sm n.toNat (mnT E G s d x) % p
def XW (S : Hp) (X : Int) : Prop := zK S X = 6 ∧ zG S X 0 = X + 1 ∧ LAW S (X + 1) 48 rmM ∧ LN S (X + 1 + 1 + 2 * 0) (rmM 0) 2 (fun x => if x = 0 then 1 else 0)
/-- a minors' lines but the first -/
def MX (X : Int) : Int → Prop := fun x => X + 3 < x ∧ x ≤ X + 97
theorem XW.keep {M : Int → Prop} {S S' : Hp} {X : Int} (h : XW S X) (hm : Md M S S') (hM : ∀ x, X ≤ x → x ≤ X + 97 → ¬ M x) : XW S' X := ⟨by rw [hm.K]; exact h.1, by rw [hm.G (hM X (by omega) (by omega))]; exact h.2.1, h.2.2.1.keep hm (fun x h1 h2 => hM x (by omega) (by omega)) (by omega), h.2.2.2.keep hm (hM _ (by omega) (by omega)) (hM _ (by omega) (by omega))⟩
theorem XW.set {S S' : Hp} {X k : Int} (h : XW S X) (hm : Md (ML (X + 1 + 1 + 2 * k)) S S') (h0 : 1 ≤ k) (h1 : k < 48) (hl : LW S' (X + 1 + 1 + 2 * k) (rmM k)) : XW S' X := ⟨by rw [hm.K]; exact h.1, by rw [hm.G (by unfold ML; omega)]; exact h.2.1, h.2.2.1.set hm (by omega) h1 hl, h.2.2.2.keep hm (by unfold ML; omega) (by unfold ML; omega)⟩
/-- minors under work: lines st .. st + cnt - 1 -/
def RLn (S : Hp) (X st cnt : Int) (V : Int → Int → Int) : Prop := ∀ q, 0 ≤ q → q < cnt → ∃ t, LI S (X + 1 + 1 + 2 * (st + q)) (rmM (st + q)) t (V q)
def MR (X st cnt : Int) : Int → Prop := fun x => X + 1 + 1 + 2 * st ≤ x ∧ x < X + 1 + 1 + 2 * (st + cnt)
theorem sg_or (s j : Int) : sgS s j = 1 ∨ sgS s j = -1 := by
  unfold sgS
  split
  · exact Or.inl rfl
  · exact Or.inr rfl
set_option maxHeartbeats 2000000 in
theorem s_addPlace {d : Nat} {X en s j p rn B : Int} {S : Hp} {V G : Int → Int → Int} {E : Int → Int} {Q : Vl → Hp → Prop} (hx : XW S X) (h0 : 1 ≤ s) (h1 : s < 16) (j0 : 0 ≤ j) (j1 : j < 4) (hb : bitS s j = 1) (hp : 2 ≤ p ∧ p ≤ 7) (hE : LN S en rn p E) (hEt : ∀ x, 30 + 6 * (pcS s - 1) < x → E x = 0) (den : en + 1 < X ∨ X + 97 < en)
    (hG : ∀ q, 0 ≤ q → q < pcS s → LN S (X + 1 + 1 + 2 * (zSt (s - p2 j) + q)) (rmM (zSt (s - p2 j) + q)) p (G (zSt (s - p2 j) + q))) (hGt : ∀ q x, 0 ≤ q → q < pcS s → hiM (pcS s - 1) < x → G (zSt (s - p2 j) + q) x = 0) (hV : RLn S X (zSt s) (pcS s + 1) V) (hB : ∀ q x, 0 ≤ q → q ≤ pcS s → -B ≤ V q x ∧ V q x ≤ B) (hB9 : 0 ≤ B ∧ B ≤ 500000000)
    (H : ∀ S', Md (MR X (zSt s) (pcS s + 1)) S S' → RLn S' X (zSt s) (pcS s + 1) (fun q x => V q x + ((if q < pcS s then (-sgS s j) * cnv E (G (zSt (s - p2 j) + q)) x else 0) + (if j = pcS s - 1 ∧ 1 ≤ q then sgS s j * G (zSt (s - p2 j) + (q - 1)) x else 0))) → Q (3, 0) S') : Ev (d + 1) 59 [(2, X), (0, s), (0, pcS s - 1), (0, j), (2, en)] S Q := by
  obtain ⟨r1, r2, r3, r4⟩ := sz_rest (by omega) h1 j0 j1 hb
  obtain ⟨z1, z2, z3, z4, z5⟩ := sz_st (by omega) h1
  have z6 := z5 h0
  obtain ⟨y1, y2, y3, y4, -⟩ := sz_st (s := s - p2 j) r2 (by omega)
  have hsg := sg_or s j
  have hsx : ∀ x : Int, sgS s j * x = x ∨ sgS s j * x = -x := fun x => by
    rcases hsg with e | e
    · rw [e]
      exact Or.inl (Int.one_mul x)
    · rw [e]
      exact Or.inr (by omega)
  have hEb := hE.bd
  obtain ⟨u, u1, u2, u3⟩ := hE.deg hEt (by omega)
  have hhi := hi_ok (k := pcS s) (by omega) (by omega)
  apply w_Minors_addPlace_0
  rw [w32_id (x := j + 1) (by omega) (by omega), bsl_ok j0 (by omega), bsr_ok (by omega) h1 (by omega) (by omega), bxr_ok (by omega) h1 j0 j1 hb]
  rintro _ rfl
  have hq9 : 0 ≤ s / p2 (j + 1) ∧ s / p2 (j + 1) < 16 := by
    rcases (show j = 0 ∨ j = 1 ∨ j = 2 ∨ j = 3 by omega) with rfl | rfl | rfl | rfl
    · show 0 ≤ s / 2 ∧ s / 2 < 16
      omega
    · show 0 ≤ s / 4 ∧ s / 4 < 16
      omega
    · show 0 ≤ s / 8 ∧ s / 8 < 16
      omega
    · show 0 ≤ s / 16 ∧ s / 16 < 16
      omega
  refine s_bitCount hq9.1 hq9.2 ⟨_, rfl, by omega, ?_⟩
  have hpc9 := (sz_st hq9.1 hq9.2).2.2.1
  rw [tm_nn hpc9]
  have hsgx : (if ¬ pcS (s / p2 (j + 1)) % 2 = 0 then (-1 : Int) else 1) = sgS s j := by
    unfold sgS
    by_cases q : pcS (s / p2 (j + 1)) % 2 = 0
    · rw [if_neg (fun z => z q), if_pos q]
    · rw [if_pos q, if_neg q]
  rw [hsgx]
  rintro _ rfl
  have hnn : -sgS s j = 1 ∨ -sgS s j = -1 := by omega
  generalize hrest : s - p2 j = rest at *
  refine loopU (P := fun e S' => At (d + 1) 59 c59_30 [(0, (2, X)), (1, (0, s)), (2, (0, pcS s - 1)), (3, (0, j)), (4, (2, en)), (5, (0, rest)), (6, (0, sgS s j)), (7, (0, e))] [] S' Q) (I := fun e S' => 0 ≤ e ∧ Md (MR X (zSt s) (pcS s + 1)) S S' ∧ XW S' X ∧ RLn S' X (zSt s) (pcS s + 1) (fun q x => V q x + ((if q < e then (-sgS s j) * cnv E (G (zSt rest + q)) x else 0) + (if j = pcS s - 1 ∧ 1 ≤ q ∧ q ≤ e then sgS s j * G (zSt rest + (q - 1)) x else 0)))) (pcS s) ?_ ?_ 0 S (by omega) ⟨by omega, Md.refl _ _, hx, fun q q0 q1 => ?_⟩
  · rintro e S1 he ⟨e0, em, ew, er⟩ hk
    have hG1 : ∀ {S' : Hp}, Md (MR X (zSt s) (pcS s + 1)) S S' → ∀ q, 0 ≤ q → q < pcS s → LN S' (X + 1 + 1 + 2 * (zSt rest + q)) (rmM (zSt rest + q)) p (G (zSt rest + q)) := fun hm q q0 q1 => (hG q q0 q1).keep hm (by unfold MR; omega) (by unfold MR; omega)
    have hE1 : LI S1 en rn u E := u1.keep em (by unfold MR; omega) (by unfold MR; omega)
    have g1 := hG1 em e e0 he
    have gb := g1.bd
    obtain ⟨w, w1, w2, w3⟩ := g1.deg (fun x hx => hGt e x e0 he hx) (by have := (hi_ok (k := pcS s - 1) (by omega) (by omega)).2.2.1; omega)
    obtain ⟨t, t1⟩ := er e e0 (by omega)
    have hn1 := rm_ok (s := s) (d := e) (by omega) h1 e0 (by omega)
    have hn2 := rm_ok (s := s) (d := e + 1) (by omega) h1 (by omega) (by omega)
    have cb : ∀ x, x < 800 → 0 ≤ cnv E (G (zSt rest + e)) x ∧ cnv E (G (zSt rest + e)) x ≤ 100000 := fun x hx => cnv_b (fun i => by have := hEb i; omega) (fun i => by have := gb i; omega) (by omega)
    apply w_Minors_addPlace_30
    rw [ew.2.1]
    simp (disch := omega) only [w32_id]
    rw [ew.2.2.1.ptr (i := zSt rest + e) (by omega) (by omega), ew.2.2.1.ptr (i := zSt s + e) (by omega) (by omega)]
    refine ⟨fun hc => by omega, fun _ => ⟨ew.1, ⟨trivial, by omega, by omega⟩, ⟨ew.2.2.1.1, by omega, by rw [ew.2.2.1.2.1]; omega⟩, ?_⟩⟩
    rintro _ rfl
    refine ⟨ew.1, ⟨trivial, by omega, by omega⟩, ⟨ew.2.2.1.1, by omega, by rw [ew.2.2.1.2.1]; omega⟩, t1.1.1, ?_⟩
    refine s_addProduct t1 hE1 w1 (by omega) (by omega) (fun x => by have := hEb x; omega) (fun x => by have := gb x; omega) (fun x => ?_) hnn (fun _ _ => by rw [hn1]; omega) (fun S2 m2 l2 => ⟨rfl, ?_⟩)
    · have b1 := hB e x e0 (by omega)
      (try dsimp only)
      rw [if_neg (by omega)]
      by_cases hq : j = pcS s - 1 ∧ 1 ≤ e ∧ e ≤ e
      · rw [if_pos hq]
        have := (hG1 em (e - 1) (by omega) (by omega)).bd x
        rw [show zSt rest + (e - 1) = zSt rest + (e - 1) from rfl] at this
        have := hsx (G (zSt rest + (e - 1)) x)
        omega
      · rw [if_neg hq]
        omega
    have mm2 : Md (MR X (zSt s) (pcS s + 1)) S S2 := em.tr (m2.wide (fun x hx => by unfold ML at hx; unfold MR; omega))
    have ew2 : XW S2 X := ew.set m2 (by
      by_cases q : zSt s + e = 0
      · have := sz_mono (s := 0) (u := s) (by omega) (by omega) h1
        have := (sz_st (s := 0) (by omega) (by omega)).1
        have := (sz_st (s := 0) (by omega) (by omega)).2.2.1
        omega
      · omega) (by omega) ⟨_, _, l2⟩
    have nxt : ∀ S3, Md (MR X (zSt s) (pcS s + 1)) S S3 → XW S3 X → RLn S3 X (zSt s) (pcS s + 1) (fun q x => V q x + ((if q < e + 1 then (-sgS s j) * cnv E (G (zSt rest + q)) x else 0) + (if j = pcS s - 1 ∧ 1 ≤ q ∧ q ≤ e + 1 then sgS s j * G (zSt rest + (q - 1)) x else 0))) → At (d + 1) 59 c59_103 [(0, (2, X)), (1, (0, s)), (2, (0, pcS s - 1)), (3, (0, j)), (4, (2, en)), (5, (0, rest)), (6, (0, sgS s j)), (7, (0, e))] [] S3 Q := by
      intro S3 a1 a2 a3
      apply w_Minors_addPlace_103
      rintro _ rfl
      rw [w32_id (by omega) (by omega)]
      exact hk _ ⟨by omega, a1, a2, a3⟩
    refine ⟨fun hj => nxt S2 mm2 ew2 (fun q q0 q1 => ?_), fun hj => ⟨ew2.1, ⟨trivial, by omega, by omega⟩, ⟨by rw [ew2.2.1]; exact ew2.2.2.1.1, by omega, by rw [ew2.2.1, ew2.2.2.1.2.1]; omega⟩, ?_⟩⟩
    · by_cases eq : q = e
      · subst eq
        refine ⟨_, l2.congr fun x => ?_⟩
        (try dsimp only)
        rw [if_neg (show ¬ q < q by omega), if_neg (show ¬ (j = pcS s - 1 ∧ 1 ≤ q ∧ q ≤ q) by omega), if_pos (show q < q + 1 by omega), if_neg (show ¬ (j = pcS s - 1 ∧ 1 ≤ q ∧ q ≤ q + 1) by omega)]
        omega
      · obtain ⟨t9, t9l⟩ := er q q0 q1
        refine ⟨t9, (t9l.keep m2 (by unfold ML; omega) (by unfold ML; omega)).congr fun x => ?_⟩
        (try dsimp only)
        congr 2
        · by_cases hq : q < e
          · rw [if_pos hq, if_pos (by omega)]
          · rw [if_neg hq, if_neg (by omega)]
        · rw [if_neg (by omega), if_neg (by omega)]
    · have hj' : j = pcS s - 1 := by omega
      obtain ⟨t9, t9l⟩ := er (e + 1) (by omega) (by omega)
      rw [show X + 1 + 1 + 2 * (zSt s + (e + 1)) = X + 1 + 1 + 2 * (zSt s + e + 1) by omega, show zSt s + (e + 1) = zSt s + e + 1 by omega] at t9l
      rw [show zSt s + (e + 1) = zSt s + e + 1 by omega] at hn2
      have t9k := t9l.keep m2 (by unfold ML; omega) (by unfold ML; omega)
      rw [ew2.2.1, ew2.2.2.1.ptr (i := zSt s + e + 1) (by omega) (by omega)]
      refine ⟨t9k.1.1, ?_⟩
      have w1k := w1.keep m2 (by unfold ML; omega) (by unfold ML; omega)
      refine s_add t9k w1k (by omega) (fun x => by have := gb x; have := hsx (G (zSt rest + e) x); omega) (fun x => ?_) (by omega) (by rw [hn2]; omega) (fun S3 m3 l3 => ⟨rfl, ?_⟩)
      · have b1 := hB (e + 1) x (by omega) (by omega)
        (try dsimp only)
        rw [if_neg (by omega), if_neg (by omega)]
        omega
      refine nxt S3 (mm2.tr (m3.wide (fun x hx => by unfold ML at hx; unfold MR; omega))) (ew2.set m3 (by omega) (by omega) ⟨_, _, l3⟩) (fun q q0 q1 => ?_)
      by_cases eq : q = e
      · subst eq
        refine ⟨_, (l2.keep m3 (by unfold ML; omega) (by unfold ML; omega)).congr fun x => ?_⟩
        (try dsimp only)
        rw [if_neg (show ¬ q < q by omega), if_pos (show q < q + 1 by omega)]
        by_cases hq : 1 ≤ q
        · rw [if_pos (show j = pcS s - 1 ∧ 1 ≤ q ∧ q ≤ q by omega), if_pos (show j = pcS s - 1 ∧ 1 ≤ q ∧ q ≤ q + 1 by omega)]
          omega
        · rw [if_neg (show ¬ (j = pcS s - 1 ∧ 1 ≤ q ∧ q ≤ q) by omega), if_neg (show ¬ (j = pcS s - 1 ∧ 1 ≤ q ∧ q ≤ q + 1) by omega)]
          omega
      · by_cases eq1 : q = e + 1
        · subst eq1
          rw [show X + 1 + 1 + 2 * (zSt s + (e + 1)) = X + 1 + 1 + 2 * (zSt s + e + 1) by omega, show zSt s + (e + 1) = zSt s + e + 1 by omega]
          refine ⟨_, l3.congr fun x => ?_⟩
          (try dsimp only)
          rw [if_neg (show ¬ e + 1 < e by omega), if_neg (show ¬ (j = pcS s - 1 ∧ 1 ≤ e + 1 ∧ e + 1 ≤ e) by omega), if_neg (show ¬ e + 1 < e + 1 by omega), if_pos (show j = pcS s - 1 ∧ 1 ≤ e + 1 ∧ e + 1 ≤ e + 1 by omega), show zSt rest + (e + 1 - 1) = zSt rest + e by omega]
          by_cases hx0 : x < 0
          · rw [if_pos hx0, g1.neg x hx0]
            have := t9l.2.2.2.2.2.2 x hx0
            (try dsimp only at this)
            rw [if_neg (by omega), if_neg (by omega)] at this
            omega
          · rw [if_neg hx0, show x - 0 = x by omega]
            omega
        · obtain ⟨t8, t8l⟩ := er q q0 q1
          refine ⟨t8, ((t8l.keep m2 (by unfold ML; omega) (by unfold ML; omega)).keep m3 (by unfold ML; omega) (by unfold ML; omega)).congr fun x => ?_⟩
          (try dsimp only)
          congr 2
          · by_cases hq : q < e
            · rw [if_pos hq, if_pos (by omega)]
            · rw [if_neg hq, if_neg (by omega)]
          · by_cases hq : j = pcS s - 1 ∧ 1 ≤ q ∧ q ≤ e
            · rw [if_pos hq, if_pos (by omega)]
            · rw [if_neg hq, if_neg (by omega)]
  · rintro S1 ⟨e0, em, ew, er⟩
    apply w_Minors_addPlace_30
    refine ⟨fun _ => H S1 em (fun q q0 q1 => ?_), fun hc => absurd (show pcS s - 1 < pcS s by omega) hc⟩
    obtain ⟨t, t1⟩ := er q q0 q1
    refine ⟨t, t1.congr fun x => ?_⟩
    (try dsimp only)
    congr 2
    by_cases hq : j = pcS s - 1 ∧ 1 ≤ q
    · rw [if_pos hq, if_pos (by omega)]
    · rw [if_neg hq, if_neg (by omega)]
  · obtain ⟨t, t1⟩ := hV q q0 q1
    refine ⟨t, t1.congr fun x => ?_⟩
    (try dsimp only)
    rw [if_neg (by omega), if_neg (by omega)]
    omega
