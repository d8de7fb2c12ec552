/-! Constructors: minors. -/
def zq (s : Int) : Int := if s < 16 then zSt s else 48
theorem zq_all : ∀ s : Fin 16, zq ((s.val : Int) + 1) = zSt (s.val : Int) + pcS (s.val : Int) + 1 := by decide +kernel
theorem zq_next {s : Int} (h0 : 0 ≤ s) (h1 : s < 16) : zq (s + 1) = zSt s + pcS s + 1 := by
  have := zq_all ⟨s.toNat, by omega⟩
  simpa only [show ((s.toNat : Nat) : Int) = s by omega] using this
theorem zq_at {s : Int} (h1 : s < 16) : zq s = zSt s := if_pos h1
/-- the first e lines of the minors stand -/
def XI (X e : Int) (S0 S' : Hp) : Prop := Mg (fun x => x = X) S0 S' ∧ zN S' = X + 2 + 2 * e ∧ zT S' = 1 ∧ zK S' X = 6 ∧ zG S' X 0 = X + 1 ∧ zK S' (X + 1) = 104 ∧ zL S' (X + 1) = 48 ∧ ∀ j, 0 ≤ j → j < e → zG S' (X + 1) j = X + 2 + 2 * j ∧ LI S' (X + 2 + 2 * j) (rmM j) (-1) (fun _ => 0)
theorem s_minorLine {d : Nat} {X e v : Int} {S0 S : Hp} {Q : Vl → Hp → Prop} (hX : 1 ≤ X) (x0 : zN S0 = X + 1) (h : XI X e S0 S) (he : 0 ≤ e ∧ e < 48) (hv : v = rmM e) (hr : 1 ≤ v ∧ v ≤ 200) (H : ∀ S3, zK S3 (X + 1) = 104 ∧ 0 ≤ e ∧ e < zL S3 (X + 1) ∧ zK S3 (zN S) = 4 → XI X (e + 1) S0 (zS S3 (X + 1) e (zN S)) → Q (3, 0) S3) : Ev (d + 1) 38 [(2, zN S), (0, v)] (zA S 4 0) Q := by
  obtain ⟨h1, h2, h3, h4, h5, h6, h7, h8⟩ := h
  have m1 : Mg (fun _ => False) S (zA S 4 0) := Mg.zA S 4 0
  have k1 : zK (zA S 4 0) (zN S) = 4 := zK_zA S 4 0
  have n1 : zN (zA S 4 0) = zN S + 1 := zN_zA S 4 0
  have t1 : zT (zA S 4 0) = 1 := h3
  generalize zA S 4 0 = S1 at *
  refine s_lineNew (by omega) k1 n1 t1 hr (fun S2 m2 n2 l2 => ?_)
  have m02 : Mg (fun _ => False) S S2 := m1.tr m2 (fun b hb z => by omega)
  have ka : zK S2 (X + 1) = 104 := by rw [m02.K (by omega)]; exact h6
  have la : zL S2 (X + 1) = 48 := by rw [m02.L (by omega)]; exact h7
  have kx : zK S2 X = 6 := by rw [m02.K (by omega)]; exact h4
  have m3 : Mg (fun x => x = X + 1) S2 (zS S2 (X + 1) e (zN S)) := Mg.zS _ _ _ _
  refine H S2 ⟨ka, he.1, by omega, l2.1.1⟩ ⟨(h1.tr m02 (fun b _ z => z.elim)).tr m3 (fun b hb z => by omega), by rw [zN_zS]; omega, m02.1.trans h3, kx, ?_, ka, la, fun j j0 j1 => ?_⟩
  · rw [zG_zS_ne _ (Or.inl (by omega)), m02.G (by omega) (fun z => z)]
    exact h5
  · by_cases q : j = e
    · rw [q, zG_zS_at, ← hv, ← h2]
      exact ⟨rfl, l2.keepg m3 (by omega) (by omega) (by omega)⟩
    · obtain ⟨a, b⟩ := h8 j j0 (by omega)
      rw [zG_zS_ne _ (Or.inr q), m02.G (by omega) (fun z => z)]
      exact ⟨a, (b.keepg m02 (by omega) (fun z => z) (fun z => z)).keepg m3 (by omega) (by omega) (by omega)⟩
theorem s_minorsNew {d : Nat} {X : Int} {S : Hp} {Q : Vl → Hp → Prop} (hX : 1 ≤ X) (hK : zK S X = 6) (hN : zN S = X + 1) (hT : zT S = 1) (H : ∀ S', Mg (fun x => x = X) S S' → zN S' = X + 98 → XW S' X → Q (3, 0) S') : Ev (d + 2) 56 [(2, X)] S Q := by
  apply w_Minors_init_0
  obtain ⟨p1, p2, p3, p4, p5, p6, p7⟩ := put_row (S := S) (a := X) (f := 0) (k := 104) (n := 48) (m := X + 1) (by omega) hN hK
  refine ⟨by omega, ⟨⟨by omega, by omega⟩, hT, by omega, by omega⟩, ?_⟩
  rintro _ rfl
  refine ⟨p4, ?_⟩
  rintro _ rfl
  rw [hN]
  have p3 := p3.trans hT
  generalize zS (zA S 104 48) X 0 (X + 1) = S1 at *
  refine ⟨p4, ?_⟩
  rintro _ rfl
  refine ⟨p4, ?_⟩
  rintro _ rfl
  have m2 : Mg (fun x => x = X) S1 (zS (zS S1 X 1 2) X 2 3) := (Mg.zS _ _ _ _).tr (Mg.zS _ _ _ _) (fun b _ hb => hb)
  have x2 : XI X 0 S (zS (zS S1 X 1 2) X 2 3) := ⟨p1.tr m2 (fun b _ hb => hb), by rw [zN_zS, zN_zS]; omega, p3, p4, by rw [zG_zS_ne _ (Or.inr (by omega)), zG_zS_ne _ (Or.inr (by omega))]; exact p5, p7.1, p7.2.1, fun j j0 j1 => by omega⟩
  generalize zS (zS S1 X 1 2) X 2 3 = S2 at *
  have z0 : zq 0 = 0 := by decide
  rw [show (0 : Int) + 1 = 0 + 1 + 2 * zq 0 by rw [z0]; rfl, show (0 : Int) + 48 = 0 + 48 + 202 * zq 0 by rw [z0]; rfl]
  refine loopU (P := fun s S' => At (d + 2) 56 c56_25 [(0, (2, X)), (1, (0, s)), (1000, (0, 0 + 1 + 2 * zq s)), (1001, (0, 0 + 48 + 202 * zq s)), (1002, (0, 100)), (1003, (0, 10000))] [] S' Q) (I := fun s S' => 0 ≤ s ∧ XI X (zq s) S S') 16 ?_ ?_ 0 S2 (by omega) ⟨by omega, by rw [z0]; exact x2⟩
  · rintro s S3 hs ⟨s0, x3⟩ hk
    rw [zq_at hs] at x3 ⊢
    have sb := sz_st s0 hs
    apply w_Minors_init_25
    refine ⟨fun z => by omega, fun _ => s_bitCount s0 hs ⟨_, rfl, ?_⟩⟩
    rw [show 0 + 1 + 2 * zSt s = 0 + 1 + 2 * (zSt s + 0) by omega, show 0 + 48 + 202 * zSt s = 0 + 48 + 202 * (zSt s + 0) by omega]
    refine loopU (P := fun e S' => At (d + 2) 56 c56_38 [(0, (2, X)), (1, (0, s)), (2, (0, pcS s)), (3, (0, e)), (1000, (0, 0 + 1 + 2 * (zSt s + e))), (1001, (0, 0 + 48 + 202 * (zSt s + e))), (1002, (0, 100)), (1003, (0, 10000))] [] S' Q) (I := fun e S' => 0 ≤ e ∧ XI X (zSt s + e) S S') (pcS s + 1) ?_ ?_ 0 S3 (by omega) ⟨by omega, by rw [Int.add_zero]; exact x3⟩
    · rintro e S4 he ⟨e0, x4⟩ hk2
      apply w_Minors_init_38
      rw [x4.2.2.2.2.1, w32_id (x := 43 * pcS s) (by omega) (by omega), w32_id (x := 43 * pcS s + 1) (by omega) (by omega), w32_id (x := zSt s + e) (by omega) (by omega)]
      refine ⟨fun z => by omega, fun _ => ⟨x4.2.2.2.1, ⟨rfl, s0, hs⟩, ⟨⟨by omega, by omega⟩, x4.2.2.1⟩, ?_⟩⟩
      rintro _ rfl
      refine ⟨⟨⟨by omega, by omega⟩, zK_zA S4 4 0⟩, s_minorLine (e := zSt s + e) hX hN x4 (by omega) (rm_ok s0 hs e0 (by omega)).symm (by omega) (fun S5 kk x5 => ⟨rfl, kk, ?_⟩)⟩
      rintro _ rfl _ rfl
      rw [w32_id (by omega) (by omega)]
      have := hk2 _ ⟨by omega, by rw [show zSt s + (e + 1) = zSt s + e + 1 by omega]; exact x5⟩
      rw [show 0 + 1 + 2 * (zSt s + e) + 1 + 1 = 0 + 1 + 2 * (zSt s + (e + 1)) by omega, show 0 + 48 + 202 * (zSt s + e) + 2 + 200 = 0 + 48 + 202 * (zSt s + (e + 1)) by omega]
      exact this
    · rintro S4 ⟨-, x4⟩
      apply w_Minors_init_38
      refine ⟨fun _ => ?_, fun z => absurd (show pcS s < pcS s + 1 by omega) z⟩
      rintro _ rfl
      rw [w32_id (by omega) (by omega)]
      have e := zq_next s0 hs
      have := hk S4 ⟨by omega, by rw [e, show zSt s + pcS s + 1 = zSt s + (pcS s + 1) by omega]; exact x4⟩
      rw [e] at this
      rw [show zSt s + (pcS s + 1) = zSt s + pcS s + 1 by omega]
      exact this
  · rintro S3 ⟨-, x3⟩
    have x3 : XI X 48 S S3 := x3
    obtain ⟨h1, h2, h3, h4, h5, h6, h7, h8⟩ := x3
    have g0 := h8 0 (by omega) (by omega)
    rw [show X + 2 + 2 * 0 = X + 2 by omega] at g0
    apply w_Minors_init_25
    rw [h5, g0.1, h6, h7]
    refine ⟨fun _ => ⟨h4, ⟨rfl, by omega, by omega⟩, g0.2.1.1, s_write g0.2 (by omega) (show (0 : Int) < rmM 0 by decide) (by omega) (fun S4 m4 l4 => ⟨rfl, ?_⟩)⟩, fun z => absurd (Int.le_refl 16) z⟩
    have K4 : ∀ b, zK S4 b = zK S3 b := m4.K
    refine H S4 (h1.tr (Mg.ofMd m4) (fun b hb z => ?_)) (by rw [m4.N]; omega) ⟨by rw [K4]; exact h4, by rw [m4.G (fun z => by unfold ML at z; omega)]; exact h5, ⟨by rw [K4]; exact h6, by rw [m4.L]; exact h7, fun j j0 j1 => ?_⟩, ?_⟩
    · unfold ML at z
      omega
    · obtain ⟨a, b⟩ := h8 j j0 j1
      rw [show X + 1 + 1 + 2 * j = X + 2 + 2 * j by omega]
      refine ⟨by rw [m4.G (fun z => by unfold ML at z; omega)]; exact a, ?_⟩
      by_cases q : j = 0
      · rw [q, show X + 2 + 2 * 0 = X + 2 by omega]
        exact ⟨_, _, l4⟩
      · exact ⟨_, _, b.keep m4 (fun z => by unfold ML at z; omega) (fun z => by unfold ML at z; omega)⟩
    · rw [show X + 1 + 1 + 2 * 0 = X + 2 by omega]
      refine ⟨_, l4, fun _ => ?_, fun i => ?_⟩
      · rw [if_neg (by decide)]
        exact fun z => absurd z (by decide)
      · (try dsimp only)
        split <;> omega
