/-! Constructors: a place; shapes of the new. -/
theorem RwI.hw {S : Hp} {G : Int} (h : RwI 1 0 agK agL S G 14) : HW S G := by
  obtain ⟨-, h2, -, h4⟩ := h
  have f : ∀ j, 0 ≤ j → j < 14 → zG S G j = G + 1 + j := fun j j0 j1 => by
    have := (h4 j j0 j1).1
    rw [Int.zero_add] at this
    exact this
  have r : ∀ j, 0 ≤ j → j < 14 → zK S (G + 1 + j) = agK j ∧ zL S (G + 1 + j) = agL j := fun j j0 j1 => ⟨(h4 j j0 j1).2.1, (h4 j j0 j1).2.2.1⟩
  have e : ∀ j x : Int, G + 1 + j = G + x → G + x = G + 1 + j := fun j x h => h.symm
  refine ⟨h2, by rw [f 0 (by omega) (by omega)]; omega, by rw [f 1 (by omega) (by omega)]; omega, by rw [f 2 (by omega) (by omega)]; omega, by rw [f 3 (by omega) (by omega)]; omega, by rw [f 4 (by omega) (by omega)]; omega, by rw [f 5 (by omega) (by omega)]; omega, by rw [f 6 (by omega) (by omega)]; omega, by rw [f 7 (by omega) (by omega)]; omega, by rw [f 8 (by omega) (by omega)]; omega, by rw [f 9 (by omega) (by omega)]; omega, by rw [f 10 (by omega) (by omega)]; omega, by rw [f 11 (by omega) (by omega)]; omega, by rw [f 12 (by omega) (by omega)]; omega, by rw [f 13 (by omega) (by omega)]; omega, ?_, ?_, ?_, ?_, ?_, ?_, ?_, ?_, ?_, ?_, ?_, ?_, ?_, ?_⟩
  · rw [show G + 1 = G + 1 + 0 by omega]
    exact r 0 (by omega) (by omega)
  · rw [show G + 2 = G + 1 + 1 by omega]
    exact r 1 (by omega) (by omega)
  · rw [show G + 3 = G + 1 + 2 by omega]
    exact r 2 (by omega) (by omega)
  · rw [show G + 4 = G + 1 + 3 by omega]
    exact r 3 (by omega) (by omega)
  · rw [show G + 5 = G + 1 + 4 by omega]
    exact r 4 (by omega) (by omega)
  · rw [show G + 6 = G + 1 + 5 by omega]
    exact r 5 (by omega) (by omega)
  · rw [show G + 7 = G + 1 + 6 by omega]
    exact r 6 (by omega) (by omega)
  · rw [show G + 8 = G + 1 + 7 by omega]
    exact r 7 (by omega) (by omega)
  · rw [show G + 9 = G + 1 + 8 by omega]
    exact r 8 (by omega) (by omega)
  · rw [show G + 10 = G + 1 + 9 by omega]
    exact r 9 (by omega) (by omega)
  · rw [show G + 11 = G + 1 + 10 by omega]
    exact r 10 (by omega) (by omega)
  · rw [show G + 12 = G + 1 + 11 by omega]
    exact r 11 (by omega) (by omega)
  · rw [show G + 13 = G + 1 + 12 by omega]
    exact r 12 (by omega) (by omega)
  · rw [show G + 14 = G + 1 + 13 by omega]
    exact r 13 (by omega) (by omega)
theorem RwI.pw {S : Hp} {L : Int} (h : RwI 7 3 plK plL S L 5) : PW S L := by
  obtain ⟨-, h2, -, h4⟩ := h
  have f : ∀ j, 0 ≤ j → j < 5 → zG S L (3 + j) = L + 1 + j := fun j j0 j1 => (h4 j j0 j1).1
  have r : ∀ j, 0 ≤ j → j < 5 → zK S (L + 1 + j) = plK j ∧ zL S (L + 1 + j) = plL j := fun j j0 j1 => ⟨(h4 j j0 j1).2.1, (h4 j j0 j1).2.2.1⟩
  refine ⟨h2, ?_, ?_, ?_, ?_, ?_, ?_, ?_, ?_, ?_, ?_⟩
  · have := f 0 (by omega) (by omega)
    rw [show (3 : Int) + 0 = 3 by omega] at this
    rw [this]
    omega
  · have := f 1 (by omega) (by omega)
    rw [show (3 : Int) + 1 = 4 by omega] at this
    rw [this]
    omega
  · have := f 2 (by omega) (by omega)
    rw [show (3 : Int) + 2 = 5 by omega] at this
    rw [this]
    omega
  · have := f 3 (by omega) (by omega)
    rw [show (3 : Int) + 3 = 6 by omega] at this
    rw [this]
    omega
  · have := f 4 (by omega) (by omega)
    rw [show (3 : Int) + 4 = 7 by omega] at this
    rw [this]
    omega
  · rw [show L + 1 = L + 1 + 0 by omega]
    exact r 0 (by omega) (by omega)
  · rw [show L + 2 = L + 1 + 1 by omega]
    exact r 1 (by omega) (by omega)
  · rw [show L + 3 = L + 1 + 2 by omega]
    exact r 2 (by omega) (by omega)
  · rw [show L + 4 = L + 1 + 3 by omega]
    exact r 3 (by omega) (by omega)
  · rw [show L + 5 = L + 1 + 4 by omega]
    exact r 4 (by omega) (by omega)
theorem RwI.pr {S : Hp} {L : Int} (h : RwI 7 3 plK plL S L 5) : PR S L := fun e e0 e1 => by
  have := (h.2.2.2 0 (by omega) (by omega)).2.2.2 e
  rw [show L + 1 + 0 = L + 1 by omega] at this
  rw [this]
  omega
set_option maxHeartbeats 1000000 in
theorem s_placeNew {d : Nat} {L c : Int} {S : Hp} {Q : Vl → Hp → Prop} (hG : 1 ≤ L) (hK : zK S L = 7) (hN : zN S = L + 1) (hT : zT S = 1) (H : ∀ S', Mg (fun x => x = L) S S' → RwI 7 3 plK plL S' L 5 → zG S' L 0 = c → zG S' L 1 = 0 → zG S' L 2 = 0 → Q (3, 0) S') : Ev d 61 [(2, L), (0, c)] S Q := by
  apply w_Place_init_0
  refine ⟨by omega, ⟨hK, Or.inl rfl⟩, ?_⟩
  rintro _ rfl
  refine ⟨hK, ?_⟩
  rintro _ rfl
  have M0 : Mg (fun x => x = L) S (zS (zS S L 1 0) L 2 0) := (Mg.zS _ _ _ _).tr (Mg.zS _ _ _ _) (fun b _ hb => hb)
  have A0 : RwI 7 3 plK plL (zS (zS S L 1 0) L 2 0) L 0 := ⟨by show zN S = _; omega, hK, hT, fun j j0 j1 => by omega⟩
  have P0 : zG (zS (zS S L 1 0) L 2 0) L 1 = 0 := by rw [zG_zS_ne _ (Or.inr (by omega)), zG_zS_at]
  have R0 : zG (zS (zS S L 1 0) L 2 0) L 2 = 0 := zG_zS_at _ _ _ _
  generalize zS (zS S L 1 0) L 2 0 = T0' at *
  obtain ⟨A1, M, O, K⟩ := A0.step (fi := 3) (k := 102) (n := 304) (by omega) (by omega) rfl rfl
  refine ⟨⟨⟨by omega, by omega⟩, A0.2.2.1, by omega, by omega⟩, ?_⟩
  rintro _ rfl
  refine ⟨K, ?_⟩
  rintro _ rfl
  have M1 := M0.tr M (fun b _ hb => hb)
  have P1 := (O 1 (by omega)).trans P0
  have R1 := (O 2 (by omega)).trans R0
  clear A0 M0 M K P0 R0 O
  generalize zS (zA T0' 102 304) L 3 (zN T0') = T1 at *
  obtain ⟨A2, M, O, K⟩ := A1.step (fi := 4) (k := 101) (n := 76) (by omega) (by omega) rfl rfl
  refine ⟨⟨⟨by omega, by omega⟩, A1.2.2.1, by omega, by omega⟩, ?_⟩
  rintro _ rfl
  refine ⟨K, ?_⟩
  rintro _ rfl
  have M2 := M1.tr M (fun b _ hb => hb)
  have P2 := (O 1 (by omega)).trans P1
  have R2 := (O 2 (by omega)).trans R1
  clear A1 M1 M K P1 R1 O
  generalize zS (zA T1 101 76) L 4 (zN T1) = T2 at *
  obtain ⟨A3, M, O, K⟩ := A2.step (fi := 5) (k := 101) (n := 19) (by omega) (by omega) rfl rfl
  refine ⟨⟨⟨by omega, by omega⟩, A2.2.2.1, by omega, by omega⟩, ?_⟩
  rintro _ rfl
  refine ⟨K, ?_⟩
  rintro _ rfl
  have M3 := M2.tr M (fun b _ hb => hb)
  have P3 := (O 1 (by omega)).trans P2
  have R3 := (O 2 (by omega)).trans R2
  clear A2 M2 M K P2 R2 O
  generalize zS (zA T2 101 19) L 5 (zN T2) = T3 at *
  obtain ⟨A4, M, O, K⟩ := A3.step (fi := 6) (k := 101) (n := 19) (by omega) (by omega) rfl rfl
  refine ⟨⟨⟨by omega, by omega⟩, A3.2.2.1, by omega, by omega⟩, ?_⟩
  rintro _ rfl
  refine ⟨K, ?_⟩
  rintro _ rfl
  have M4 := M3.tr M (fun b _ hb => hb)
  have P4 := (O 1 (by omega)).trans P3
  have R4 := (O 2 (by omega)).trans R3
  clear A3 M3 M K P3 R3 O
  generalize zS (zA T3 101 19) L 6 (zN T3) = T4 at *
  obtain ⟨A5, M, O, K⟩ := A4.step (fi := 7) (k := 101) (n := 64) (by omega) (by omega) rfl rfl
  refine ⟨⟨⟨by omega, by omega⟩, A4.2.2.1, by omega, by omega⟩, ?_⟩
  rintro _ rfl
  refine ⟨K, ?_⟩
  rintro _ rfl
  have M5 := M4.tr M (fun b _ hb => hb)
  have P5 := (O 1 (by omega)).trans P4
  have R5 := (O 2 (by omega)).trans R4
  clear A4 M4 M K P4 R4 O
  generalize zS (zA T4 101 64) L 7 (zN T4) = T5 at *
  refine ⟨A5.2.1, ?_⟩
  rintro _ rfl
  have m : Mg (fun x => x = L) T5 (zS T5 L 0 c) := Mg.zS _ _ _ _
  refine H _ (M5.tr m (fun b _ hb => hb)) ⟨A5.1, A5.2.1, A5.2.2.1, fun j j0 j1 => ?_⟩ (zG_zS_at _ _ _ _) (by rw [zG_zS_ne _ (Or.inr (by omega))]; exact P5) (by rw [zG_zS_ne _ (Or.inr (by omega))]; exact R5)
  obtain ⟨g1, g2⟩ := A5.2.2.2 j j0 j1
  exact ⟨by rw [zG_zS_ne _ (Or.inr (by omega))]; exact g1, g2.keepg m (by rw [A5.1]; omega) (by omega)⟩
