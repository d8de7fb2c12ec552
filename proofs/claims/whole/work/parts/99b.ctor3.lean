/-! Constructors: the rows of a place and of an algebra. -/
/-- the object at G has its first f rows, from field f0 on -/
def RwI (kd f0 : Int) (kF lF : Int → Int) (T : Hp) (G f : Int) : Prop := zN T = G + 1 + f ∧ zK T G = kd ∧ zT T = 1 ∧ ∀ j, 0 ≤ j → j < f → zG T G (f0 + j) = G + 1 + j ∧ NR T (G + 1 + j) (kF j) (lF j)
theorem RwI.step {kd f0 : Int} {kF lF : Int → Int} {T : Hp} {G f fi k n : Int} (h : RwI kd f0 kF lF T G f) (hf : 0 ≤ f) (hi : fi = f0 + f) (hk : kF f = k) (hl : lF f = n) : RwI kd f0 kF lF (zS (zA T k n) G fi (zN T)) G (f + 1) ∧ Mg (fun x => x = G) T (zS (zA T k n) G fi (zN T)) ∧ (∀ i, i ≠ fi → zG (zS (zA T k n) G fi (zN T)) G i = zG T G i) ∧ zK (zA T k n) G = kd := by
  obtain ⟨h1, h2, h3, h4⟩ := h
  obtain ⟨p1, p2, p3, p4, p5, p6, p7⟩ := put_row (S := T) (a := G) (f := fi) (k := k) (n := n) (m := zN T) (by omega) rfl h2
  refine ⟨⟨by rw [p2, h1]; omega, p4, p3.trans h3, fun j j0 j1 => ?_⟩, p1, p6, p4⟩
  by_cases q : j = f
  · rw [q, ← hi, p5, hk, hl]
    rw [h1] at p7 ⊢
    exact ⟨rfl, p7⟩
  · obtain ⟨g1, g2⟩ := h4 j j0 (by omega)
    exact ⟨by rw [p6 _ (by omega)]; exact g1, g2.keepg p1 (by omega) (by omega)⟩
def agK (j : Int) : Int := if j = 5 ∨ j = 7 then 103 else 101
def agL (j : Int) : Int := if j < 2 ∨ j = 3 then 64 else if j = 2 ∨ j = 4 ∨ j = 6 ∨ j = 10 ∨ j = 11 then 16 else 4
def plK (j : Int) : Int := if j = 0 then 102 else 101
def plL (j : Int) : Int := if j = 0 then 304 else if j = 1 then 76 else if j = 4 then 64 else 19
set_option maxHeartbeats 2000000 in
theorem s_algNew {d : Nat} {G : Int} {S : Hp} {Q : Vl → Hp → Prop} (hG : 1 ≤ G) (hK : zK S G = 1) (hN : zN S = G + 1) (hT : zT S = 1) (H : ∀ S', Mg (fun x => x = G) S S' → RwI 1 0 agK agL S' G 14 → zG S' G 14 = 2 → zG S' G 15 = 3 → Q (3, 0) S') : Ev d 0 [(2, G)] S Q := by
  have A0 : RwI 1 0 agK agL S G 0 := ⟨by omega, hK, hT, fun j j0 j1 => by omega⟩
  have M0 : Mg (fun x => x = G) S S := Mg.refl _ _
  apply w_Algebra_init_0
  refine ⟨by omega, ?_⟩
  obtain ⟨A1, M, -, K⟩ := A0.step (fi := 0) (k := 101) (n := 64) (by omega) (by omega) rfl rfl
  refine ⟨⟨⟨by omega, by omega⟩, A0.2.2.1, by omega, by omega⟩, ?_⟩
  rintro _ rfl
  refine ⟨K, ?_⟩
  rintro _ rfl
  have M1 := M0.tr M (fun b _ hb => hb)
  clear A0 M0 M K
  generalize zS (zA S 101 64) G 0 (zN S) = T1 at *
  obtain ⟨A2, M, -, K⟩ := A1.step (fi := 1) (k := 101) (n := 64) (by omega) (by omega) rfl rfl
  refine ⟨⟨⟨by omega, by omega⟩, A1.2.2.1, by omega, by omega⟩, ?_⟩
  rintro _ rfl
  refine ⟨K, ?_⟩
  rintro _ rfl
  have M2 := M1.tr M (fun b _ hb => hb)
  clear A1 M1 M K
  generalize zS (zA T1 101 64) G 1 (zN T1) = T2 at *
  obtain ⟨A3, M, -, K⟩ := A2.step (fi := 2) (k := 101) (n := 16) (by omega) (by omega) rfl rfl
  refine ⟨⟨⟨by omega, by omega⟩, A2.2.2.1, by omega, by omega⟩, ?_⟩
  rintro _ rfl
  refine ⟨K, ?_⟩
  rintro _ rfl
  have M3 := M2.tr M (fun b _ hb => hb)
  clear A2 M2 M K
  generalize zS (zA T2 101 16) G 2 (zN T2) = T3 at *
  obtain ⟨A4, M, -, K⟩ := A3.step (fi := 3) (k := 101) (n := 64) (by omega) (by omega) rfl rfl
  refine ⟨⟨⟨by omega, by omega⟩, A3.2.2.1, by omega, by omega⟩, ?_⟩
  rintro _ rfl
  refine ⟨K, ?_⟩
  rintro _ rfl
  have M4 := M3.tr M (fun b _ hb => hb)
  clear A3 M3 M K
  generalize zS (zA T3 101 64) G 3 (zN T3) = T4 at *
  obtain ⟨A5, M, -, K⟩ := A4.step (fi := 4) (k := 101) (n := 16) (by omega) (by omega) rfl rfl
  refine ⟨⟨⟨by omega, by omega⟩, A4.2.2.1, by omega, by omega⟩, ?_⟩
  rintro _ rfl
  refine ⟨K, ?_⟩
  rintro _ rfl
  have M5 := M4.tr M (fun b _ hb => hb)
  clear A4 M4 M K
  generalize zS (zA T4 101 16) G 4 (zN T4) = T5 at *
  obtain ⟨A6, M, -, K⟩ := A5.step (fi := 5) (k := 103) (n := 4) (by omega) (by omega) rfl rfl
  refine ⟨⟨⟨by omega, by omega⟩, A5.2.2.1, by omega, by omega⟩, ?_⟩
  rintro _ rfl
  refine ⟨K, ?_⟩
  rintro _ rfl
  have M6 := M5.tr M (fun b _ hb => hb)
  clear A5 M5 M K
  generalize zS (zA T5 103 4) G 5 (zN T5) = T6 at *
  obtain ⟨A7, M, -, K⟩ := A6.step (fi := 6) (k := 101) (n := 16) (by omega) (by omega) rfl rfl
  refine ⟨⟨⟨by omega, by omega⟩, A6.2.2.1, by omega, by omega⟩, ?_⟩
  rintro _ rfl
  refine ⟨K, ?_⟩
  rintro _ rfl
  have M7 := M6.tr M (fun b _ hb => hb)
  clear A6 M6 M K
  generalize zS (zA T6 101 16) G 6 (zN T6) = T7 at *
  obtain ⟨A8, M, -, K⟩ := A7.step (fi := 7) (k := 103) (n := 4) (by omega) (by omega) rfl rfl
  refine ⟨⟨⟨by omega, by omega⟩, A7.2.2.1, by omega, by omega⟩, ?_⟩
  rintro _ rfl
  refine ⟨K, ?_⟩
  rintro _ rfl
  have M8 := M7.tr M (fun b _ hb => hb)
  clear A7 M7 M K
  generalize zS (zA T7 103 4) G 7 (zN T7) = T8 at *
  obtain ⟨A9, M, -, K⟩ := A8.step (fi := 8) (k := 101) (n := 4) (by omega) (by omega) rfl rfl
  refine ⟨⟨⟨by omega, by omega⟩, A8.2.2.1, by omega, by omega⟩, ?_⟩
  rintro _ rfl
  refine ⟨K, ?_⟩
  rintro _ rfl
  have M9 := M8.tr M (fun b _ hb => hb)
  clear A8 M8 M K
  generalize zS (zA T8 101 4) G 8 (zN T8) = T9 at *
  obtain ⟨A10, M, -, K⟩ := A9.step (fi := 9) (k := 101) (n := 4) (by omega) (by omega) rfl rfl
  refine ⟨⟨⟨by omega, by omega⟩, A9.2.2.1, by omega, by omega⟩, ?_⟩
  rintro _ rfl
  refine ⟨K, ?_⟩
  rintro _ rfl
  have M10 := M9.tr M (fun b _ hb => hb)
  clear A9 M9 M K
  generalize zS (zA T9 101 4) G 9 (zN T9) = T10 at *
  obtain ⟨A11, M, -, K⟩ := A10.step (fi := 10) (k := 101) (n := 16) (by omega) (by omega) rfl rfl
  refine ⟨⟨⟨by omega, by omega⟩, A10.2.2.1, by omega, by omega⟩, ?_⟩
  rintro _ rfl
  refine ⟨K, ?_⟩
  rintro _ rfl
  have M11 := M10.tr M (fun b _ hb => hb)
  clear A10 M10 M K
  generalize zS (zA T10 101 16) G 10 (zN T10) = T11 at *
  obtain ⟨A12, M, -, K⟩ := A11.step (fi := 11) (k := 101) (n := 16) (by omega) (by omega) rfl rfl
  refine ⟨⟨⟨by omega, by omega⟩, A11.2.2.1, by omega, by omega⟩, ?_⟩
  rintro _ rfl
  refine ⟨K, ?_⟩
  rintro _ rfl
  have M12 := M11.tr M (fun b _ hb => hb)
  clear A11 M11 M K
  generalize zS (zA T11 101 16) G 11 (zN T11) = T12 at *
  obtain ⟨A13, M, -, K⟩ := A12.step (fi := 12) (k := 101) (n := 4) (by omega) (by omega) rfl rfl
  refine ⟨⟨⟨by omega, by omega⟩, A12.2.2.1, by omega, by omega⟩, ?_⟩
  rintro _ rfl
  refine ⟨K, ?_⟩
  rintro _ rfl
  have M13 := M12.tr M (fun b _ hb => hb)
  clear A12 M12 M K
  generalize zS (zA T12 101 4) G 12 (zN T12) = T13 at *
  obtain ⟨A14, M, -, K⟩ := A13.step (fi := 13) (k := 101) (n := 4) (by omega) (by omega) rfl rfl
  refine ⟨⟨⟨by omega, by omega⟩, A13.2.2.1, by omega, by omega⟩, ?_⟩
  rintro _ rfl
  refine ⟨K, ?_⟩
  rintro _ rfl
  have M14 := M13.tr M (fun b _ hb => hb)
  clear A13 M13 M K
  generalize zS (zA T13 101 4) G 13 (zN T13) = T14 at *
  refine ⟨A14.2.1, ?_⟩
  rintro _ rfl
  refine ⟨A14.2.1, ?_⟩
  rintro _ rfl
  have m : Mg (fun x => x = G) T14 (zS (zS T14 G 14 2) G 15 3) := (Mg.zS _ _ _ _).tr (Mg.zS _ _ _ _) (fun b _ hb => hb)
  refine H _ (M14.tr m (fun b _ hb => hb)) ⟨A14.1, A14.2.1, A14.2.2.1, fun j j0 j1 => ?_⟩ (by rw [zG_zS_ne _ (Or.inr (by omega)), zG_zS_at]) (by rw [zG_zS_at])
  obtain ⟨g1, g2⟩ := A14.2.2.2 j j0 j1
  exact ⟨by rw [zG_zS_ne _ (Or.inr (by omega)), zG_zS_ne _ (Or.inr (by omega))]; exact g1, g2.keepg m (by rw [A14.1]; omega) (by omega)⟩
