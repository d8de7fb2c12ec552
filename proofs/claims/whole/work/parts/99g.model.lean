/-! The model: its rows and numbers. Row j of the object at D lies at D + 1 + j. -/
def mdL : List (Int × Int × Int) := [(3, 101, 49), (4, 101, 200), (6, 101, 6), (7, 101, 744), (8, 101, 6), (9, 101, 6), (10, 101, 6), (11, 101, 6), (12, 102, 240), (13, 101, 868), (14, 101, 7), (15, 101, 7), (17, 101, 100), (23, 101, 245), (24, 101, 245), (25, 103, 5), (26, 101, 5), (29, 101, 49), (30, 101, 49), (31, 101, 49), (32, 101, 49), (35, 101, 49), (36, 101, 960), (37, 101, 1000), (38, 101, 1000), (39, 101, 1000), (40, 101, 600), (41, 101, 600), (42, 101, 420), (43, 101, 200), (44, 101, 49), (45, 101, 6720), (46, 101, 80), (49, 101, 672), (50, 101, 384), (51, 101, 64), (52, 101, 64), (54, 103, 2401), (55, 101, 4), (56, 101, 4), (57, 101, 700), (60, 102, 40), (64, 101, 49), (65, 101, 200)]
abbrev mdF (j : Nat) : Int := (mdL.getD j (0, 0, 0)).1
abbrev mdK (j : Nat) : Int := (mdL.getD j (0, 0, 0)).2.1
abbrev mdN (j : Nat) : Int := (mdL.getD j (0, 0, 0)).2.2
theorem mdF_inj : ∀ i, i < 44 → ∀ j, j < i → mdF j ≠ mdF i := by decide
def RwM (T : Hp) (G : Int) (f : Nat) (c : Int → Int) : Prop := zN T = G + 1 + f ∧ zK T G = 12 ∧ zT T = 1 ∧ (∀ j : Nat, j < f → zG T G (mdF j) = G + 1 + j ∧ NR T (G + 1 + j) (mdK j) (mdN j)) ∧ ∀ i, (∀ j, j < 44 → mdF j ≠ i) → zG T G i = c i
theorem RwM.step {T : Hp} {G : Int} {f : Nat} {c : Int → Int} {fi k n : Int} (h : RwM T G f c) (hf : f < 44) (hi : mdF f = fi) (hk : mdK f = k) (hl : mdN f = n) : RwM (zS (zA T k n) G fi (zN T)) G (f + 1) c ∧ Mg (fun x => x = G) T (zS (zA T k n) G fi (zN T)) ∧ zK (zA T k n) G = 12 := by
  obtain ⟨h1, h2, h3, h4, h5⟩ := h
  obtain ⟨p1, p2, p3, p4, p5, p6, p7⟩ := put_row (S := T) (a := G) (f := fi) (k := k) (n := n) (m := zN T) (by omega) rfl h2
  refine ⟨⟨by rw [p2, h1]; omega, p4, p3.trans h3, fun j j1 => ?_, fun i hi' => ?_⟩, p1, p4⟩
  · by_cases q : j = f
    · subst q
      rw [hi, p5, hk, hl]
      rw [h1] at p7 ⊢
      exact ⟨rfl, p7⟩
    · obtain ⟨g1, g2⟩ := h4 j (by omega)
      exact ⟨by rw [p6 _ (fun e => mdF_inj f hf j (by omega) (e.trans hi.symm))]; exact g1, g2.keepg p1 (by omega) (by omega)⟩
  · rw [p6 _ (fun e => hi' f hf (hi.trans e.symm))]
    exact h5 i hi'
theorem RwM.sc {T : Hp} {G : Int} {f : Nat} {c : Int → Int} {fi v : Int} (h : RwM T G f c) (hf : f ≤ 44) (hi : ∀ j, j < 44 → mdF j ≠ fi) : RwM (zS T G fi v) G f (fun x => if x = fi then v else c x) := by
  obtain ⟨h1, h2, h3, h4, h5⟩ := h
  refine ⟨h1, h2, h3, fun j j1 => ?_, fun i hi' => ?_⟩
  · obtain ⟨g1, g2⟩ := h4 j j1
    exact ⟨by rw [zG_zS_ne _ (Or.inr (hi j (by omega)))]; exact g1, g2.keepg (Mg.zS _ _ _ _) (by omega) (by omega)⟩
  · by_cases q : i = fi
    · rw [q, zG_zS_at]
      exact (if_pos rfl).symm
    · rw [zG_zS_ne _ (Or.inr q), h5 i hi']
      exact (if_neg q).symm
def mdC (x : Int) : Int := if x = 48 then -1 else if x = 0 then 3 else 0
set_option maxHeartbeats 8000000 in
theorem s_modelNew {d : Nat} {D : Int} {S : Hp} {Q : Vl → Hp → Prop} (hD : 1 ≤ D) (hK : zK S D = 12) (hN : zN S = D + 1) (hT : zT S = 1) (hZ : ∀ i, zG S D i = 0) (H : ∀ S', Mg (fun x => x = D) S S' → RwM S' D 44 mdC → Q (3, 0) S') : Ev d 162 [(2, D)] S Q := by
  have A : RwM S D 0 (fun _ => 0) := ⟨by omega, hK, hT, fun j j1 => by omega, fun i _ => hZ i⟩
  have M : Mg (fun x => x = D) S S := Mg.refl _ _
  apply w_Model_init_0
  refine ⟨by omega, ?_⟩
  refine ⟨A.2.1, ?_⟩
  rintro _ rfl
  have A' := A.sc (fi := 0) (v := 3) (by omega) (by decide)
  have M' := M.tr (Mg.zS S D 0 (3)) (fun b _ hb => hb)
  clear A M
  have A := A'
  have M := M'
  clear A' M'
  generalize zS S D 0 (3) = T1 at *
  obtain ⟨A', M', K⟩ := A.step (fi := 3) (k := 101) (n := 49) (by omega) rfl rfl rfl
  refine ⟨⟨⟨by omega, by omega⟩, A.2.2.1, by omega, by omega⟩, ?_⟩
  rintro _ rfl
  refine ⟨K, ?_⟩
  rintro _ rfl
  have M' := M.tr M' (fun b _ hb => hb)
  clear A M K
  have A := A'
  have M := M'
  clear A' M'
  generalize zS (zA T1 101 49) D 3 (zN T1) = T2 at *
  obtain ⟨A', M', K⟩ := A.step (fi := 4) (k := 101) (n := 200) (by omega) rfl rfl rfl
  refine ⟨⟨⟨by omega, by omega⟩, A.2.2.1, by omega, by omega⟩, ?_⟩
  rintro _ rfl
  refine ⟨K, ?_⟩
  rintro _ rfl
  have M' := M.tr M' (fun b _ hb => hb)
  clear A M K
  have A := A'
  have M := M'
  clear A' M'
  generalize zS (zA T2 101 200) D 4 (zN T2) = T3 at *
  obtain ⟨A', M', K⟩ := A.step (fi := 6) (k := 101) (n := 6) (by omega) rfl rfl rfl
  refine ⟨⟨⟨by omega, by omega⟩, A.2.2.1, by omega, by omega⟩, ?_⟩
  rintro _ rfl
  refine ⟨K, ?_⟩
  rintro _ rfl
  have M' := M.tr M' (fun b _ hb => hb)
  clear A M K
  have A := A'
  have M := M'
  clear A' M'
  generalize zS (zA T3 101 6) D 6 (zN T3) = T4 at *
  obtain ⟨A', M', K⟩ := A.step (fi := 7) (k := 101) (n := 744) (by omega) rfl rfl rfl
  refine ⟨⟨⟨by omega, by omega⟩, A.2.2.1, by omega, by omega⟩, ?_⟩
  rintro _ rfl
  refine ⟨K, ?_⟩
  rintro _ rfl
  have M' := M.tr M' (fun b _ hb => hb)
  clear A M K
  have A := A'
  have M := M'
  clear A' M'
  generalize zS (zA T4 101 744) D 7 (zN T4) = T5 at *
  obtain ⟨A', M', K⟩ := A.step (fi := 8) (k := 101) (n := 6) (by omega) rfl rfl rfl
  refine ⟨⟨⟨by omega, by omega⟩, A.2.2.1, by omega, by omega⟩, ?_⟩
  rintro _ rfl
  refine ⟨K, ?_⟩
  rintro _ rfl
  have M' := M.tr M' (fun b _ hb => hb)
  clear A M K
  have A := A'
  have M := M'
  clear A' M'
  generalize zS (zA T5 101 6) D 8 (zN T5) = T6 at *
  obtain ⟨A', M', K⟩ := A.step (fi := 9) (k := 101) (n := 6) (by omega) rfl rfl rfl
  refine ⟨⟨⟨by omega, by omega⟩, A.2.2.1, by omega, by omega⟩, ?_⟩
  rintro _ rfl
  refine ⟨K, ?_⟩
  rintro _ rfl
  have M' := M.tr M' (fun b _ hb => hb)
  clear A M K
  have A := A'
  have M := M'
  clear A' M'
  generalize zS (zA T6 101 6) D 9 (zN T6) = T7 at *
  obtain ⟨A', M', K⟩ := A.step (fi := 10) (k := 101) (n := 6) (by omega) rfl rfl rfl
  refine ⟨⟨⟨by omega, by omega⟩, A.2.2.1, by omega, by omega⟩, ?_⟩
  rintro _ rfl
  refine ⟨K, ?_⟩
  rintro _ rfl
  have M' := M.tr M' (fun b _ hb => hb)
  clear A M K
  have A := A'
  have M := M'
  clear A' M'
  generalize zS (zA T7 101 6) D 10 (zN T7) = T8 at *
  obtain ⟨A', M', K⟩ := A.step (fi := 11) (k := 101) (n := 6) (by omega) rfl rfl rfl
  refine ⟨⟨⟨by omega, by omega⟩, A.2.2.1, by omega, by omega⟩, ?_⟩
  rintro _ rfl
  refine ⟨K, ?_⟩
  rintro _ rfl
  have M' := M.tr M' (fun b _ hb => hb)
  clear A M K
  have A := A'
  have M := M'
  clear A' M'
  generalize zS (zA T8 101 6) D 11 (zN T8) = T9 at *
  obtain ⟨A', M', K⟩ := A.step (fi := 12) (k := 102) (n := 240) (by omega) rfl rfl rfl
  refine ⟨⟨⟨by omega, by omega⟩, A.2.2.1, by omega, by omega⟩, ?_⟩
  rintro _ rfl
  refine ⟨K, ?_⟩
  rintro _ rfl
  have M' := M.tr M' (fun b _ hb => hb)
  clear A M K
  have A := A'
  have M := M'
  clear A' M'
  generalize zS (zA T9 102 240) D 12 (zN T9) = T10 at *
  obtain ⟨A', M', K⟩ := A.step (fi := 13) (k := 101) (n := 868) (by omega) rfl rfl rfl
  refine ⟨⟨⟨by omega, by omega⟩, A.2.2.1, by omega, by omega⟩, ?_⟩
  rintro _ rfl
  refine ⟨K, ?_⟩
  rintro _ rfl
  have M' := M.tr M' (fun b _ hb => hb)
  clear A M K
  have A := A'
  have M := M'
  clear A' M'
  generalize zS (zA T10 101 868) D 13 (zN T10) = T11 at *
  obtain ⟨A', M', K⟩ := A.step (fi := 14) (k := 101) (n := 7) (by omega) rfl rfl rfl
  refine ⟨⟨⟨by omega, by omega⟩, A.2.2.1, by omega, by omega⟩, ?_⟩
  rintro _ rfl
  refine ⟨K, ?_⟩
  rintro _ rfl
  have M' := M.tr M' (fun b _ hb => hb)
  clear A M K
  have A := A'
  have M := M'
  clear A' M'
  generalize zS (zA T11 101 7) D 14 (zN T11) = T12 at *
  obtain ⟨A', M', K⟩ := A.step (fi := 15) (k := 101) (n := 7) (by omega) rfl rfl rfl
  refine ⟨⟨⟨by omega, by omega⟩, A.2.2.1, by omega, by omega⟩, ?_⟩
  rintro _ rfl
  refine ⟨K, ?_⟩
  rintro _ rfl
  have M' := M.tr M' (fun b _ hb => hb)
  clear A M K
  have A := A'
  have M := M'
  clear A' M'
  generalize zS (zA T12 101 7) D 15 (zN T12) = T13 at *
  obtain ⟨A', M', K⟩ := A.step (fi := 17) (k := 101) (n := 100) (by omega) rfl rfl rfl
  refine ⟨⟨⟨by omega, by omega⟩, A.2.2.1, by omega, by omega⟩, ?_⟩
  rintro _ rfl
  refine ⟨K, ?_⟩
  rintro _ rfl
  have M' := M.tr M' (fun b _ hb => hb)
  clear A M K
  have A := A'
  have M := M'
  clear A' M'
  generalize zS (zA T13 101 100) D 17 (zN T13) = T14 at *
  obtain ⟨A', M', K⟩ := A.step (fi := 23) (k := 101) (n := 245) (by omega) rfl rfl rfl
  refine ⟨⟨⟨by omega, by omega⟩, A.2.2.1, by omega, by omega⟩, ?_⟩
  rintro _ rfl
  refine ⟨K, ?_⟩
  rintro _ rfl
  have M' := M.tr M' (fun b _ hb => hb)
  clear A M K
  have A := A'
  have M := M'
  clear A' M'
  generalize zS (zA T14 101 245) D 23 (zN T14) = T15 at *
  obtain ⟨A', M', K⟩ := A.step (fi := 24) (k := 101) (n := 245) (by omega) rfl rfl rfl
  refine ⟨⟨⟨by omega, by omega⟩, A.2.2.1, by omega, by omega⟩, ?_⟩
  rintro _ rfl
  refine ⟨K, ?_⟩
  rintro _ rfl
  have M' := M.tr M' (fun b _ hb => hb)
  clear A M K
  have A := A'
  have M := M'
  clear A' M'
  generalize zS (zA T15 101 245) D 24 (zN T15) = T16 at *
  obtain ⟨A', M', K⟩ := A.step (fi := 25) (k := 103) (n := 5) (by omega) rfl rfl rfl
  refine ⟨⟨⟨by omega, by omega⟩, A.2.2.1, by omega, by omega⟩, ?_⟩
  rintro _ rfl
  refine ⟨K, ?_⟩
  rintro _ rfl
  have M' := M.tr M' (fun b _ hb => hb)
  clear A M K
  have A := A'
  have M := M'
  clear A' M'
  generalize zS (zA T16 103 5) D 25 (zN T16) = T17 at *
  obtain ⟨A', M', K⟩ := A.step (fi := 26) (k := 101) (n := 5) (by omega) rfl rfl rfl
  refine ⟨⟨⟨by omega, by omega⟩, A.2.2.1, by omega, by omega⟩, ?_⟩
  rintro _ rfl
  refine ⟨K, ?_⟩
  rintro _ rfl
  have M' := M.tr M' (fun b _ hb => hb)
  clear A M K
  have A := A'
  have M := M'
  clear A' M'
  generalize zS (zA T17 101 5) D 26 (zN T17) = T18 at *
  obtain ⟨A', M', K⟩ := A.step (fi := 29) (k := 101) (n := 49) (by omega) rfl rfl rfl
  refine ⟨⟨⟨by omega, by omega⟩, A.2.2.1, by omega, by omega⟩, ?_⟩
  rintro _ rfl
  refine ⟨K, ?_⟩
  rintro _ rfl
  have M' := M.tr M' (fun b _ hb => hb)
  clear A M K
  have A := A'
  have M := M'
  clear A' M'
  generalize zS (zA T18 101 49) D 29 (zN T18) = T19 at *
  obtain ⟨A', M', K⟩ := A.step (fi := 30) (k := 101) (n := 49) (by omega) rfl rfl rfl
  refine ⟨⟨⟨by omega, by omega⟩, A.2.2.1, by omega, by omega⟩, ?_⟩
  rintro _ rfl
  refine ⟨K, ?_⟩
  rintro _ rfl
  have M' := M.tr M' (fun b _ hb => hb)
  clear A M K
  have A := A'
  have M := M'
  clear A' M'
  generalize zS (zA T19 101 49) D 30 (zN T19) = T20 at *
  obtain ⟨A', M', K⟩ := A.step (fi := 31) (k := 101) (n := 49) (by omega) rfl rfl rfl
  refine ⟨⟨⟨by omega, by omega⟩, A.2.2.1, by omega, by omega⟩, ?_⟩
  rintro _ rfl
  refine ⟨K, ?_⟩
  rintro _ rfl
  have M' := M.tr M' (fun b _ hb => hb)
  clear A M K
  have A := A'
  have M := M'
  clear A' M'
  generalize zS (zA T20 101 49) D 31 (zN T20) = T21 at *
  obtain ⟨A', M', K⟩ := A.step (fi := 32) (k := 101) (n := 49) (by omega) rfl rfl rfl
  refine ⟨⟨⟨by omega, by omega⟩, A.2.2.1, by omega, by omega⟩, ?_⟩
  rintro _ rfl
  refine ⟨K, ?_⟩
  rintro _ rfl
  have M' := M.tr M' (fun b _ hb => hb)
  clear A M K
  have A := A'
  have M := M'
  clear A' M'
  generalize zS (zA T21 101 49) D 32 (zN T21) = T22 at *
  obtain ⟨A', M', K⟩ := A.step (fi := 35) (k := 101) (n := 49) (by omega) rfl rfl rfl
  refine ⟨⟨⟨by omega, by omega⟩, A.2.2.1, by omega, by omega⟩, ?_⟩
  rintro _ rfl
  refine ⟨K, ?_⟩
  rintro _ rfl
  have M' := M.tr M' (fun b _ hb => hb)
  clear A M K
  have A := A'
  have M := M'
  clear A' M'
  generalize zS (zA T22 101 49) D 35 (zN T22) = T23 at *
  obtain ⟨A', M', K⟩ := A.step (fi := 36) (k := 101) (n := 960) (by omega) rfl rfl rfl
  refine ⟨⟨⟨by omega, by omega⟩, A.2.2.1, by omega, by omega⟩, ?_⟩
  rintro _ rfl
  refine ⟨K, ?_⟩
  rintro _ rfl
  have M' := M.tr M' (fun b _ hb => hb)
  clear A M K
  have A := A'
  have M := M'
  clear A' M'
  generalize zS (zA T23 101 960) D 36 (zN T23) = T24 at *
  obtain ⟨A', M', K⟩ := A.step (fi := 37) (k := 101) (n := 1000) (by omega) rfl rfl rfl
  refine ⟨⟨⟨by omega, by omega⟩, A.2.2.1, by omega, by omega⟩, ?_⟩
  rintro _ rfl
  refine ⟨K, ?_⟩
  rintro _ rfl
  have M' := M.tr M' (fun b _ hb => hb)
  clear A M K
  have A := A'
  have M := M'
  clear A' M'
  generalize zS (zA T24 101 1000) D 37 (zN T24) = T25 at *
  obtain ⟨A', M', K⟩ := A.step (fi := 38) (k := 101) (n := 1000) (by omega) rfl rfl rfl
  refine ⟨⟨⟨by omega, by omega⟩, A.2.2.1, by omega, by omega⟩, ?_⟩
  rintro _ rfl
  refine ⟨K, ?_⟩
  rintro _ rfl
  have M' := M.tr M' (fun b _ hb => hb)
  clear A M K
  have A := A'
  have M := M'
  clear A' M'
  generalize zS (zA T25 101 1000) D 38 (zN T25) = T26 at *
  obtain ⟨A', M', K⟩ := A.step (fi := 39) (k := 101) (n := 1000) (by omega) rfl rfl rfl
  refine ⟨⟨⟨by omega, by omega⟩, A.2.2.1, by omega, by omega⟩, ?_⟩
  rintro _ rfl
  refine ⟨K, ?_⟩
  rintro _ rfl
  have M' := M.tr M' (fun b _ hb => hb)
  clear A M K
  have A := A'
  have M := M'
  clear A' M'
  generalize zS (zA T26 101 1000) D 39 (zN T26) = T27 at *
  obtain ⟨A', M', K⟩ := A.step (fi := 40) (k := 101) (n := 600) (by omega) rfl rfl rfl
  refine ⟨⟨⟨by omega, by omega⟩, A.2.2.1, by omega, by omega⟩, ?_⟩
  rintro _ rfl
  refine ⟨K, ?_⟩
  rintro _ rfl
  have M' := M.tr M' (fun b _ hb => hb)
  clear A M K
  have A := A'
  have M := M'
  clear A' M'
  generalize zS (zA T27 101 600) D 40 (zN T27) = T28 at *
  obtain ⟨A', M', K⟩ := A.step (fi := 41) (k := 101) (n := 600) (by omega) rfl rfl rfl
  refine ⟨⟨⟨by omega, by omega⟩, A.2.2.1, by omega, by omega⟩, ?_⟩
  rintro _ rfl
  refine ⟨K, ?_⟩
  rintro _ rfl
  have M' := M.tr M' (fun b _ hb => hb)
  clear A M K
  have A := A'
  have M := M'
  clear A' M'
  generalize zS (zA T28 101 600) D 41 (zN T28) = T29 at *
  obtain ⟨A', M', K⟩ := A.step (fi := 42) (k := 101) (n := 420) (by omega) rfl rfl rfl
  refine ⟨⟨⟨by omega, by omega⟩, A.2.2.1, by omega, by omega⟩, ?_⟩
  rintro _ rfl
  refine ⟨K, ?_⟩
  rintro _ rfl
  have M' := M.tr M' (fun b _ hb => hb)
  clear A M K
  have A := A'
  have M := M'
  clear A' M'
  generalize zS (zA T29 101 420) D 42 (zN T29) = T30 at *
  obtain ⟨A', M', K⟩ := A.step (fi := 43) (k := 101) (n := 200) (by omega) rfl rfl rfl
  refine ⟨⟨⟨by omega, by omega⟩, A.2.2.1, by omega, by omega⟩, ?_⟩
  rintro _ rfl
  refine ⟨K, ?_⟩
  rintro _ rfl
  have M' := M.tr M' (fun b _ hb => hb)
  clear A M K
  have A := A'
  have M := M'
  clear A' M'
  generalize zS (zA T30 101 200) D 43 (zN T30) = T31 at *
  obtain ⟨A', M', K⟩ := A.step (fi := 44) (k := 101) (n := 49) (by omega) rfl rfl rfl
  refine ⟨⟨⟨by omega, by omega⟩, A.2.2.1, by omega, by omega⟩, ?_⟩
  rintro _ rfl
  refine ⟨K, ?_⟩
  rintro _ rfl
  have M' := M.tr M' (fun b _ hb => hb)
  clear A M K
  have A := A'
  have M := M'
  clear A' M'
  generalize zS (zA T31 101 49) D 44 (zN T31) = T32 at *
  obtain ⟨A', M', K⟩ := A.step (fi := 45) (k := 101) (n := 6720) (by omega) rfl rfl rfl
  refine ⟨⟨⟨by omega, by omega⟩, A.2.2.1, by omega, by omega⟩, ?_⟩
  rintro _ rfl
  refine ⟨K, ?_⟩
  rintro _ rfl
  have M' := M.tr M' (fun b _ hb => hb)
  clear A M K
  have A := A'
  have M := M'
  clear A' M'
  generalize zS (zA T32 101 6720) D 45 (zN T32) = T33 at *
  obtain ⟨A', M', K⟩ := A.step (fi := 46) (k := 101) (n := 80) (by omega) rfl rfl rfl
  refine ⟨⟨⟨by omega, by omega⟩, A.2.2.1, by omega, by omega⟩, ?_⟩
  rintro _ rfl
  refine ⟨K, ?_⟩
  rintro _ rfl
  have M' := M.tr M' (fun b _ hb => hb)
  clear A M K
  have A := A'
  have M := M'
  clear A' M'
  generalize zS (zA T33 101 80) D 46 (zN T33) = T34 at *
  refine ⟨A.2.1, ?_⟩
  rintro _ rfl
  have A' := A.sc (fi := 48) (v := -1) (by omega) (by decide)
  have M' := M.tr (Mg.zS T34 D 48 (-1)) (fun b _ hb => hb)
  clear A M
  have A := A'
  have M := M'
  clear A' M'
  generalize zS T34 D 48 (-1) = T35 at *
  obtain ⟨A', M', K⟩ := A.step (fi := 49) (k := 101) (n := 672) (by omega) rfl rfl rfl
  refine ⟨⟨⟨by omega, by omega⟩, A.2.2.1, by omega, by omega⟩, ?_⟩
  rintro _ rfl
  refine ⟨K, ?_⟩
  rintro _ rfl
  have M' := M.tr M' (fun b _ hb => hb)
  clear A M K
  have A := A'
  have M := M'
  clear A' M'
  generalize zS (zA T35 101 672) D 49 (zN T35) = T36 at *
  obtain ⟨A', M', K⟩ := A.step (fi := 50) (k := 101) (n := 384) (by omega) rfl rfl rfl
  refine ⟨⟨⟨by omega, by omega⟩, A.2.2.1, by omega, by omega⟩, ?_⟩
  rintro _ rfl
  refine ⟨K, ?_⟩
  rintro _ rfl
  have M' := M.tr M' (fun b _ hb => hb)
  clear A M K
  have A := A'
  have M := M'
  clear A' M'
  generalize zS (zA T36 101 384) D 50 (zN T36) = T37 at *
  obtain ⟨A', M', K⟩ := A.step (fi := 51) (k := 101) (n := 64) (by omega) rfl rfl rfl
  refine ⟨⟨⟨by omega, by omega⟩, A.2.2.1, by omega, by omega⟩, ?_⟩
  rintro _ rfl
  refine ⟨K, ?_⟩
  rintro _ rfl
  have M' := M.tr M' (fun b _ hb => hb)
  clear A M K
  have A := A'
  have M := M'
  clear A' M'
  generalize zS (zA T37 101 64) D 51 (zN T37) = T38 at *
  obtain ⟨A', M', K⟩ := A.step (fi := 52) (k := 101) (n := 64) (by omega) rfl rfl rfl
  refine ⟨⟨⟨by omega, by omega⟩, A.2.2.1, by omega, by omega⟩, ?_⟩
  rintro _ rfl
  refine ⟨K, ?_⟩
  rintro _ rfl
  have M' := M.tr M' (fun b _ hb => hb)
  clear A M K
  have A := A'
  have M := M'
  clear A' M'
  generalize zS (zA T38 101 64) D 52 (zN T38) = T39 at *
  obtain ⟨A', M', K⟩ := A.step (fi := 54) (k := 103) (n := 2401) (by omega) rfl rfl rfl
  refine ⟨⟨⟨by omega, by omega⟩, A.2.2.1, by omega, by omega⟩, ?_⟩
  rintro _ rfl
  refine ⟨K, ?_⟩
  rintro _ rfl
  have M' := M.tr M' (fun b _ hb => hb)
  clear A M K
  have A := A'
  have M := M'
  clear A' M'
  generalize zS (zA T39 103 2401) D 54 (zN T39) = T40 at *
  obtain ⟨A', M', K⟩ := A.step (fi := 55) (k := 101) (n := 4) (by omega) rfl rfl rfl
  refine ⟨⟨⟨by omega, by omega⟩, A.2.2.1, by omega, by omega⟩, ?_⟩
  rintro _ rfl
  refine ⟨K, ?_⟩
  rintro _ rfl
  have M' := M.tr M' (fun b _ hb => hb)
  clear A M K
  have A := A'
  have M := M'
  clear A' M'
  generalize zS (zA T40 101 4) D 55 (zN T40) = T41 at *
  obtain ⟨A', M', K⟩ := A.step (fi := 56) (k := 101) (n := 4) (by omega) rfl rfl rfl
  refine ⟨⟨⟨by omega, by omega⟩, A.2.2.1, by omega, by omega⟩, ?_⟩
  rintro _ rfl
  refine ⟨K, ?_⟩
  rintro _ rfl
  have M' := M.tr M' (fun b _ hb => hb)
  clear A M K
  have A := A'
  have M := M'
  clear A' M'
  generalize zS (zA T41 101 4) D 56 (zN T41) = T42 at *
  obtain ⟨A', M', K⟩ := A.step (fi := 57) (k := 101) (n := 700) (by omega) rfl rfl rfl
  refine ⟨⟨⟨by omega, by omega⟩, A.2.2.1, by omega, by omega⟩, ?_⟩
  rintro _ rfl
  refine ⟨K, ?_⟩
  rintro _ rfl
  have M' := M.tr M' (fun b _ hb => hb)
  clear A M K
  have A := A'
  have M := M'
  clear A' M'
  generalize zS (zA T42 101 700) D 57 (zN T42) = T43 at *
  obtain ⟨A', M', K⟩ := A.step (fi := 60) (k := 102) (n := 40) (by omega) rfl rfl rfl
  refine ⟨⟨⟨by omega, by omega⟩, A.2.2.1, by omega, by omega⟩, ?_⟩
  rintro _ rfl
  refine ⟨K, ?_⟩
  rintro _ rfl
  have M' := M.tr M' (fun b _ hb => hb)
  clear A M K
  have A := A'
  have M := M'
  clear A' M'
  generalize zS (zA T43 102 40) D 60 (zN T43) = T44 at *
  obtain ⟨A', M', K⟩ := A.step (fi := 64) (k := 101) (n := 49) (by omega) rfl rfl rfl
  refine ⟨⟨⟨by omega, by omega⟩, A.2.2.1, by omega, by omega⟩, ?_⟩
  rintro _ rfl
  refine ⟨K, ?_⟩
  rintro _ rfl
  have M' := M.tr M' (fun b _ hb => hb)
  clear A M K
  have A := A'
  have M := M'
  clear A' M'
  generalize zS (zA T44 101 49) D 64 (zN T44) = T45 at *
  obtain ⟨A', M', K⟩ := A.step (fi := 65) (k := 101) (n := 200) (by omega) rfl rfl rfl
  refine ⟨⟨⟨by omega, by omega⟩, A.2.2.1, by omega, by omega⟩, ?_⟩
  rintro _ rfl
  refine ⟨K, ?_⟩
  rintro _ rfl
  have M' := M.tr M' (fun b _ hb => hb)
  clear A M K
  have A := A'
  have M := M'
  clear A' M'
  generalize zS (zA T45 101 200) D 65 (zN T45) = T46 at *
  refine ⟨A.2.1, ?_⟩
  rintro _ rfl
  have A' := A.sc (fi := 5) (v := 0) (by omega) (by decide)
  have M' := M.tr (Mg.zS T46 D 5 (0)) (fun b _ hb => hb)
  clear A M
  have A := A'
  have M := M'
  clear A' M'
  generalize zS T46 D 5 (0) = T47 at *
  refine H T47 M ⟨A.1, A.2.1, A.2.2.1, A.2.2.2.1, fun i hi => ?_⟩
  rw [A.2.2.2.2 i hi]
  unfold mdC
  dsimp only
  grind
def DW (S : Hp) (D : Int) : Prop := zK S D = 12 ∧ ∀ j : Nat, j < 44 → zG S D (mdF j) = D + 1 + j ∧ zK S (D + 1 + j) = mdK j ∧ zL S (D + 1 + j) = mdN j
theorem RwM.dw {T : Hp} {G : Int} {c : Int → Int} (h : RwM T G 44 c) : DW T G := ⟨h.2.1, fun j hj => ⟨(h.2.2.2.1 j hj).1, (h.2.2.2.1 j hj).2.1, (h.2.2.2.1 j hj).2.2.1⟩⟩
theorem DW.keep {M : Int → Prop} {S S' : Hp} {D : Int} (h : DW S D) (hm : Md M S S') (hM : ∀ j, j < 44 → zG S' D (mdF j) = zG S D (mdF j)) : DW S' D := ⟨(hm.K D).trans h.1, fun j hj => ⟨(hM j hj).trans (h.2 j hj).1, (hm.K _).trans (h.2 j hj).2.1, (hm.L _).trans (h.2 j hj).2.2⟩⟩
theorem DW.md {M : Int → Prop} {S S' : Hp} {D : Int} (h : DW S D) (hm : Md M S S') (hM : ¬ M D) : DW S' D := h.keep hm (fun _ _ => hm.G hM _)
theorem DW.sc {S : Hp} {D fi v : Int} (h : DW S D) (hi : ∀ j, j < 44 → mdF j ≠ fi) : DW (zS S D fi v) D := h.keep (Md.zS S D fi v) (fun j hj => zG_zS_ne _ (Or.inr (hi j hj)))
theorem DW.zR {S : Hp} {D a : Int} {f : Int → Int} (h : DW S D) (ha : a ≠ D) : DW (zR S a f) D := h.md (Md.zR S a f) (fun e => ha e.symm)
theorem DW.zSr {S : Hp} {D a i v : Int} (h : DW S D) (ha : a ≠ D) : DW (zS S a i v) D := h.md (Md.zS S a i v) (fun e => ha e.symm)
theorem DW.x_f {S : Hp} {D : Int} (h : DW S D) : zG S D 3 = D + 1 ∧ zK S (D + 1) = 101 ∧ zL S (D + 1) = 49 := by
  have q := h.2 0 (by decide)
  rw [show D + 1 + ((0 : Nat) : Int) = D + 1 by omega] at q
  exact q
theorem DW.x_disc {S : Hp} {D : Int} (h : DW S D) : zG S D 4 = D + 2 ∧ zK S (D + 2) = 101 ∧ zL S (D + 2) = 200 := by
  have q := h.2 1 (by decide)
  rw [show D + 1 + ((1 : Nat) : Int) = D + 2 by omega] at q
  exact q
theorem DW.x_holds {S : Hp} {D : Int} (h : DW S D) : zG S D 6 = D + 3 ∧ zK S (D + 3) = 101 ∧ zL S (D + 3) = 6 := by
  have q := h.2 2 (by decide)
  rw [show D + 1 + ((2 : Nat) : Int) = D + 3 by omega] at q
  exact q
theorem DW.x_parts {S : Hp} {D : Int} (h : DW S D) : zG S D 7 = D + 4 ∧ zK S (D + 4) = 101 ∧ zL S (D + 4) = 744 := by
  have q := h.2 3 (by decide)
  rw [show D + 1 + ((3 : Nat) : Int) = D + 4 by omega] at q
  exact q
theorem DW.x_under {S : Hp} {D : Int} (h : DW S D) : zG S D 8 = D + 5 ∧ zK S (D + 5) = 101 ∧ zL S (D + 5) = 6 := by
  have q := h.2 4 (by decide)
  rw [show D + 1 + ((4 : Nat) : Int) = D + 5 by omega] at q
  exact q
theorem DW.x_places {S : Hp} {D : Int} (h : DW S D) : zG S D 9 = D + 6 ∧ zK S (D + 6) = 101 ∧ zL S (D + 6) = 6 := by
  have q := h.2 5 (by decide)
  rw [show D + 1 + ((5 : Nat) : Int) = D + 6 by omega] at q
  exact q
theorem DW.x_sorts {S : Hp} {D : Int} (h : DW S D) : zG S D 10 = D + 7 ∧ zK S (D + 7) = 101 ∧ zL S (D + 7) = 6 := by
  have q := h.2 6 (by decide)
  rw [show D + 1 + ((6 : Nat) : Int) = D + 7 by omega] at q
  exact q
theorem DW.x_sizes {S : Hp} {D : Int} (h : DW S D) : zG S D 11 = D + 8 ∧ zK S (D + 8) = 101 ∧ zL S (D + 8) = 6 := by
  have q := h.2 7 (by decide)
  rw [show D + 1 + ((7 : Nat) : Int) = D + 8 by omega] at q
  exact q
theorem DW.x_numbers {S : Hp} {D : Int} (h : DW S D) : zG S D 12 = D + 9 ∧ zK S (D + 9) = 102 ∧ zL S (D + 9) = 240 := by
  have q := h.2 8 (by decide)
  rw [show D + 1 + ((8 : Nat) : Int) = D + 9 by omega] at q
  exact q
theorem DW.x_bookParts {S : Hp} {D : Int} (h : DW S D) : zG S D 13 = D + 10 ∧ zK S (D + 10) = 101 ∧ zL S (D + 10) = 868 := by
  have q := h.2 9 (by decide)
  rw [show D + 1 + ((9 : Nat) : Int) = D + 10 by omega] at q
  exact q
theorem DW.x_bookUnder {S : Hp} {D : Int} (h : DW S D) : zG S D 14 = D + 11 ∧ zK S (D + 11) = 101 ∧ zL S (D + 11) = 7 := by
  have q := h.2 10 (by decide)
  rw [show D + 1 + ((10 : Nat) : Int) = D + 11 by omega] at q
  exact q
theorem DW.x_bookPlaces {S : Hp} {D : Int} (h : DW S D) : zG S D 15 = D + 12 ∧ zK S (D + 12) = 101 ∧ zL S (D + 12) = 7 := by
  have q := h.2 11 (by decide)
  rw [show D + 1 + ((11 : Nat) : Int) = D + 12 by omega] at q
  exact q
theorem DW.x_tape {S : Hp} {D : Int} (h : DW S D) : zG S D 17 = D + 13 ∧ zK S (D + 13) = 101 ∧ zL S (D + 13) = 100 := by
  have q := h.2 12 (by decide)
  rw [show D + 1 + ((12 : Nat) : Int) = D + 13 by omega] at q
  exact q
theorem DW.x_sums {S : Hp} {D : Int} (h : DW S D) : zG S D 23 = D + 14 ∧ zK S (D + 14) = 101 ∧ zL S (D + 14) = 245 := by
  have q := h.2 13 (by decide)
  rw [show D + 1 + ((13 : Nat) : Int) = D + 14 by omega] at q
  exact q
theorem DW.x_terms {S : Hp} {D : Int} (h : DW S D) : zG S D 24 = D + 15 ∧ zK S (D + 15) = 101 ∧ zL S (D + 15) = 245 := by
  have q := h.2 14 (by decide)
  rw [show D + 1 + ((14 : Nat) : Int) = D + 15 by omega] at q
  exact q
theorem DW.x_less {S : Hp} {D : Int} (h : DW S D) : zG S D 25 = D + 16 ∧ zK S (D + 16) = 103 ∧ zL S (D + 16) = 5 := by
  have q := h.2 15 (by decide)
  rw [show D + 1 + ((15 : Nat) : Int) = D + 16 by omega] at q
  exact q
theorem DW.x_timesAt {S : Hp} {D : Int} (h : DW S D) : zG S D 26 = D + 17 ∧ zK S (D + 17) = 101 ∧ zL S (D + 17) = 5 := by
  have q := h.2 16 (by decide)
  rw [show D + 1 + ((16 : Nat) : Int) = D + 17 by omega] at q
  exact q
theorem DW.x_power {S : Hp} {D : Int} (h : DW S D) : zG S D 29 = D + 18 ∧ zK S (D + 18) = 101 ∧ zL S (D + 18) = 49 := by
  have q := h.2 17 (by decide)
  rw [show D + 1 + ((17 : Nat) : Int) = D + 18 by omega] at q
  exact q
theorem DW.x_other {S : Hp} {D : Int} (h : DW S D) : zG S D 30 = D + 19 ∧ zK S (D + 19) = 101 ∧ zL S (D + 19) = 49 := by
  have q := h.2 18 (by decide)
  rw [show D + 1 + ((18 : Nat) : Int) = D + 19 by omega] at q
  exact q
theorem DW.x_result {S : Hp} {D : Int} (h : DW S D) : zG S D 31 = D + 20 ∧ zK S (D + 20) = 101 ∧ zL S (D + 20) = 49 := by
  have q := h.2 19 (by decide)
  rw [show D + 1 + ((19 : Nat) : Int) = D + 20 by omega] at q
  exact q
theorem DW.x_terms2 {S : Hp} {D : Int} (h : DW S D) : zG S D 32 = D + 21 ∧ zK S (D + 21) = 101 ∧ zL S (D + 21) = 49 := by
  have q := h.2 20 (by decide)
  rw [show D + 1 + ((20 : Nat) : Int) = D + 21 by omega] at q
  exact q
theorem DW.x_fresh {S : Hp} {D : Int} (h : DW S D) : zG S D 35 = D + 22 ∧ zK S (D + 22) = 101 ∧ zL S (D + 22) = 49 := by
  have q := h.2 21 (by decide)
  rw [show D + 1 + ((21 : Nat) : Int) = D + 22 by omega] at q
  exact q
theorem DW.x_entry {S : Hp} {D : Int} (h : DW S D) : zG S D 36 = D + 23 ∧ zK S (D + 23) = 101 ∧ zL S (D + 23) = 960 := by
  have q := h.2 22 (by decide)
  rw [show D + 1 + ((22 : Nat) : Int) = D + 23 by omega] at q
  exact q
theorem DW.x_head {S : Hp} {D : Int} (h : DW S D) : zG S D 37 = D + 24 ∧ zK S (D + 24) = 101 ∧ zL S (D + 24) = 1000 := by
  have q := h.2 23 (by decide)
  rw [show D + 1 + ((23 : Nat) : Int) = D + 24 by omega] at q
  exact q
theorem DW.x_equation {S : Hp} {D : Int} (h : DW S D) : zG S D 38 = D + 25 ∧ zK S (D + 25) = 101 ∧ zL S (D + 25) = 1000 := by
  have q := h.2 24 (by decide)
  rw [show D + 1 + ((24 : Nat) : Int) = D + 25 by omega] at q
  exact q
theorem DW.x_longer {S : Hp} {D : Int} (h : DW S D) : zG S D 39 = D + 26 ∧ zK S (D + 26) = 101 ∧ zL S (D + 26) = 1000 := by
  have q := h.2 25 (by decide)
  rw [show D + 1 + ((25 : Nat) : Int) = D + 26 by omega] at q
  exact q
theorem DW.x_column {S : Hp} {D : Int} (h : DW S D) : zG S D 40 = D + 27 ∧ zK S (D + 27) = 101 ∧ zL S (D + 27) = 600 := by
  have q := h.2 26 (by decide)
  rw [show D + 1 + ((26 : Nat) : Int) = D + 27 by omega] at q
  exact q
theorem DW.x_column2 {S : Hp} {D : Int} (h : DW S D) : zG S D 41 = D + 28 ∧ zK S (D + 28) = 101 ∧ zL S (D + 28) = 600 := by
  have q := h.2 27 (by decide)
  rw [show D + 1 + ((27 : Nat) : Int) = D + 28 by omega] at q
  exact q
theorem DW.x_powers {S : Hp} {D : Int} (h : DW S D) : zG S D 42 = D + 29 ∧ zK S (D + 29) = 101 ∧ zL S (D + 29) = 420 := by
  have q := h.2 28 (by decide)
  rw [show D + 1 + ((28 : Nat) : Int) = D + 29 by omega] at q
  exact q
theorem DW.x_divided {S : Hp} {D : Int} (h : DW S D) : zG S D 43 = D + 30 ∧ zK S (D + 30) = 101 ∧ zL S (D + 30) = 200 := by
  have q := h.2 29 (by decide)
  rw [show D + 1 + ((29 : Nat) : Int) = D + 30 by omega] at q
  exact q
theorem DW.x_moved {S : Hp} {D : Int} (h : DW S D) : zG S D 44 = D + 31 ∧ zK S (D + 31) = 101 ∧ zL S (D + 31) = 49 := by
  have q := h.2 30 (by decide)
  rw [show D + 1 + ((30 : Nat) : Int) = D + 31 by omega] at q
  exact q
theorem DW.x_digits {S : Hp} {D : Int} (h : DW S D) : zG S D 45 = D + 32 ∧ zK S (D + 32) = 101 ∧ zL S (D + 32) = 6720 := by
  have q := h.2 31 (by decide)
  rw [show D + 1 + ((31 : Nat) : Int) = D + 32 by omega] at q
  exact q
theorem DW.x_depths {S : Hp} {D : Int} (h : DW S D) : zG S D 46 = D + 33 ∧ zK S (D + 33) = 101 ∧ zL S (D + 33) = 80 := by
  have q := h.2 32 (by decide)
  rw [show D + 1 + ((32 : Nat) : Int) = D + 33 by omega] at q
  exact q
theorem DW.x_lau {S : Hp} {D : Int} (h : DW S D) : zG S D 49 = D + 34 ∧ zK S (D + 34) = 101 ∧ zL S (D + 34) = 672 := by
  have q := h.2 33 (by decide)
  rw [show D + 1 + ((33 : Nat) : Int) = D + 34 by omega] at q
  exact q
theorem DW.x_coord {S : Hp} {D : Int} (h : DW S D) : zG S D 50 = D + 35 ∧ zK S (D + 35) = 101 ∧ zL S (D + 35) = 384 := by
  have q := h.2 34 (by decide)
  rw [show D + 1 + ((34 : Nat) : Int) = D + 35 by omega] at q
  exact q
theorem DW.x_first {S : Hp} {D : Int} (h : DW S D) : zG S D 51 = D + 36 ∧ zK S (D + 36) = 101 ∧ zL S (D + 36) = 64 := by
  have q := h.2 35 (by decide)
  rw [show D + 1 + ((35 : Nat) : Int) = D + 36 by omega] at q
  exact q
theorem DW.x_second {S : Hp} {D : Int} (h : DW S D) : zG S D 52 = D + 37 ∧ zK S (D + 37) = 101 ∧ zL S (D + 37) = 64 := by
  have q := h.2 36 (by decide)
  rw [show D + 1 + ((36 : Nat) : Int) = D + 37 by omega] at q
  exact q
theorem DW.x_nil {S : Hp} {D : Int} (h : DW S D) : zG S D 54 = D + 38 ∧ zK S (D + 38) = 103 ∧ zL S (D + 38) = 2401 := by
  have q := h.2 37 (by decide)
  rw [show D + 1 + ((37 : Nat) : Int) = D + 38 by omega] at q
  exact q
theorem DW.x_nilTop {S : Hp} {D : Int} (h : DW S D) : zG S D 55 = D + 39 ∧ zK S (D + 39) = 101 ∧ zL S (D + 39) = 4 := by
  have q := h.2 38 (by decide)
  rw [show D + 1 + ((38 : Nat) : Int) = D + 39 by omega] at q
  exact q
theorem DW.x_gain {S : Hp} {D : Int} (h : DW S D) : zG S D 56 = D + 40 ∧ zK S (D + 40) = 101 ∧ zL S (D + 40) = 4 := by
  have q := h.2 39 (by decide)
  rw [show D + 1 + ((39 : Nat) : Int) = D + 40 by omega] at q
  exact q
theorem DW.x_work {S : Hp} {D : Int} (h : DW S D) : zG S D 57 = D + 41 ∧ zK S (D + 41) = 101 ∧ zL S (D + 41) = 700 := by
  have q := h.2 40 (by decide)
  rw [show D + 1 + ((40 : Nat) : Int) = D + 41 by omega] at q
  exact q
theorem DW.x_lifted {S : Hp} {D : Int} (h : DW S D) : zG S D 60 = D + 42 ∧ zK S (D + 42) = 102 ∧ zL S (D + 42) = 40 := by
  have q := h.2 41 (by decide)
  rw [show D + 1 + ((41 : Nat) : Int) = D + 42 by omega] at q
  exact q
theorem DW.x_keptF {S : Hp} {D : Int} (h : DW S D) : zG S D 64 = D + 43 ∧ zK S (D + 43) = 101 ∧ zL S (D + 43) = 49 := by
  have q := h.2 42 (by decide)
  rw [show D + 1 + ((42 : Nat) : Int) = D + 43 by omega] at q
  exact q
theorem DW.x_keptDisc {S : Hp} {D : Int} (h : DW S D) : zG S D 65 = D + 44 ∧ zK S (D + 44) = 101 ∧ zL S (D + 44) = 200 := by
  have q := h.2 43 (by decide)
  rw [show D + 1 + ((43 : Nat) : Int) = D + 44 by omega] at q
  exact q
