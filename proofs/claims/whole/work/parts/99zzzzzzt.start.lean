/-! The start: both objects made. -/
theorem co_g {S S' : Hp} (h : CO S) (m : Mg (fun x => 485 ≤ x) S S') (hN : 485 ≤ zN S) : CO S' := by
  obtain ⟨a1, a2, a3, a4, a5, a6, a7, a8, a9, a10, a11, a12, a13⟩ := h
  exact ⟨a1.keepg m (by omega) (by omega) (by omega), a2.keepg m (by omega) (fun x x0 x1 => by omega), a3.keepg m (by omega) (fun x x0 x1 => by omega), a4.keepg m (by omega) (fun x x0 x1 => by omega), a5.keepg m (by omega) (fun x x0 x1 => by omega), a6.keepg m (by omega) (fun x x0 x1 => by omega), a7.keepg m (by omega) (fun x x0 x1 => by omega), a8.keepg m (by omega) (fun x x0 x1 => by omega), a9.keepg m (by omega) (fun x x0 x1 => by omega), a10.keepg m (by omega) (by omega), fun c c0 c1 => (a11 c c0 c1).keepg m (by omega) (by omega), fun s s0 s1 => (a12 s s0 s1).keepg m (by omega) (fun x x0 x1 => by omega), fun k k0 k1 => (a13 k k0 k1).keepg m (by omega) (fun x x0 x1 => by omega)⟩
theorem cp_g {S S' : Hp} {v u : Int} (h : CP S v u) (m : Mg (fun x => 485 ≤ x) S S') (hN : 485 ≤ zN S) : CP S' v u := by
  obtain ⟨a1, a2, a3, a4, a5, a6, a7, a8, a9, a10, a11, a12, a13, a14, a15, a16, a17, a18, a19, a20⟩ := h
  have e : ∀ i, zG S' 1 i = zG S 1 i := fun i => m.G (by omega) (by omega) i
  exact ⟨by rw [m.K (by omega)]; exact a1, by rw [e]; exact a2, by rw [e]; exact a3, by rw [e]; exact a4, a5, by rw [e]; exact a6, by rw [e]; exact a7, by rw [e]; exact a8, by rw [e]; exact a9, by rw [e]; exact a10, by rw [e]; exact a11, by rw [e]; exact a12, by rw [e]; exact a13, by rw [e]; exact a14, by rw [m.K (by omega), m.L (by omega)]; exact a15, by rw [m.K (by omega), m.L (by omega)]; exact a16, by rw [m.K (by omega), m.L (by omega)]; exact a17, fun c c0 c1 => by rw [m.G (by omega) (by omega)]; exact a18 c c0 c1, fun c c0 c1 => by rw [m.G (by omega) (by omega)]; exact a19 c c0 c1, fun c c0 c1 => by rw [m.G (by omega) (by omega)]; exact a20 c c0 c1⟩
theorem rel_start {S S3 S4 : Hp} (cn : CN S) (hN : zN S = 485) (m : Mg (fun x => 485 ≤ x) S S4) (rw3 : RwM S3 485 44 mdC) (m4 : Mg (fun _ => False) S3 S4) : Rel S4 485 := by
  obtain ⟨cp, co, ⟨c0, c1, c2⟩, t0, i4, b8, t14, alz, pl, sh⟩ := cn
  have N3 : zN S3 = 530 := rw3.1.trans (by omega)
  have g : ∀ x i, x < 485 → zG S4 x i = zG S x i := fun x i hx => m.G (by omega) (by omega) i
  have h : ∀ x i, x < 530 → zG S4 x i = zG S3 x i := fun x i hx => m4.G (by omega) (fun w => w) i
  have dw3 := rw3.dw
  have dw : DW S4 485 := ⟨by rw [m4.K (by omega)]; exact dw3.1, fun j hj => ⟨by rw [h _ _ (by omega)]; exact (dw3.2 j hj).1, by rw [m4.K (by omega)]; exact (dw3.2 j hj).2.1, by rw [m4.L (by omega)]; exact (dw3.2 j hj).2.2⟩⟩
  have d : ∀ i, (∀ j, j < 44 → mdF j ≠ i) → zG S4 485 i = mdC i := fun i hi => by
    rw [h _ _ (by omega)]
    exact rw3.2.2.2.2 i hi
  have z : ∀ x i, 486 ≤ x → x ≤ 529 → zG S4 x i = 0 := fun x i x0 x1 => by
    rw [h _ _ (by omega)]
    have := (rw3.2.2.2.1 (x - 486).toNat (by omega)).2.2.2 i
    rw [show (485 : Int) + 1 + ((x - 486).toNat : Nat) = x by omega] at this
    exact this
  have d18 : zG S4 485 18 = 0 := (d 18 (by decide)).trans (by decide)
  have d61 : zG S4 485 61 = 0 := (d 61 (by decide)).trans (by decide)
  have i44 : zG S4 1 4 = 0 := (g _ _ (by omega)).trans i4
  refine rel_fresh (F := fun _ => 0) (Δ := fun _ => 0) (kno_zero (q := 3) (Or.inr (Or.inl rfl))) (cp_g cp m (by omega)) (co_g co m (by omega)) (cur_zero ((g _ _ (by omega)).trans c0) ((g _ _ (by omega)).trans c1)) (fun c c0 c1 => ⟨fun e e0 e1 => ?_, ?_, ?_⟩) ?_ dw ((d 0 (by decide)).trans (by decide)) ((d 1 (by decide)).trans (by decide)) ((d 2 (by decide)).trans (by decide)) (fun K j i x K0 K1 j0 ji i1 x0 x1 => z _ _ (by omega) (by omega)) ((d 48 (by decide)).trans (by decide)) (fun w => absurd rfl w) ⟨?_, by rw [d18]; omega, fun i i0 i1 => by rw [d18] at i1; omega⟩ ⟨by rw [i44]; exact Or.inl rfl, fun _ => d61, fun w => by rw [i44] at w; omega⟩ (fun t t0 t1 => ?_) ((g _ _ (by omega)).trans b8) ((d 16 (by decide)).trans (by decide)) ((g _ _ (by omega)).trans t14)
  · rw [g _ _ (by omega)]
    exact (pl c c0 c1).1 e e0 e1
  · rw [g _ _ (by omega)]
    exact (pl c c0 c1).2.1
  · rw [g _ _ (by omega)]
    exact (pl c c0 c1).2.2
  · have a : ∀ x j, 241 ≤ x → x ≤ 254 → zG S4 x j = 0 := fun x j x0 x1 => (g _ _ (by omega)).trans (alz x j x0 x1)
    refine ⟨fun x _ _ => ?_, fun x _ _ => ?_, fun x _ _ => ?_, fun x _ _ => ?_, fun j _ _ => ?_, fun x _ _ => ?_, fun x _ _ => ?_⟩
    · rw [a _ _ (by omega) (by omega)]
      omega
    · rw [a _ _ (by omega) (by omega)]
      omega
    · rw [a _ _ (by omega) (by omega)]
      omega
    · rw [a _ _ (by omega) (by omega)]
      omega
    · rw [a _ _ (by omega) (by omega)]
      exact Or.inl rfl
    · rw [a _ _ (by omega) (by omega)]
      omega
    · rw [a _ _ (by omega) (by omega)]
      omega
  · rw [d18, g _ _ (by omega)]
    exact t0
  · obtain ⟨s0, s2, s3⟩ := sh t t0 t1
    have z3 : zG S4 (485 + 3) t = 0 := z _ _ (by omega) (by omega)
    have z7 : zG S4 (485 + 7) t = 0 := z _ _ (by omega) (by omega)
    have z8 : zG S4 (485 + 8) t = 0 := z _ _ (by omega) (by omega)
    refine ⟨?_, Or.inl z3, ?_, Or.inl z7, ?_, by rw [z8]; omega, fun w => by rw [z3] at w; omega, fun w => by rw [z3] at w; omega⟩
    · rw [g _ _ (by omega), z3]
      exact s0
    · rw [g _ _ (by omega), z7]
      exact s2
    · rw [g _ _ (by omega), z8]
      exact s3
