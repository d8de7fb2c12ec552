/-! Calls that write the tape or a shelf's row: feed, wipe, clear, row, put, copy. -/
theorem rel_sh1 {S S' : Hp} {D v u p n g s : Int} {F Δ : Int → Int} (hD : 485 ≤ D) (kn : KNO p n g F Δ) (cl : CLS S v u p n g F Δ) (md : MDL S D p n g F Δ) (re : RES S D p n F) (hs : 0 ≤ s ∧ s < 6) (m : Md (fun x => x = 343 + 12 * s ∨ x = 354 + 12 * s ∨ x = D + 3 ∨ x = D + 7 ∨ x = D + 8 ∨ x = D + 9 ∨ x = D + 42) S S') (sw : SW S' (343 + 12 * s)) (h1 : SH1 S' D p n s) (e : ∀ t, 0 ≤ t → t < 6 → t ≠ s → zG S' (D + 3) t = zG S (D + 3) t ∧ zG S' (D + 7) t = zG S (D + 7) t ∧ zG S' (D + 8) t = zG S (D + 8) t ∧ ∀ i, 0 ≤ i → i < 40 → zG S' (D + 9) (40 * t + i) = zG S (D + 9) (40 * t + i)) (h3 : zG S' (D + 3) s = 1 → zG S (D + 3) s = 1) : Rel S' D := by
  have mw : Md (WRM D) S S' := m.wide (fun x hx => by unfold WRM; omega)
  have dw : DW S' D := md.1.md m (by omega)
  have o : ∀ i, zG S' D i = zG S D i := fun i => m.G (by omega) i
  have q1 : ∀ i, zG S' 1 i = zG S 1 i := fun i => m.G (by omega) i
  obtain ⟨tp, sh, bk, im, tl⟩ := re
  refine ⟨v, u, p, n, g, F, Δ, kn, cls_wr hD kn cl mw (fun i _ _ _ _ => q1 i) (cl.rd.keep m (fun i _ => m.G (by omega) i) (by omega)) (cl.2.1.2.2.2.1.keep m (fun x x0 x1 => by omega)) (cl.2.1.2.2.2.2.1.keep m (fun x x0 x1 => by omega)) (cl.2.1.2.2.2.2.2.1.keep m (fun x x0 x1 => by omega)) (fun t t0 t1 => ?_) (fun k k0 k1 => (cl.bw k0 k1).keep m (fun x x0 x1 => by omega)), mdl_wr hD md mw dw (fun i _ => o i), tp.keep m (by omega) (by omega) (by omega) (o _), fun t t0 t1 => ?_, bk.keep m (q1 _) (fun x x0 x1 => by omega) (by omega) (by omega) (by omega) (o _), im.keep m (q1 _) (fun x x0 x1 => by omega) (by omega) (by omega) (fun i _ => o i), tl.keep kn.n4 m (fun x hx => by omega) (fun i _ => q1 i) (fun t t0 t1 _ z => ?_)⟩
  · by_cases q : t = s
    · rw [q]
      exact sw
    · exact (cl.sw t0 t1).keep m (fun x x0 x1 => by omega)
  · by_cases q : t = s
    · rw [q]
      exact h1
    · obtain ⟨e3, e7, e8, e9⟩ := e t t0 t1 q
      exact (sh t t0 t1).keep m (fun x x0 x1 => by omega) ⟨e3, m.G (by omega) _, m.G (by omega) _, e7, e8, e9, fun i _ _ => m.G (by omega) _⟩
  · refine ⟨?_, m.G (by omega) _, m.G (by omega) _, fun i _ _ => m.G (by omega) _⟩
    by_cases q : t = s
    · rw [q] at z ⊢
      exact h3 z
    · rw [← (e t t0 t1 q).1]
      exact z
theorem rel_tape {S S' : Hp} {D v u p n g : Int} {F Δ : Int → Int} (hD : 485 ≤ D) (kn : KNO p n g F Δ) (cl : CLS S v u p n g F Δ) (md : MDL S D p n g F Δ) (re : RES S D p n F) (m : Md (fun x => x = 2 ∨ x = 3 ∨ x = D ∨ x = D + 13) S S') (rd : RDW S' 2) (dw : DW S' D) (o : ∀ i, i ≠ 18 → zG S' D i = zG S D i) (tp : TPE S' D) : Rel S' D := by
  have mw : Md (WRM D) S S' := m.wide (fun x hx => by unfold WRM; omega)
  have q1 : ∀ i, zG S' 1 i = zG S 1 i := fun i => m.G (by omega) i
  obtain ⟨-, sh, bk, im, tl⟩ := re
  refine ⟨v, u, p, n, g, F, Δ, kn, cls_wr hD kn cl mw (fun i _ _ _ _ => q1 i) rd (cl.2.1.2.2.2.1.keep m (fun x x0 x1 => by omega)) (cl.2.1.2.2.2.2.1.keep m (fun x x0 x1 => by omega)) (cl.2.1.2.2.2.2.2.1.keep m (fun x x0 x1 => by omega)) (fun t t0 t1 => (cl.sw t0 t1).keep m (fun x x0 x1 => by omega)) (fun k k0 k1 => (cl.bw k0 k1).keep m (fun x x0 x1 => by omega)), mdl_wr hD md mw dw (fun i hi => o i (by omega)), tp, fun t t0 t1 => (sh t t0 t1).keep m (fun x x0 x1 => by omega) ⟨m.G (by omega) _, m.G (by omega) _, m.G (by omega) _, m.G (by omega) _, m.G (by omega) _, fun i _ _ => m.G (by omega) _, fun i _ _ => m.G (by omega) _⟩, bk.keep m (q1 _) (fun x x0 x1 => by omega) (by omega) (by omega) (by omega) (o _ (by omega)), im.keep m (q1 _) (fun x x0 x1 => by omega) (by omega) (by omega) (fun i hi => o i (by omega)), tl.keep kn.n4 m (fun x hx => by omega) (fun i _ => q1 i) (fun t t0 t1 _ z => ?_)⟩
  rw [m.G (by omega)] at z
  exact ⟨z, m.G (by omega) _, m.G (by omega) _, fun i _ _ => m.G (by omega) _⟩
theorem r_wipe {d : Nat} {S : Hp} {D : Int} (hD : 485 ≤ D) (R : Rel S D) : TW (d + 20) 100 172 [] S D := by
  obtain ⟨v, u, p, n, g, F, Δ, kn, cl, md, re⟩ := R
  unfold TW
  apply w_Crc_wipe_0
  rw [cl.1.2.1]
  refine ⟨cl.1.1, cl.rd.1, ?_⟩
  rintro _ rfl
  refine ⟨cl.1.1, cl.rd.1, ?_⟩
  rintro _ rfl
  have m1 : Md (fun x => x = 2 ∨ x = 3 ∨ x = D ∨ x = D + 13) S (zS S 2 1 0) := (Md.zS _ _ _ _).wide (fun x hx => by omega)
  have m2 : Md (fun x => x = 2 ∨ x = 3 ∨ x = D ∨ x = D + 13) (zS S 2 1 0) (zS (zS S 2 1 0) D 18 0) := (Md.zS _ _ _ _).wide (fun x hx => by omega)
  have dw1 : DW (zS S 2 1 0) D := md.1.md (Md.zS _ 2 1 0) (by omega)
  have mi : MID S (zS S 2 1 0) D := mid_md m1 cl.1.1 md.1.1 (by omega)
  refine ⟨_, rfl, mi, m_wipe dw1 ⟨by rw [zG_zS_ne _ (Or.inl (by omega)), re.1.1], mid_md m2 mi.1 mi.2.1 (by omega), ?_⟩⟩
  refine rel_tape hD kn cl md re (m1.tr m2) (cl.rd.keep (m1.tr m2) (fun i hi => ?_) (by omega)) (dw1.sc (by decide)) (fun i hi => ?_) ⟨?_, ?_, ?_⟩
  · rw [zG_zS_ne _ (Or.inl (by omega)), zG_zS_ne _ (Or.inr (by omega))]
  · rw [zG_zS_ne _ (Or.inr hi), zG_zS_ne _ (Or.inl (by omega))]
  · rw [zG_zS_ne _ (Or.inl (by omega)), zG_zS_at, zG_zS_at]
  · rw [zG_zS_at]
    omega
  · intro i i0 i1
    rw [zG_zS_at] at i1
    omega
theorem band255 {x : Int} : 0 ≤ bAnd x 255 ∧ bAnd x 255 ≤ 255 := by
  unfold bAnd
  have hn : (Int32.ofInt x &&& Int32.ofInt 255).toBitVec.toNat = (x % 4294967296).toNat % 256 := by
    show ((BitVec.ofInt 32 x) &&& (BitVec.ofInt 32 255)).toNat = _
    rw [BitVec.toNat_and, BitVec.toNat_ofInt, BitVec.toNat_ofInt]
    show (x % 4294967296).toNat &&& 255 = _
    exact Nat.and_two_pow_sub_one_eq_mod _ 8
  have e : (Int32.ofInt x &&& Int32.ofInt 255).toInt = ((x % 4294967296).toNat % 256 : Nat) := by
    show BitVec.toInt (Int32.ofInt x &&& Int32.ofInt 255).toBitVec = _
    rw [BitVec.toInt_eq_toNat_of_lt (by rw [hn]; omega), hn]
  rw [e]
  omega
theorem byF_b {w i : Int} : 0 ≤ byF w i ∧ byF w i ≤ 255 := by
  unfold byF
  exact band255
theorem r_feed {d : Nat} {S : Hp} {D k w : Int} (hD : 485 ≤ D) (R : Rel S D) : TW (d + 20) 99 171 [(0, k), (0, w)] S D := by
  obtain ⟨v, u, p, n, g, F, Δ, kn, cl, md, re⟩ := R
  have id0 := rel_id kn cl md re
  obtain ⟨t1, t2, t3⟩ := re.1
  unfold TW
  apply w_Crc_feed_0
  rw [cl.1.2.1]
  refine ⟨fun z => ?_, fun z => ⟨cl.1.1, cl.rd.1, s_append cl.rd t1 t2 (by omega) (fun big => ?_) (fun fit S1 m1 rd1 o1 l1 b1 => ?_)⟩⟩
  · exact ⟨_, rfl, id0.1, m_feed md.1 rfl t2 (fun _ => ⟨rfl, id0⟩) (fun _ _ => by omega) (fun _ _ => by omega)⟩
  · refine ⟨_, rfl, fun q => absurd rfl q, ?_⟩
    rintro _ rfl
    refine ⟨_, rfl, id0.1, m_feed md.1 rfl t2 (fun _ => by omega) (fun _ _ _ => ⟨rfl, id0⟩) (fun _ _ _ => by omega)⟩
  · have rk : zK S1 1 = 11 := by
      rw [m1.K]
      exact cl.1.1
    have p0 : zG S1 1 0 = 2 := by
      rw [m1.G (by omega)]
      exact cl.1.2.1
    rw [p0]
    refine ⟨_, rfl, fun _ => ⟨rk, rd1.1⟩, ?_⟩
    rintro _ rfl
    rw [if_neg (by decide), l1]
    have dw1 : DW S1 D := md.1.md m1 (by omega)
    have o18 : zG S1 D 18 = zG S D 18 := m1.G (by omega) _
    have mi : MID S S1 D := mid_md m1 cl.1.1 md.1.1 (by omega)
    refine ⟨_, rfl, mi, m_feed dw1 o18 t2 (fun _ => by omega) (fun _ _ _ => by omega) (fun k0 k1 _ S2 m2 o2 l2 b2 => ⟨rfl, mid_md m2 mi.1 mi.2.1 (by omega), ?_⟩)⟩
    have mm : Md (fun x => x = 2 ∨ x = 3 ∨ x = D ∨ x = D + 13) S S2 := (m1.wide (fun x hx => by omega)).tr (m2.wide (fun x hx => by omega))
    refine rel_tape hD kn cl md re mm (rd1.keep m2 (fun i _ => m2.G (by omega) i) (by omega)) (dw1.keep m2 (fun i hi => o2 _ ((show ∀ j, j < 44 → mdF j ≠ 18 by decide) i hi))) (fun i hi => ?_) ⟨?_, ?_, fun i i0 i1 => ?_⟩
    · rw [o2 i hi]
      exact m1.G (by omega) _
    · rw [m2.G (by omega), l1, l2]
    · rw [l2]
      omega
    · rw [l2] at i1
      have a := b1 i
      have b := b2 i
      rw [show (2 : Int) + 1 = 3 by omega] at a
      rw [m2.G (a := 3) (by omega), a, b, m1.G (a := D + 13) (by omega)]
      by_cases q : zG S D 18 ≤ i ∧ i < zG S D 18 + k
      · rw [if_pos q, if_pos q, ← byF_usF (by omega)]
        exact ⟨rfl, byF_b⟩
      · rw [if_neg q, if_neg q]
        exact t3 i i0 (by omega)
theorem s_rowRefusal {d : Nat} {S : Hp} {D v u p n g s : Int} {F Δ : Int → Int} {Q : Vl → Hp → Prop} (cl : CLS S v u p n g F Δ) (sh : SHE S D p n) (H : Q (0, rfR s (zG S (D + 3) s)) S) : Ev (d + 1) 149 [(2, 1), (0, s)] S Q := by
  apply w_Crc_rowRefusal_0
  unfold rfR at H
  refine s_isShelf ⟨_, rfl, fun z => ?_, fun z => ?_⟩
  · have hs : 0 ≤ s ∧ s < 6 := i1 z
    rw [if_pos hs] at H
    rw [cl.1.a6, cl.1.p6 s hs.1 hs.2]
    refine ⟨cl.1.1, ⟨cl.1.k68.1, hs.1, by rw [cl.1.k68.2]; exact hs.2⟩, (cl.sw hs.1 hs.2).1, ?_⟩
    rintro _ rfl
    rw [(sh s hs.1 hs.2).1]
    refine ⟨fun a => ⟨fun b => ?_, fun b => ?_⟩, fun a => ?_⟩
    · rw [if_neg a, if_neg b] at H
      exact H
    · rw [if_neg a, if_pos (Classical.not_not.mp b)] at H
      exact H
    · rw [if_pos (Classical.not_not.mp a)] at H
      exact H
  · rw [if_neg (i2 z)] at H
    exact H
theorem r_clear {d : Nat} {S : Hp} {D s : Int} (hD : 485 ≤ D) (R : Rel S D) : TW (d + 20) 139 281 [(0, s)] S D := by
  obtain ⟨v, u, p, n, g, F, Δ, kn, cl, md, re⟩ := R
  have id0 := rel_id kn cl md re
  have sh := re.2.1
  unfold TW
  apply w_Crc_clear_0
  refine s_isShelf ⟨_, rfl, fun z => ?_, fun z => ?_⟩
  · have hs : 0 ≤ s ∧ s < 6 := i1 z
    have sw := cl.sw hs.1 hs.2
    rw [cl.1.a6, cl.1.p6 s hs.1 hs.2]
    refine ⟨cl.1.1, ⟨cl.1.k68.1, hs.1, by rw [cl.1.k68.2]; exact hs.2⟩, sw.1, ?_⟩
    rintro _ rfl
    refine ⟨cl.1.1, ⟨cl.1.k68.1, hs.1, by rw [cl.1.k68.2]; exact hs.2⟩, sw.1, ?_⟩
    rintro _ rfl
    rintro _ rfl
    obtain ⟨a1, a2, a3, a4, a5, a6, a7, -⟩ := sh s hs.1 hs.2
    have M1 := Md.zS S (343 + 12 * s) 0 0
    have dw1 : DW (zS S (343 + 12 * s) 0 0) D := md.1.md M1 (by omega)
    have mi : MID S (zS S (343 + 12 * s) 0 0) D := mid_md M1 cl.1.1 md.1.1 (by omega)
    refine ⟨_, rfl, mi, m_clear dw1 (fun q => absurd hs q) (fun _ => ⟨?_, mid_md (Md.zS _ _ _ _) mi.1 mi.2.1 (by omega), ?_⟩)⟩
    · rw [a1, M1.G (by omega)]
      by_cases q : zG S (D + 3) s = 0
      · rw [if_pos q, if_pos rfl]
      · rw [if_neg q, if_neg (by decide)]
    · have M2 := Md.zS (zS S (343 + 12 * s) 0 0) (D + 3) s 0
      have mm := (M1.wide (N := fun x => x = 343 + 12 * s ∨ x = 354 + 12 * s ∨ x = D + 3 ∨ x = D + 7 ∨ x = D + 8 ∨ x = D + 9 ∨ x = D + 42) (fun x hx => by omega)).tr (M2.wide (fun x hx => by omega))
      have f3 : zG (zS (zS S (343 + 12 * s) 0 0) (D + 3) s 0) (D + 3) s = 0 := zG_zS_at _ _ _ _
      have fe : ∀ i, i ≠ 0 → zG (zS (zS S (343 + 12 * s) 0 0) (D + 3) s 0) (343 + 12 * s) i = zG S (343 + 12 * s) i := fun i hi => by
        rw [M2.G (by omega)]
        exact zG_zS_ne _ (Or.inr hi)
      have fx : ∀ x i, x ≠ 343 + 12 * s → x ≠ D + 3 → zG (zS (zS S (343 + 12 * s) 0 0) (D + 3) s 0) x i = zG S x i := fun x i h1 h2 => by
        rw [M2.G h2, M1.G h1]
      refine rel_sh1 hD kn cl md re hs mm ⟨by rw [mm.K]; exact sw.1, by rw [fe _ (by omega)]; exact sw.2.1, sw.2.2.1.keep mm (fun x x0 x1 => by omega), by rw [fe _ (by omega)]; exact sw.2.2.2.1, by rw [mm.K]; exact sw.2.2.2.2.1, by rw [mm.L]; exact sw.2.2.2.2.2⟩ ⟨?_, ?_, ?_, ?_, ?_, ?_, fun h2 i i0 i1 => ?_, fun z => ?_⟩ (fun t t0 t1 q => ⟨?_, fx _ _ (by omega) (by omega), fx _ _ (by omega) (by omega), fun i _ _ => fx _ _ (by omega) (by omega)⟩) (fun z => by omega)
      · rw [f3, M2.G (by omega)]
        exact zG_zS_at _ _ _ _
      · rw [f3]
        exact Or.inl rfl
      · rw [fe _ (by omega), fx _ _ (by omega) (by omega)]
        exact a3
      · rw [fx _ _ (by omega) (by omega)]
        exact a4
      · rw [fe _ (by omega), fx _ _ (by omega) (by omega)]
        exact a5
      · rw [fx _ _ (by omega) (by omega)]
        exact a6
      · rw [f3] at h2
        omega
      · rw [f3] at z
        omega
      · rw [zG_zS_ne _ (Or.inr q)]
        exact M1.G (by omega) _
  · exact ⟨_, rfl, id0.1, m_clear md.1 (fun _ => ⟨rfl, id0⟩) (fun q => absurd q (i2 z))⟩
theorem r_row {d : Nat} {S : Hp} {D s t l : Int} (hD : 485 ≤ D) (R : Rel S D) : TW (d + 20) 133 274 [(0, s), (0, t), (0, l)] S D := by
  obtain ⟨v, u, p, n, g, F, Δ, kn, cl, md, re⟩ := R
  have id0 := rel_id kn cl md re
  have sh := re.2.1
  unfold TW
  apply w_Crc_row_0
  refine s_isShelf ⟨_, rfl, fun z => ?_, fun z => ⟨fun z2 => ?_, fun z2 => ?_⟩⟩
  · refine ⟨_, rfl, id0.1, m_row md.1 (fun _ => ⟨rfl, id0⟩) (fun q => ?_) (fun q => ?_)⟩
    · rcases z with z | z
      · exact absurd q.1 (i0 z)
      · omega
    · rcases z with z | z
      · exact absurd q.1 (i0 z)
      · omega
  · have hs : 0 ≤ s ∧ s < 6 := i1 (fun w => z (Or.inl w))
    have sw := cl.sw hs.1 hs.2
    rw [cl.1.a6, cl.1.p6 s hs.1 hs.2]
    refine ⟨cl.1.1, ⟨cl.1.k68.1, hs.1, by rw [cl.1.k68.2]; exact hs.2⟩, sw.1, s_layRow sw (fun S1 m1 sw1 h0 h2 h3 hr => ⟨rfl, ?_⟩)⟩
    have dw1 : DW S1 D := md.1.md m1 (by omega)
    have mi : MID S S1 D := mid_md m1 cl.1.1 md.1.1 (by omega)
    refine ⟨_, rfl, mi, m_row dw1 (fun q => absurd ⟨hs, by omega, by omega⟩ q) (fun _ _ => by omega) (fun _ _ S2 m2 dw2 e3 e7 e8 e9 => ⟨rfl, mid_md m2 mi.1 mi.2.1 (by omega), ?_⟩)⟩
    have mm : Md (fun x => x = 343 + 12 * s ∨ x = 354 + 12 * s ∨ x = D + 3 ∨ x = D + 7 ∨ x = D + 8 ∨ x = D + 9 ∨ x = D + 42) S S2 := (m1.wide (fun x hx => by omega)).tr (m2.wide (fun x hx => by omega))
    refine rel_sh1 hD kn cl md re hs mm (sw1.keep m2 (fun x x0 x1 => by omega)) ⟨?_, ?_, ?_, ?_, ?_, ?_, fun _ i i0 i1 => ?_, fun z => ?_⟩ (fun q q0 q1 qs => ⟨?_, ?_, ?_, fun i i0 i1 => ?_⟩) (fun z => ?_)
    · rw [m2.G (by omega), h0, e3, if_pos rfl]
    · rw [e3, if_pos rfl]
      omega
    · rw [m2.G (by omega), h2, e7, if_pos rfl]
    · rw [e7, if_pos rfl]
      omega
    · rw [m2.G (by omega), h3, e8, if_pos rfl]
    · rw [e8, if_pos rfl]
      omega
    · rw [m2.G (by omega), hr i i0 i1, e9, if_pos (by omega)]
      omega
    · rw [e3, if_pos rfl] at z
      omega
    · rw [e3, if_neg qs]
      exact m1.G (by omega) _
    · rw [e7, if_neg qs]
      exact m1.G (by omega) _
    · rw [e8, if_neg qs]
      exact m1.G (by omega) _
    · rw [e9, if_neg (by omega)]
      exact m1.G (by omega) _
    · rw [e3, if_pos rfl] at z
      omega
  · have hs : 0 ≤ s ∧ s < 6 := i1 (fun w => z (Or.inl w))
    exact ⟨_, rfl, id0.1, m_row md.1 (fun q => absurd ⟨hs, by omega, by omega⟩ q) (fun _ _ => ⟨rfl, id0⟩) (fun _ _ => by omega)⟩
