/-! field, image, back. -/
theorem r_field {d : Nat} {S : Hp} {D q : Int} (hD : 485 ≤ D) (R : Rel S D) : TW (d + 20) 97 169 [(0, q)] S D := by
  obtain ⟨v, u, p, n, g, F, Δ, kn, cl, md, re⟩ := R
  have id0 := rel_id kn cl md re
  have vu := cl.1.2.2.2.2.1
  have vw := cl.vw
  unfold TW
  apply w_Crc_field_0
  refine ⟨fun hq => ?_, fun hq => ⟨_, rfl, id0.1, m_field md.1 md.2.1 (fun _ => ⟨rfl, id0⟩) (fun w => absurd w hq)⟩⟩
  have hq' : isPr q := hq
  apply w_Crc_field_23
  rw [cl.1.a1, cl.c0]
  refine ⟨cl.1.1, vw.1, ?_⟩
  rintro _ rfl
  refine ⟨cl.1.1, vw.1, ?_⟩
  rintro _ rfl
  have M1 := Md.zS S v 0 q
  have cp1 : CP (zS S v 0 q) v u := cl.1.keep M1 (by omega) (by omega) (by omega) (by omega)
  have vw1 : VW (zS S v 0 q) v := vw.put (Or.inl ⟨rfl, by omega⟩)
  rw [cp1.a1]
  refine ⟨cp1.1, vw1.1, ?_⟩
  rintro _ rfl
  have M2 := Md.zS (zS S v 0 q) v 1 0
  have vw2 : VW (zS (zS S v 0 q) v 1 0) v := vw1.put (Or.inl ⟨rfl, by omega⟩)
  have g0 : zG (zS (zS S v 0 q) v 1 0) v 0 = q := by rw [zG_zS_ne _ (Or.inr (by omega)), zG_zS_at]
  have g1 : zG (zS (zS S v 0 q) v 1 0) v 1 = 0 := zG_zS_at _ _ _ _
  have m2 : Md (fun x => x = v) S (zS (zS S v 0 q) v 1 0) := M1.tr M2
  generalize zS (zS S v 0 q) v 1 0 = S2 at m2 vw2 g0 g1 ⊢
  have cp2 : CP S2 v u := cl.1.keep m2 (by omega) (by omega) (by omega) (by omega)
  have co2 : CO S2 := co_cv cl.2.1 vu m2 (fun x x0 x1 hx => by omega) vw2
  refine ⟨cp2.1, s_forget cp2 co2.2.2.2.2.2.2.2.2.2.2.2.1 co2.2.2.2.2.2.2.2.2.2.2.1 (fun S3 m3 cp3 f => ⟨rfl, ?_⟩)⟩
  have nM : ∀ x, ((2 ≤ x ∧ x ≤ 300) ∨ 404 ≤ x ∨ x < 1) → ¬ FGM x := fun x hx => by
    unfold FGM
    omega
  have mm3 : Md (fun x => x = v ∨ FGM x) S S3 := (m2.wide (fun x hx => Or.inl hx)).tr (m3.wide (fun x hx => Or.inr hx))
  have far3 : ∀ x i, 485 ≤ x → zG S3 x i = zG S x i := fun x i hx => mm3.G (fun w => w.elim (by omega) (nM x (by omega))) i
  have mi : MID S S3 D := mid_md mm3 cl.1.1 md.1.1 (fun w => w.elim (by omega) (nM _ (by omega)))
  have dw3 : DW S3 D := md.1.md mm3 (fun w => w.elim (by omega) (nM _ (by omega)))
  refine ⟨_, rfl, mi, m_field dw3 ((far3 _ _ (by omega)).trans md.2.1) (fun w => absurd hq' w) (fun _ => ⟨rfl, ?_⟩)⟩
  have N1 := Md.zS S3 D 0 q
  have N2 := Md.zS (zS S3 D 0 q) D 1 0
  have N3 := Md.zS (zS (zS S3 D 0 q) D 1 0) D 2 0
  have N4 := Md.zR (zS (zS (zS S3 D 0 q) D 1 0) D 2 0) (D + 3) (fgH (zG S3 (D + 3)))
  have N5 := Md.zS (zR (zS (zS (zS S3 D 0 q) D 1 0) D 2 0) (D + 3) (fgH (zG S3 (D + 3)))) D 16 0
  have N6 := Md.zS (zS (zR (zS (zS (zS S3 D 0 q) D 1 0) D 2 0) (D + 3) (fgH (zG S3 (D + 3)))) D 16 0) D 48 (-1)
  have dw4 : DW (zS (zS (zR (zS (zS (zS S3 D 0 q) D 1 0) D 2 0) (D + 3) (fgH (zG S3 (D + 3)))) D 16 0) D 48 (-1)) D := (((((dw3.sc (by decide)).sc (by decide)).sc (by decide)).md N4 (by omega)).sc (by decide)).sc (by decide)
  have n4 : Md (fun x => x = D ∨ x = D + 3) S3 (zS (zS (zR (zS (zS (zS S3 D 0 q) D 1 0) D 2 0) (D + 3) (fgH (zG S3 (D + 3)))) D 16 0) D 48 (-1)) := (N1.wide (fun x hx => Or.inl hx)).tr ((N2.wide (fun x hx => Or.inl hx)).tr ((N3.wide (fun x hx => Or.inl hx)).tr ((N4.wide (fun x hx => Or.inr hx)).tr ((N5.wide (fun x hx => Or.inl hx)).tr (N6.wide (fun x hx => Or.inl hx))))))
  have e0 : zG (zS (zS (zR (zS (zS (zS S3 D 0 q) D 1 0) D 2 0) (D + 3) (fgH (zG S3 (D + 3)))) D 16 0) D 48 (-1)) D 0 = q := by
    rw [zG_zS_ne _ (Or.inr (by omega)), zG_zS_ne _ (Or.inr (by omega)), N4.G (by omega), zG_zS_ne _ (Or.inr (by omega)), zG_zS_ne _ (Or.inr (by omega)), zG_zS_at]
  have e1 : zG (zS (zS (zR (zS (zS (zS S3 D 0 q) D 1 0) D 2 0) (D + 3) (fgH (zG S3 (D + 3)))) D 16 0) D 48 (-1)) D 1 = 0 := by
    rw [zG_zS_ne _ (Or.inr (by omega)), zG_zS_ne _ (Or.inr (by omega)), N4.G (by omega), zG_zS_ne _ (Or.inr (by omega)), zG_zS_at]
  have e2 : zG (zS (zS (zR (zS (zS (zS S3 D 0 q) D 1 0) D 2 0) (D + 3) (fgH (zG S3 (D + 3)))) D 16 0) D 48 (-1)) D 2 = 0 := by
    rw [zG_zS_ne _ (Or.inr (by omega)), zG_zS_ne _ (Or.inr (by omega)), N4.G (by omega), zG_zS_at]
  have e16 : zG (zS (zS (zR (zS (zS (zS S3 D 0 q) D 1 0) D 2 0) (D + 3) (fgH (zG S3 (D + 3)))) D 16 0) D 48 (-1)) D 16 = 0 := by
    rw [zG_zS_ne _ (Or.inr (by omega)), zG_zS_at]
  have e48 : zG (zS (zS (zR (zS (zS (zS S3 D 0 q) D 1 0) D 2 0) (D + 3) (fgH (zG S3 (D + 3)))) D 16 0) D 48 (-1)) D 48 = -1 := zG_zS_at _ _ _ _
  have eo : ∀ i, i ≠ 0 → i ≠ 1 → i ≠ 2 → i ≠ 16 → i ≠ 48 → zG (zS (zS (zR (zS (zS (zS S3 D 0 q) D 1 0) D 2 0) (D + 3) (fgH (zG S3 (D + 3)))) D 16 0) D 48 (-1)) D i = zG S3 D i := fun i h0 h1 h2 h16 h48 => by
    rw [zG_zS_ne _ (Or.inr h48), zG_zS_ne _ (Or.inr h16), N4.G (by omega), zG_zS_ne _ (Or.inr h2), zG_zS_ne _ (Or.inr h1), zG_zS_ne _ (Or.inr h0)]
  have e3 : ∀ i, zG (zS (zS (zR (zS (zS (zS S3 D 0 q) D 1 0) D 2 0) (D + 3) (fgH (zG S3 (D + 3)))) D 16 0) D 48 (-1)) (D + 3) i = fgH (zG S3 (D + 3)) i := fun i => by
    rw [N6.G (by omega), N5.G (by omega)]
    exact zG_zR_at _ _ _ _
  generalize zS (zS (zR (zS (zS (zS S3 D 0 q) D 1 0) D 2 0) (D + 3) (fgH (zG S3 (D + 3)))) D 16 0) D 48 (-1) = S4 at n4 dw4 e0 e1 e2 e3 e16 e48 eo ⊢
  refine ⟨mid_md n4 mi.1 mi.2.1 (by omega), ?_⟩
  have co3 : CO S3 := co_fg co2 m3 f
  have mm4 : Md (fun x => x = v ∨ FGM x ∨ x = D ∨ x = D + 3) S S4 := (mm3.wide (fun x hx => hx.elim Or.inl (fun w => Or.inr (Or.inl w)))).tr (n4.wide (fun x hx => Or.inr (Or.inr hx)))
  have k4 : ∀ x i, x ≤ 484 → zG S4 x i = zG S3 x i := fun x i hx => n4.G (by omega) i
  have k4' : ∀ x i, ((2 ≤ x ∧ x ≤ 300) ∨ 404 ≤ x) → x ≠ v → x ≠ D → x ≠ D + 3 → zG S4 x i = zG S x i := fun x i hx hv h0 h3 => mm4.G (fun w => w.elim hv (fun w => w.elim (nM x (by omega)) (by omega))) i
  obtain ⟨tp, sh, bk, im, tl⟩ := re
  have nn : ∀ x, ((2 ≤ x ∧ x ≤ 300) ∨ 404 ≤ x) → x ≠ v → x ≠ D → x ≠ D + 3 → ¬ (x = v ∨ FGM x ∨ x = D ∨ x = D + 3) := fun x hx hv h0 h3 w => w.elim hv (fun w => w.elim (nM x (by omega)) (by omega))
  refine rel_fresh (F := F) (Δ := Δ) (kno_zero hq') (cp3.keep n4 (by omega) (by omega) (by omega) (by omega)) (co3.far n4 (fun x x0 x1 => by omega)) (cur_zero ?_ ?_) (fun c c0 c1 => ⟨?_, ?_, ?_⟩) ((cl.al).keep mm4 (fun x hx => nn x (by omega) (by omega) (by omega) (by omega))) dw4 e0 e1 e2 (fun K j i x K0 K1 j0 ji i1 x0 x1 => ?_) e48 (fun z => absurd rfl z) (tp.keep mm4 (nn _ (by omega) (by omega) (by omega) (by omega)) (nn _ (by omega) (by omega) (by omega) (by omega)) (nn _ (by omega) (by omega) (by omega) (by omega)) ?_) (im.keep mm4 ?_ (fun x x0 x1 => nn _ (by omega) (by omega) (by omega) (by omega)) (nn _ (by omega) (by omega) (by omega) (by omega)) (nn _ (by omega) (by omega) (by omega) (by omega)) (fun i hi => ?_)) (she_fresh sh (fun t t0 t1 i => ?_) (fun t t0 t1 i => ?_) (fun i => ?_) (fun x i hx => ?_)) ?_ e16 ?_
  · rw [k4 _ _ (by omega), m3.G (nM _ (by omega))]
    exact g0
  · rw [k4 _ _ (by omega), m3.G (nM _ (by omega))]
    exact g1
  · exact (cl.pr c0 c1).keep mm4 (fun w => by unfold FGM at w; omega)
  · rw [k4 _ _ (by omega), f.2.2.2.2 c c0 c1, if_neg (by omega), m2.G (by omega)]
    exact (cl.2.2.2.1 c c0 c1).2.2.1
  · rw [k4 _ _ (by omega), f.2.2.2.2 c c0 c1, if_pos ⟨rfl, c1⟩]
  · rw [k4' _ _ (by omega) (by omega) (by omega) (by omega)]
    exact md.2.2.2.2.1 K j i x K0 K1 j0 ji i1 x0 x1
  · rw [eo _ (by omega) (by omega) (by omega) (by omega) (by omega)]
    exact far3 _ _ (by omega)
  · rw [k4 _ _ (by omega), f.1 4 (by omega) (by omega)]
    exact m2.G (by omega) _
  · rw [eo _ (by omega) (by omega) (by omega) (by omega) (by omega)]
    exact far3 _ _ (by omega)
  · rw [k4 _ _ (by omega), f.2.2.2.1 t t0 t1, m2.G (by omega), m2.G (by omega)]
  · exact mm4.G (fun w => by unfold FGM at w; omega) _
  · rw [e3, show zG S3 (D + 3) = zG S (D + 3) from funext fun j => far3 _ _ (by omega)]
  · exact k4' _ _ (by omega) (by omega) (by omega) (by omega)
  · rw [k4 _ _ (by omega)]
    exact f.2.2.1
  · rw [k4 _ _ (by omega)]
    exact f.2.1
/-- a curve is copied -/
theorem cur_copy {S S' : Hp} {V U p n g : Int} {F Δ : Int → Int} (kn : KNO p n g F Δ) (h : CUR S U p n g F Δ) (k : ∀ k, 0 ≤ k → k < 3 → zG S' V k = zG S U k) (a : ∀ e, 0 ≤ e → e < 49 → zG S' (V + 1) e = zG S (U + 1) e) (b : ∀ e, 0 ≤ e → e < 7 → zG S' (V + 13) e = zG S (U + 13) e) (l : ∀ p P, LN S (U + 11) 64 p P → LN S' (V + 11) 64 p P) (t : ∀ p C, LAN S (U + 2) 4 (fun _ => 7) p C → LAN S' (V + 2) 4 (fun _ => 7) p C) : CUR S' V p n g F Δ := by
  obtain ⟨h0, h1, h2⟩ := h
  refine ⟨by rw [k 0 (by omega) (by omega)]; exact h0, by rw [k 1 (by omega) (by omega)]; exact h1, fun n0 => ?_⟩
  obtain ⟨c1, c2, c3, c4, c5⟩ := h2 n0
  exact ⟨by rw [k 2 (by omega) (by omega)]; exact c1, fun e e0 e1 => by rw [a e e0 e1]; exact c2 e e0 e1, t _ _ c3, l _ _ c4, fun c c0 c1 => by rw [b c c0 (kn.p7 c1)]; exact c5 c c0 c1⟩
theorem r_image {d : Nat} {S : Hp} {D : Int} (hD : 485 ≤ D) (R : Rel S D) : TW (d + 20) 140 282 [] S D := by
  obtain ⟨v, u, p, n, g, F, Δ, kn, cl, md, re⟩ := R
  have vu := cl.1.2.2.2.2.1
  have vw := cl.vw
  unfold TW
  apply w_Crc_image_0
  rw [cl.1.2.2.2.2.2.1, cl.1.a1]
  have v5 : VW S 52 := cl.2.1.2.2.2.1
  refine ⟨cl.1.1, cl.1.1, v5.1, s_copyFrom v5 vw (by omega) (fun S1 m1 w1 k1 a1 b1 l1 t1 => ⟨rfl, ?_⟩)⟩
  unfold MV at m1
  have cp1 : CP S1 v u := cl.1.keep m1 (by omega) (by omega) (by omega) (by omega)
  refine ⟨⟨cp1.1, Or.inr rfl⟩, ?_⟩
  rintro _ rfl
  have M2 := Md.zS S1 1 4 1
  have cp2 : CP (zS S1 1 4 1) v u := cp1.put (by omega)
  have g4 : zG (zS S1 1 4 1) 1 4 = 1 := zG_zS_at _ _ _ _
  have g1 : ∀ i, i ≠ 4 → zG (zS S1 1 4 1) 1 i = zG S1 1 i := fun i hi => zG_zS_ne _ (Or.inr hi)
  generalize zS S1 1 4 1 = S2 at M2 cp2 g4 g1 ⊢
  have m2 : Md (fun x => x = 1 ∨ (52 ≤ x ∧ x ≤ 66)) S S2 := (m1.wide (fun x hx => by omega)).tr (M2.wide (fun x hx => by omega))
  have mi : MID S S2 D := mid_md m2 cl.1.1 md.1.1 (by omega)
  have dw2 : DW S2 D := md.1.md m2 (by omega)
  have o2 : ∀ x i, 485 ≤ x → zG S2 x i = zG S x i := fun x i hx => m2.G (by omega) i
  have gv : ∀ i, zG S2 v i = zG S v i := fun i => m2.G (by omega) i
  rw [cp2.a1, gv, cl.c0]
  refine ⟨cp2.1, by rw [m2.K]; exact vw.1, _, rfl, mi, m_image dw2 (fun S3 m3 dw3 o3 h61 h62 h63 h43 h44 => ?_)⟩
  rw [o2 _ _ (by omega), md.2.1] at h61 ⊢
  rw [o2 _ _ (by omega), md.2.2.1] at h62
  rw [o2 _ _ (by omega), md.2.2.2.1] at h63
  have mm : Md (fun x => x = 1 ∨ (52 ≤ x ∧ x ≤ 66) ∨ x = D ∨ x = D + 43 ∨ x = D + 44) S S3 := (m2.wide (fun x hx => by omega)).tr (m3.wide (fun x hx => by omega))
  have mw : Md (WRM D) S S3 := mm.wide (fun x hx => by unfold WRM; omega)
  have f1 : ∀ i, i ≠ 4 → zG S3 1 i = zG S 1 i := fun i hi => by
    rw [m3.G (by omega), g1 i hi]
    exact m1.G (by omega) _
  have oD : ∀ i, i ≠ 61 → i ≠ 62 → i ≠ 63 → zG S3 D i = zG S D i := fun i h1 h2 h3 => by
    rw [o3 i h1 h2 h3]
    exact o2 _ _ (by omega)
  have c1 : CUR S1 52 p n g F Δ := cur_copy kn cl.2.2.1 k1 a1 b1 l1 t1
  have c3 : CUR S3 52 p n g F Δ := (c1.keep M2 (fun x x0 x1 => by omega)).keep m3 (fun x x0 x1 => by omega)
  obtain ⟨tp, sh, bk, im, tl⟩ := re
  refine ⟨rfl, mid_md m3 mi.1 mi.2.1 (by omega), v, u, p, n, g, F, Δ, kn, cls_wr hD kn cl mw (fun i h _ _ _ => f1 i h) (cl.rd.keep mm (fun i _ => mm.G (by omega) i) (by omega)) ((w1.keep M2 (fun x x0 x1 => by omega)).keep m3 (fun x x0 x1 => by omega)) (cl.2.1.2.2.2.2.1.keep mm (fun x x0 x1 => by omega)) (cl.2.1.2.2.2.2.2.1.keep mm (fun x x0 x1 => by omega)) (fun t t0 t1 => (cl.sw t0 t1).keep mm (fun x x0 x1 => by omega)) (fun k k0 k1 => (cl.bw k0 k1).keep mm (fun x x0 x1 => by omega)), mdl_wr hD md mw dw3 (fun i hi => oD i (by omega) (by omega) (by omega)), tp.keep mm (by omega) (by omega) (by omega) (oD _ (by omega) (by omega) (by omega)), fun t t0 t1 => (sh t t0 t1).keep mm (fun x x0 x1 => by omega) ⟨mm.G (by omega) _, mm.G (by omega) _, mm.G (by omega) _, mm.G (by omega) _, mm.G (by omega) _, fun i _ _ => mm.G (by omega) _, fun i _ _ => mm.G (by omega) _⟩, bk.keep mm (f1 _ (by omega)) (fun x x0 x1 => by omega) (by omega) (by omega) (by omega) (oD _ (by omega) (by omega) (by omega)), ?_, tl.keep kn.n4 mm (fun x hx => by omega) (fun i hi => f1 i (by omega)) (fun t t0 t1 _ z => ?_)⟩
  · have g34 : zG S3 1 4 = 1 := by
      rw [m3.G (by omega)]
      exact g4
    refine ⟨by rw [g34]; exact Or.inr rfl, fun w => by omega, fun _ => ⟨p, n, g, F, Δ, kn, c3, h61, h62, h63, fun n0 => ⟨fun e e0 e1 => ?_, fun x x0 x1 => ?_⟩⟩⟩
    · rw [h43 e e0 e1, o2 _ _ (by omega)]
      exact (md.mc n0).2.2.2.2.2.2.1 e e0 e1
    · rw [h44 x x0 x1, o2 _ _ (by omega)]
      exact (md.2.2.2.2.2 n0).2 x x0 x1
  · rw [mm.G (by omega)] at z
    exact ⟨z, mm.G (by omega) _, mm.G (by omega) _, fun i _ _ => mm.G (by omega) _⟩
