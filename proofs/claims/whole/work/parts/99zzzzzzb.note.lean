/-! Calls with elements that are copied: spills, note. -/
theorem r_spills {d : Nat} {S : Hp} {D s t : Int} (hD : 485 ≤ D) (R : Rel S D) : TW (d + 20) 138 280 [(0, s), (0, t)] S D := by
  obtain ⟨v, u, p, n, g, F, Δ, kn, cl, md, re⟩ := R
  have id0 := rel_id kn cl md re
  have sh := re.2.1
  have n4 := kn.n4
  have hZ : 0 ≤ t → t < 6 → 0 ≤ zG S (D + 8) t ∧ zG S (D + 8) t ≤ 40 := fun s0 s1 => (sh t s0 s1).2.2.2.2.2.1
  unfold TW
  apply w_Crc_spills_0
  rw [cl.1.a1, cl.c1]
  refine ⟨cl.1.1, cl.vw.1, fun n0 => s_isShelf ⟨_, rfl, fun z => ?_, fun z => s_isShelf ⟨_, rfl, fun z2 => ?_, fun z2 => ?_⟩⟩, fun n0 => ?_⟩
  · have z' := i0 z
    exact ⟨_, rfl, id0.1, m_spills md.1 md.2.2.1 kn.2.1 hZ (fun w => absurd w n0) (fun _ _ => ⟨rfl, id0⟩) (fun _ w => absurd w.1 z') (fun _ w => absurd w.1 z') (fun _ w => absurd w.1 z')⟩
  · have hs : 0 ≤ s ∧ s < 6 := i1 z
    have ht : 0 ≤ t ∧ t < 6 := i1 z2
    have sw := cl.sw hs.1 hs.2
    have tw := cl.sw ht.1 ht.2
    obtain ⟨a1, a2, a3, a4, a5, a6, a7, a8⟩ := sh s hs.1 hs.2
    obtain ⟨b1, b2, b3, b4, b5, b6, b7, -⟩ := sh t ht.1 ht.2
    rw [cl.1.a6, cl.1.p6 s hs.1 hs.2, cl.1.p6 t ht.1 ht.2]
    refine ⟨cl.1.1, ⟨cl.1.k68.1, hs.1, by rw [cl.1.k68.2]; exact hs.2⟩, ?_⟩
    rintro _ rfl
    refine ⟨cl.1.1, ⟨cl.1.k68.1, ht.1, by rw [cl.1.k68.2]; exact ht.2⟩, ?_⟩
    rintro _ rfl
    rw [a1, b1, b5, sw.2.1]
    refine ⟨sw.1, fun _ => tw.1, fun q => ?_, fun q => ⟨sw.1, fun _ => ⟨sw.1, sw.2.2.1.1, fun _ => tw.1⟩, fun q2 => ?_, fun q2 => ?_⟩⟩
    · have q' : zG S (D + 3) s = 0 ∨ zG S (D + 3) t = 0 := by omega
      exact ⟨_, rfl, id0.1, m_spills md.1 md.2.2.1 kn.2.1 hZ (fun w => absurd w n0) (fun _ w => absurd ⟨hs, ht⟩ w) (fun _ _ _ => ⟨rfl, id0⟩) (fun _ _ w => absurd q' w) (fun _ _ w => absurd q' w)⟩
    · have q' : zG S (D + 3) s = 2 ∨ 0 < zG S (D + 5) s ∨ zG S (D + 3) t = 1 := by
        by_cases h1 : zG S (D + 3) s = 1
        · obtain ⟨-, W, el⟩ := a8 h1
          have e5 := el.1.2.2.1
          rw [e5] at q2
          omega
        · omega
      exact ⟨_, rfl, id0.1, m_spills md.1 md.2.2.1 kn.2.1 hZ (fun w => absurd w n0) (fun _ w => absurd ⟨hs, ht⟩ w) (fun _ _ w => by omega) (fun _ _ _ _ => ⟨rfl, id0⟩) (fun _ _ _ w => absurd q' w)⟩
    · have h1 : zG S (D + 3) s = 1 := by omega
      obtain ⟨-, W, el⟩ := a8 h1
      have e5 := el.1.2.2.1
      rw [e5] at q2
      rw [cl.1.a1, cl.c1, w32_id (by omega) (by omega)]
      refine ⟨tw.1, cl.1.1, cl.vw.1, s_min ⟨_, rfl, ?_⟩⟩
      have hl : 0 ≤ min (zG S (D + 8) t) (8 * n) ∧ min (zG S (D + 8) t) (8 * n) ≤ 40 ∧ min (zG S (D + 8) t) (8 * n) ≤ 8 * n ∧ min (zG S (D + 8) t) (8 * n) ≤ zG S (D + 8) t := by omega
      have st : s ≠ t := fun w => by
        rw [w] at h1
        omega
      refine loopU (P := fun k S' => At (d + 19 + 1) 138 c138_115 [(3, (2, 343 + 12 * s)), (4, (2, 343 + 12 * t)), (5, (0, min (zG S (D + 8) t) (8 * n))), (6, (0, k))] [] S' (fun r S1 => ∃ x, r = (0, x) ∧ MID S S1 D ∧ Ev (d + 20) 280 [(2, D), (0, s), (0, t)] S1 (fun r' S2 => r' = (0, x) ∧ MID S1 S2 D ∧ Rel S2 D))) (I := fun k S2 => 0 ≤ k ∧ Md (fun x => x = 354 + 12 * t) S S2 ∧ ∀ i, zG S2 (343 + 12 * t + 11) i = if 0 ≤ i ∧ i < k then W (i / 8) (i % 8) else zG S (343 + 12 * t + 11) i) (min (zG S (D + 8) t) (8 * n)) ?_ ?_ 0 S hl.1 ⟨by omega, Md.refl _ _, fun i => by rw [if_neg (by omega)]⟩
      · rintro k S2 hk ⟨k0, m2, h2⟩ next
        have sw2 : SW S2 (343 + 12 * s) := sw.keep m2 (fun x x0 x1 => by omega)
        have tw2 : SW S2 (343 + 12 * t) := tw.keep m2 (fun x x0 x1 => by omega)
        have qn := el.1.keep m2 (fun x x0 x1 => by omega)
        have td : k.tdiv 8 = k / 8 := Int.tdiv_eq_ediv_of_nonneg k0
        have tm : k.tmod 8 = k % 8 := Int.tmod_eq_emod_of_nonneg k0
        have lan := qn.2.2.2.2
        have ln := lan.at (i := k / 8) (by omega) (by omega)
        apply w_Crc_spills_115
        rw [sw2.2.1, qn.2.1, td, tm, w32_id (by omega) (by omega), lan.ptr (show 0 ≤ k / 8 by omega) (by omega), tw2.2.2.2.1]
        refine ⟨fun w => by omega, fun _ => ⟨tw2.1, sw2.1, qn.1, by decide, ⟨lan.1, by omega, by rw [lan.2.1]; omega⟩, by decide, ln.ln.1, n_number ln ⟨_, rfl, ⟨tw2.2.2.2.2.1, k0, by rw [tw2.2.2.2.2.2]; omega⟩, ?_⟩⟩⟩
        rintro _ rfl
        rintro _ rfl
        rw [w32_id (by omega) (by omega)]
        refine next _ ⟨by omega, m2.tr ((Md.zS _ _ _ _).wide (fun x hx => by omega)), fun i => ?_⟩
        rw [zG_zS]
        by_cases q : i = k
        · rw [if_pos ⟨rfl, q⟩, if_pos (by omega), q]
        · rw [if_neg (fun w => q w.2), h2]
          by_cases q3 : 0 ≤ i ∧ i < k
          · rw [if_pos q3, if_pos (by omega)]
          · rw [if_neg q3, if_neg (by omega)]
      · rintro S2 ⟨k0, m2, h2⟩
        apply w_Crc_spills_115
        refine ⟨fun _ => ?_, fun w => absurd (Int.le_refl _) w⟩
        have o2 : ∀ x i, x ≠ 354 + 12 * t → zG S2 x i = zG S x i := fun x i hx => m2.G hx i
        have dw2 : DW S2 D := md.1.md m2 (by omega)
        have mi : MID S S2 D := mid_md m2 cl.1.1 md.1.1 (by omega)
        have g3 : zG S2 (D + 3) = zG S (D + 3) := funext fun i => o2 _ _ (by omega)
        have g4 : zG S2 (D + 4) = zG S (D + 4) := funext fun i => o2 _ _ (by omega)
        have g5 : zG S2 (D + 5) = zG S (D + 5) := funext fun i => o2 _ _ (by omega)
        have g8 : zG S2 (D + 8) = zG S (D + 8) := funext fun i => o2 _ _ (by omega)
        have g9 : zG S2 (D + 9) = zG S (D + 9) := funext fun i => o2 _ _ (by omega)
        refine ⟨_, rfl, mi, m_spills dw2 ((o2 _ _ (by omega)).trans md.2.2.1) kn.2.1 (by rw [g8]; exact hZ) (fun w => absurd w n0) (fun _ w => absurd ⟨hs, ht⟩ w) (fun _ _ w => by rw [g3] at w; omega) (fun _ _ _ w => by rw [g3, g5] at w; omega) (fun _ _ _ _ S3 m3 dw3 h3 => ?_)⟩
        rw [g4, g8, g9] at h3
        rw [g8]
        refine ⟨rfl, mid_md m3 mi.1 mi.2.1 (by omega), rel_row hD kn cl md re ht ((m2.wide (fun x hx => by omega)).tr (m3.wide (fun x hx => by omega))) (fun i i0 i1 => ?_) (fun r r0 r1 q i i0 i1 => ?_)⟩
        · rw [m3.G (by omega), h2, h3]
          by_cases q : i < min (zG S (D + 8) t) (8 * n)
          · have e := el.2.1.1 (i / 8) (i % 8) (by omega) (by omega) (by omega) (by omega)
            have b := el.2.1.2.1 (i / 8) (i % 8)
            have h2p := kn.1.two
            rw [if_pos ⟨i0, q⟩, if_pos (show 40 * t ≤ 40 * t + i ∧ 40 * t + i < 40 * t + min (zG S (D + 8) t) (8 * n) by omega), show 40 * t + i - 40 * t = i by omega, e]
            omega
          · rw [if_neg (show ¬ (0 ≤ i ∧ i < min (zG S (D + 8) t) (8 * n)) by omega), if_neg (show ¬ (40 * t ≤ 40 * t + i ∧ 40 * t + i < 40 * t + min (zG S (D + 8) t) (8 * n)) by omega)]
            exact b7 (by omega) i i0 i1
        · rw [h3, if_neg (by omega)]
  · have z' := i2 z2
    exact ⟨_, rfl, id0.1, m_spills md.1 md.2.2.1 kn.2.1 hZ (fun w => absurd w n0) (fun _ _ => ⟨rfl, id0⟩) (fun _ w => absurd w.2 z') (fun _ w => absurd w.2 z') (fun _ w => absurd w.2 z')⟩
  · have z' := Classical.not_not.mp n0
    exact ⟨_, rfl, id0.1, m_spills md.1 md.2.2.1 kn.2.1 hZ (fun _ => ⟨rfl, id0⟩) (fun w => absurd z' w) (fun w => absurd z' w) (fun w => absurd z' w) (fun w => absurd z' w)⟩
theorem r_note {d : Nat} {S : Hp} {D s : Int} (hD : 485 ≤ D) (R : Rel S D) : TW (d + 20) 130 271 [(0, s)] S D := by
  obtain ⟨v, u, p, n, g, F, Δ, kn, cl, md, re⟩ := R
  have id0 := rel_id kn cl md re
  have sh := re.2.1
  have bk := re.2.2.1
  obtain ⟨b1, b2, b3⟩ := re.2.2.1
  unfold TW
  apply w_Crc_note_0
  refine ⟨cl.1.1, s_refusal cl sh (f := True) ⟨fun _ => trivial, fun _ => by decide⟩ ⟨_, rfl, fun z => ?_, fun z => ?_⟩⟩
  · obtain ⟨hs, -, -, n0, W, el⟩ := rf_el sh z
    have sw := cl.sw hs.1 hs.2
    rw [cl.1.a6, cl.1.p6 s hs.1 hs.2, sw.2.1]
    refine ⟨cl.1.1, ⟨cl.1.k68.1, hs.1, by rw [cl.1.k68.2]; exact hs.2⟩, sw.1, cl.1.1, s_numberInBook cl bk el (fun no => ⟨_, rfl, fun _ => ⟨cl.1.1, fun lt => ?_, fun ge => ?_⟩, fun w => absurd (by omega) w⟩) (fun b b0 b1 e no => ⟨_, rfl, fun w => by omega, fun _ => ?_⟩)⟩
    · rw [b1] at lt ⊢
      have bw := cl.bw b2.1 lt
      rw [cl.1.a6, cl.1.a7, cl.1.p7 _ b2.1 lt, cl.1.p6 s hs.1 hs.2, sw.2.1]
      refine ⟨cl.1.1, cl.1.1, ⟨cl.1.k69.1, b2.1, by rw [cl.1.k69.2]; exact lt⟩, cl.1.1, ⟨cl.1.k68.1, hs.1, by rw [cl.1.k68.2]; exact hs.2⟩, sw.1, bw.1, s_qtake bw el.1 (by omega) (fun j j0 j1 i hi => el.2.1.2.2.1 j i (by omega)) (fun S1 m1 q1 => ⟨rfl, ?_⟩)⟩
      unfold MQ' at m1
      have k1 : zK S1 1 = 11 := by
        rw [m1.K]
        exact cl.1.1
      have g8 : zG S1 1 8 = zG S D 16 := by
        rw [m1.G (by omega)]
        exact b1
      rw [g8, w32_id (x := zG S D 16 + 1) (by omega) (by omega)]
      refine ⟨k1, k1, ?_⟩
      rintro _ rfl
      have M2 := Md.zS S1 1 8 (zG S D 16 + 1)
      have e8 : zG (zS S1 1 8 (zG S D 16 + 1)) 1 8 = zG S D 16 + 1 := zG_zS_at _ _ _ _
      have e1 : ∀ i, i ≠ 8 → zG (zS S1 1 8 (zG S D 16 + 1)) 1 i = zG S1 1 i := fun i hi => zG_zS_ne _ (Or.inr hi)
      generalize zS S1 1 8 (zG S D 16 + 1) = S2 at M2 e8 e1 ⊢
      rw [e8, w32_id (by omega) (by omega), show zG S D 16 + 1 - 1 = zG S D 16 by omega]
      have m2 : Md (fun x => x = 1 ∨ (415 + 10 * zG S D 16 ≤ x ∧ x ≤ 415 + 10 * zG S D 16 + 9)) S S2 := (m1.wide (fun x hx => by omega)).tr (M2.wide (fun x hx => by omega))
      have mi : MID S S2 D := mid_md m2 cl.1.1 md.1.1 (by omega)
      have o2 : ∀ x i, D ≤ x → zG S2 x i = zG S x i := fun x i hx => m2.G (by omega) i
      have dw2 : DW S2 D := md.1.md m2 (by omega)
      have g3 : zG S2 (D + 3) = zG S (D + 3) := funext fun i => o2 _ _ (by omega)
      have bq : ∀ b, bkEq S2 D s b ↔ bkEq S D s b := fun b => by
        unfold bkEq
        rw [o2 _ _ (by omega), o2 _ _ (by omega), o2 _ _ (by omega), o2 _ _ (by omega), show zG S2 (D + 10) = zG S (D + 10) from funext fun i => o2 _ _ (by omega), show zG S2 (D + 4) = zG S (D + 4) from funext fun i => o2 _ _ (by omega)]
      have o16 : zG S2 D 16 = zG S D 16 := o2 _ _ (by omega)
      refine ⟨by rw [M2.K]; exact k1, _, rfl, mi, m_note dw2 ((o2 _ _ (by omega)).trans md.2.2.1) (by rw [o16]; exact b2) (fun w => by rw [g3] at w; exact absurd z w) (fun _ b x0 x1 w _ => absurd ((bq b).mp w) (no b x0 (by omega))) (fun _ _ w => by omega) (fun _ _ _ S3 m3 dw3 h16 h11 h12 h10 => ?_)⟩
      rw [o16] at h16 h11 h12 h10 ⊢
      have mm : Md (fun x => x = 1 ∨ (415 + 10 * zG S D 16 ≤ x ∧ x ≤ 415 + 10 * zG S D 16 + 9) ∨ x = D ∨ x = D + 10 ∨ x = D + 11 ∨ x = D + 12) S S3 := (m2.wide (fun x hx => by omega)).tr (m3.wide (fun x hx => by omega))
      have mw : Md (WRM D) S S3 := mm.wide (fun x hx => by unfold WRM; omega)
      have oD : ∀ i, i ≠ 16 → zG S3 D i = zG S D i := fun i hi => by
        rw [h16, if_neg hi]
        exact o2 _ _ (by omega)
      have f1 : ∀ i, i ≠ 8 → zG S3 1 i = zG S 1 i := fun i hi => by
        rw [m3.G (by omega), e1 i hi]
        exact m1.G (by omega) _
      have f8 : zG S3 1 8 = zG S D 16 + 1 := by
        rw [m3.G (by omega)]
        exact e8
      have d16 : zG S3 D 16 = zG S D 16 + 1 := by
        rw [h16, if_pos rfl]
      have q3 := (q1.keep M2 (fun x x0 x1 => by omega)).keep m3 (fun x x0 x1 => by omega)
      obtain ⟨tp, -, -, im, tl⟩ := re
      refine ⟨rfl, mid_md m3 mi.1 mi.2.1 (by omega), v, u, p, n, g, F, Δ, kn, cls_wr hD kn cl mw (fun i _ h _ _ => f1 i h) (cl.rd.keep mm (fun i _ => mm.G (by omega) i) (by omega)) (cl.2.1.2.2.2.1.keep mm (fun x x0 x1 => by omega)) (cl.2.1.2.2.2.2.1.keep mm (fun x x0 x1 => by omega)) (cl.2.1.2.2.2.2.2.1.keep mm (fun x x0 x1 => by omega)) (fun t t0 t1 => (cl.sw t0 t1).keep mm (fun x x0 x1 => by omega)) (fun k k0 k1 => ?_), mdl_wr hD md mw dw3 (fun i hi => oD i (by omega)), tp.keep mm (by omega) (by omega) (by omega) (oD _ (by omega)), fun t t0 t1 => (sh t t0 t1).keep mm (fun x x0 x1 => by omega) ⟨mm.G (by omega) _, mm.G (by omega) _, mm.G (by omega) _, mm.G (by omega) _, mm.G (by omega) _, fun i _ _ => mm.G (by omega) _, fun i _ _ => mm.G (by omega) _⟩, ⟨by rw [f8, d16], by rw [d16]; omega, fun k k0 k1 => ?_⟩, im.keep mm (f1 _ (by omega)) (fun x x0 x1 => by omega) (by omega) (by omega) (fun i hi => oD i (by omega)), tl.keep kn.n4 mm (fun x hx => by omega) (fun i hi => f1 i (by omega)) (fun t t0 t1 _ z => ?_)⟩
      · by_cases q : k = zG S D 16
        · rw [q]
          exact q3.w
        · exact (cl.bw k0 k1).keep mm (fun x x0 x1 => by omega)
      · rw [d16] at k1
        by_cases q : k = zG S D 16
        · subst q
          refine ⟨n0, W, ?_⟩
          rw [h11, if_pos rfl, h12, if_pos rfl, o2 _ _ (by omega), o2 _ _ (by omega)]
          refine ⟨q3, fun j i j0 j1 i0 i1 => ?_, el.2.1.2.1, el.2.1.2.2.1, el.2.1.2.2.2, el.2.2.1, el.2.2.2.1, el.2.2.2.2⟩
          rw [h10, if_pos (by omega), o2 _ _ (by omega), show 124 * s + (124 * zG S D 16 + 31 * j + i - 124 * zG S D 16) = 124 * s + 31 * j + i by omega]
          exact el.2.1.1 j i j0 j1 i0 i1
        · refine (b3 k k0 (by omega)).keep mm (fun x x0 x1 => by omega) ?_ ?_ (fun i i0 i1 => ?_)
          · rw [h11, if_neg q]
            exact o2 _ _ (by omega)
          · rw [h12, if_neg q]
            exact o2 _ _ (by omega)
          · rw [h10, if_neg (by omega)]
            exact o2 _ _ (by omega)
      · rw [mm.G (by omega)] at z
        exact ⟨z, mm.G (by omega) _, mm.G (by omega) _, fun i _ _ => mm.G (by omega) _⟩
    · rw [b1] at ge
      exact ⟨_, rfl, id0.1, m_note md.1 md.2.2.1 b2 (fun q => absurd z q) (fun _ b x0 x1 w _ => absurd w (no b x0 x1)) (fun _ _ _ => ⟨rfl, id0⟩) (fun _ _ w => by omega)⟩
    · refine ⟨_, rfl, id0.1, m_note md.1 md.2.2.1 b2 (fun q => absurd z q) (fun _ a a0 a1 e' no' => ?_) (fun _ w _ => absurd e (w b b0 b1)) (fun _ w _ => absurd e (w b b0 b1))⟩
      have ab : a = b := by
        by_cases q : a < b
        · exact absurd e' (no a a0 q)
        · by_cases q2 : b < a
          · exact absurd e (no' b b0 q2)
          · omega
      rw [ab]
      exact ⟨rfl, id0⟩
  · exact ⟨_, rfl, id0.1, m_note md.1 md.2.2.1 b2 (fun _ => ⟨rfl, id0⟩) (fun q => absurd q z) (fun q => absurd q z) (fun q => absurd q z)⟩
