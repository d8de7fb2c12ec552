/-! Calls with elements that are copied: copyOut, loads, spills, note. -/
theorem r_copyOut {d : Nat} {S : Hp} {D k s : Int} (hD : 485 ≤ D) (R : Rel S D) : TW (d + 20) 132 273 [(0, k), (0, s)] S D := by
  obtain ⟨v, u, p, n, g, F, Δ, kn, cl, md, re⟩ := R
  have id0 := rel_id kn cl md re
  obtain ⟨b1, b2, b3⟩ := re.2.2.1
  have n4 := kn.n4
  unfold TW
  apply w_Crc_copyOut_0
  rw [cl.1.a1, cl.c1, b1]
  refine ⟨cl.1.1, cl.vw.1, fun n0 => ⟨fun _ => cl.1.1, fun q => ?_, fun q => s_isShelf ⟨_, rfl, fun z => ?_, fun z => ?_⟩⟩, fun n0 => ?_⟩
  · exact ⟨_, rfl, id0.1, m_copyOut md.1 md.2.2.1 b2 (fun z => absurd z n0) (fun _ _ => ⟨rfl, id0⟩) (fun _ w => by omega)⟩
  · have hs : 0 ≤ s ∧ s < 6 := i1 z
    have hk : 0 ≤ k ∧ k < 7 := by omega
    obtain ⟨-, W, w1, w2, w3, w4, w5, w6, w7, w8⟩ := b3 k hk.1 (by omega)
    rw [cl.1.a7, cl.1.p7 k hk.1 hk.2]
    refine ⟨cl.1.1, ⟨cl.1.k69.1, hk.1, by rw [cl.1.k69.2]; exact hk.2⟩, cl.1.1, s_hold cl.1 (cl.sw hs.1 hs.2) hs w1 (by omega) (fun j j0 j1 i hi => w4 j i (by omega)) (fun S1 m1 h => ⟨rfl, ?_⟩)⟩
    have k1 : zK S1 1 = 11 := by
      rw [m1.K]
      exact cl.1.1
    have a7 : zG S1 1 7 = 69 := by
      rw [h.1 7 (by omega)]
      exact cl.1.a7
    have p7 : zG S1 69 k = 415 + 10 * k := by
      rw [m1.G (by omega)]
      exact cl.1.p7 k hk.1 hk.2
    have q1 := w1.keep m1 (fun x x0 x1 => by omega)
    rw [a7, p7, q1.2.2.1]
    have dw1 : DW S1 D := md.1.md m1 (by omega)
    have mi : MID S S1 D := mid_md m1 cl.1.1 md.1.1 (by omega)
    have o1 : ∀ x i, D ≤ x → zG S1 x i = zG S x i := fun x i hx => m1.G (by omega) i
    refine ⟨k1, ⟨by rw [m1.K]; exact cl.1.k69.1, hk.1, by rw [m1.L, cl.1.k69.2]; exact hk.2⟩, q1.1, _, rfl, mi, m_copyOut dw1 ((o1 _ _ (by omega)).trans md.2.2.1) (by rw [o1 _ _ (by omega)]; exact b2) (fun z => absurd z n0) (fun _ w => by rw [o1 _ _ (by omega)] at w; omega) (fun _ _ S2 m2 dw2 e2 h3 h5 h6 h4 => ?_)⟩
    rw [o1 _ _ (by omega)] at h5 h6 ⊢
    refine ⟨rfl, mid_md m2 mi.1 mi.2.1 (by omega), rel_hold (s := s) (M := zG S (D + 11) k) (c := zG S (D + 12) k) (G := W) hD kn cl md re hs n0 ((m1.wide (fun x hx => by omega)).tr (m2.wide (fun x hx => by omega))) ⟨fun i hi => ?_, ?_, h.2.2.1.keep m2 (fun x x0 x1 => by omega), ?_, fun i hi => ?_, h.2.2.2.2.2.keep m2 (fun x x0 x1 => by omega)⟩ ((cl.2.1.2.2.2.2.1.keep m1 (fun x x0 x1 => by omega)).keep m2 (fun x x0 x1 => by omega)) ((cl.2.1.2.2.2.2.2.1.keep m1 (fun x x0 x1 => by omega)).keep m2 (fun x x0 x1 => by omega)) dw2 (fun i _ => ?_) h3 h5 h6 w6 w7 w8 ⟨fun j i j0 j1 i0 i1 => ?_, w3, w4, w5⟩ (fun t t0 t1 q => ⟨?_, ?_, ?_, fun i i0 i1 => ?_⟩)⟩
    · rw [m2.G (by omega)]
      exact h.1 i hi
    · rw [m2.G (by omega)]
      exact h.2.1
    · rw [m2.G (by omega)]
      exact h.2.2.2.1
    · rw [m2.G (by omega)]
      exact h.2.2.2.2.1 i hi
    · rw [m2.G (by omega)]
      exact o1 _ _ (by omega)
    · rw [h4, if_pos (by omega), o1 _ _ (by omega), show 124 * k + (124 * s + 31 * j + i - 124 * s) = 124 * k + 31 * j + i by omega]
      exact w2 j i j0 j1 i0 i1
    · rw [(e2 t q).1]
      exact o1 _ _ (by omega)
    · rw [(e2 t q).2.1]
      exact o1 _ _ (by omega)
    · rw [(e2 t q).2.2]
      exact o1 _ _ (by omega)
    · rw [h4, if_neg (by omega)]
      exact o1 _ _ (by omega)
  · have z' := i2 z
    exact ⟨_, rfl, id0.1, m_copyOut md.1 md.2.2.1 b2 (fun z => absurd z n0) (fun _ _ => ⟨rfl, id0⟩) (fun _ w => absurd w.2 z')⟩
  · exact ⟨_, rfl, id0.1, m_copyOut md.1 md.2.2.1 b2 (fun _ => ⟨rfl, id0⟩) (fun w => absurd (Classical.not_not.mp n0) w) (fun w => absurd (Classical.not_not.mp n0) w)⟩
theorem QW.q {S : Hp} {a r : Int} (h : QW S a r) : zK S a = 8 ∧ zG S a 0 = a + 1 := ⟨h.1, h.2.1⟩
theorem ldW_z {p m : Int} {r : Int → Int} {j x : Int} (h : ¬ (0 ≤ j ∧ 0 ≤ x ∧ x < 8 ∧ 8 * j + x < m)) : ldW p m r j x = 0 := if_neg h
theorem ldW_b {p m : Int} {r : Int → Int} (hp : 0 < p) (j x : Int) : 0 ≤ ldW p m r j x ∧ ldW p m r j x < p := by
  unfold ldW
  split
  · exact ⟨em_ge (by omega), em_lt (by omega)⟩
  · omega
theorem r_loads {d : Nat} {S : Hp} {D s t : Int} (hD : 485 ≤ D) (R : Rel S D) : TW (d + 20) 137 279 [(0, s), (0, t)] S D := by
  obtain ⟨v, u, p, n, g, F, Δ, kn, cl, md, re⟩ := R
  have id0 := rel_id kn cl md re
  have sh := re.2.1
  have n4 := kn.n4
  have h2 := kn.1.two
  have hZ : 0 ≤ s → s < 6 → 0 ≤ zG S (D + 8) s ∧ zG S (D + 8) s ≤ 40 := fun s0 s1 => (sh s s0 s1).2.2.2.2.2.1
  unfold TW
  apply w_Crc_loads_0
  rw [cl.1.a1, cl.c1]
  refine ⟨cl.1.1, cl.vw.1, fun n0 => s_isShelf ⟨_, rfl, fun z => ⟨cl.1.1, s_rowRefusal cl sh ⟨_, rfl, fun y => ?_, fun y => ?_⟩⟩, fun z => ?_⟩, fun n0 => ?_⟩
  · have ht : 0 ≤ t ∧ t < 6 := i1 z
    obtain ⟨hs, y0, y1⟩ := rfR_ok y
    obtain ⟨a1, a2, a3, a4, a5, a6, a7, -⟩ := sh s hs.1 hs.2
    have sw := cl.sw hs.1 hs.2
    rw [cl.1.a6, cl.1.p6 s hs.1 hs.2]
    refine ⟨cl.1.1, ⟨cl.1.k68.1, hs.1, by rw [cl.1.k68.2]; exact hs.2⟩, ?_⟩
    rintro _ rfl
    rw [a5, cl.1.a1, cl.c1, w32_id (by omega) (by omega)]
    refine ⟨sw.1, cl.1.1, cl.vw.1, s_min ⟨_, rfl, cl.1.1, ?_⟩⟩
    rw [cl.1.a9]
    have q7 : QW S 70 128 := cl.2.1.2.2.2.2.1
    have q8 : QW S 80 128 := cl.2.1.2.2.2.2.2.1
    refine ⟨q7.1, s_qzero q7 (show 0 < p by omega) (fun S1 m1 z1 => ⟨rfl, ?_⟩)⟩
    unfold MQ' at m1
    have hl : 0 ≤ min (zG S (D + 8) s) (8 * n) ∧ min (zG S (D + 8) s) (8 * n) ≤ 40 ∧ min (zG S (D + 8) s) (8 * n) ≤ 8 * n ∧ min (zG S (D + 8) s) (8 * n) ≤ zG S (D + 8) s := by omega
    have ref : ∀ S2, Md (fun x => 70 ≤ x ∧ x ≤ 79) S S2 → ∀ S3, Md (fun x => x = 1 ∨ (343 + 12 * t ≤ x ∧ x ≤ 353 + 12 * t)) S2 S3 → HLD p t 0 0 (ldW p (min (zG S (D + 8) s) (8 * n)) (fun x => zG S (D + 9) (40 * s + x))) S2 S3 → QW S2 70 128 → ∃ y, ((0, min (zG S (D + 8) s) (8 * n)) : Vl) = (0, y) ∧ MID S S3 D ∧ Ev (d + 20) 279 [(2, D), (0, s), (0, t)] S3 (fun r' S2 => r' = (0, y) ∧ MID S3 S2 D ∧ Rel S2 D) := fun S2 m2 S3 m3 h q72 => by
      have m23 : Md (fun x => x = 1 ∨ (70 ≤ x ∧ x ≤ 79) ∨ (343 + 12 * t ≤ x ∧ x ≤ 353 + 12 * t)) S S3 := (m2.wide (fun x hx => by omega)).tr (m3.wide (fun x hx => by omega))
      have o3 : ∀ x i, D ≤ x → zG S3 x i = zG S x i := fun x i hx => m23.G (by omega) i
      have dw3 : DW S3 D := md.1.md m23 (by omega)
      have mi : MID S S3 D := mid_md m23 cl.1.1 md.1.1 (by omega)
      have g8 : zG S3 (D + 8) = zG S (D + 8) := funext fun i => o3 _ _ (by omega)
      have g3 : zG S3 (D + 3) = zG S (D + 3) := funext fun i => o3 _ _ (by omega)
      have g9 : zG S3 (D + 9) = zG S (D + 9) := funext fun i => o3 _ _ (by omega)
      refine ⟨_, rfl, mi, m_loads dw3 ((o3 _ _ (by omega)).trans md.2.1) h2 ((o3 _ _ (by omega)).trans md.2.2.1) kn.2.1 (by rw [g8]; exact hZ) (fun w => absurd w n0) (fun _ w => absurd ⟨hs, ht⟩ w) (fun _ _ w => by rw [g3] at w; exact absurd y w) (fun _ _ _ S4 r => ?_)⟩
      rw [g8, g9] at r
      rw [g8]
      obtain ⟨r1, r2, r3, r4, r5, r6, r7, r8, r9⟩ := r
      refine ⟨rfl, mid_md r1 mi.1 mi.2.1 (by omega), rel_hold (s := t) (M := 0) (c := 0) (G := ldW p (min (zG S (D + 8) s) (8 * n)) (fun x => zG S (D + 9) (40 * s + x))) hD kn cl md re ht n0 ((m23.wide (fun x hx => by omega)).tr (r1.wide (fun x hx => by omega))) ⟨fun i hi => ?_, ?_, h.2.2.1.keep r1 (fun x x0 x1 => by omega), ?_, fun i hi => ?_, h.2.2.2.2.2.keep r1 (fun x x0 x1 => by omega)⟩ ((q72.keep m3 (fun x x0 x1 => by omega)).keep r1 (fun x x0 x1 => by omega)) ?_ r2 (fun i hi => ?_) r5 r6 r7 (by omega) (by omega) ⟨fun _ => rfl, fun w => absurd rfl w⟩ ⟨r8, ldW_b (by omega), fun j i hi => ldW_z (by omega), fun j i hi => ldW_z (by omega)⟩ (fun t' t0 t1 q => ⟨?_, ?_, ?_, fun i i0 i1 => ?_⟩)⟩
      · rw [r1.G (by omega), h.1 i hi]
        exact m2.G (by omega) _
      · rw [r1.G (by omega), h.2.1, m2.G (by omega)]
      · rw [r1.G (by omega)]
        exact h.2.2.2.1
      · rw [r1.G (by omega), h.2.2.2.2.1 i hi]
        exact m2.G (by omega) _
      · exact (q8.keep m23 (fun x x0 x1 => by omega)).keep r1 (fun x x0 x1 => by omega)
      · rw [r3 i (by omega) (by omega)]
        exact o3 _ _ (by omega)
      · rw [(r4 t' q).1]
        exact o3 _ _ (by omega)
      · rw [(r4 t' q).2.1]
        exact o3 _ _ (by omega)
      · rw [(r4 t' q).2.2]
        exact o3 _ _ (by omega)
      · rw [r9 _ (by omega)]
        exact o3 _ _ (by omega)
    refine loopU (P := fun k S' => At (d + 19 + 1) 137 c137_72 [(0, (2, 1)), (2, (0, t)), (4, (2, 343 + 12 * s)), (5, (0, min (zG S (D + 8) s) (8 * n))), (6, (0, k))] [] S' (fun r S1 => ∃ x, r = (0, x) ∧ MID S S1 D ∧ Ev (d + 20) 279 [(2, D), (0, s), (0, t)] S1 (fun r' S2 => r' = (0, x) ∧ MID S1 S2 D ∧ Rel S2 D))) (I := fun k S2 => 0 ≤ k ∧ Md (fun x => 70 ≤ x ∧ x ≤ 79) S S2 ∧ QN S2 70 128 p 0 0 (ldW p k (fun x => zG S (D + 9) (40 * s + x)))) (min (zG S (D + 8) s) (8 * n)) ?_ ?_ 0 S1 hl.1 ⟨by omega, m1.wide (fun x hx => by omega), z1.congr (fun j j0 j1 x => (ldW_z (by omega)).symm)⟩
    · rintro k S2 hk ⟨k0, m2, q2⟩ next
      have cl2 : CP S2 v u := cl.1.keep m2 (by omega) (by omega) (by omega) (by omega)
      have vw2 : VW S2 v := cl.vw.keep m2 (fun x x0 x1 => by have := cl.1.2.2.2.2.1; omega)
      have c02 : zG S2 v 0 = p := by
        rw [m2.G (by have := cl.1.2.2.2.2.1; omega)]
        exact cl.c0
      have sw2 : SW S2 (343 + 12 * s) := sw.keep m2 (fun x x0 x1 => by omega)
      have td : k.tdiv 8 = k / 8 := Int.tdiv_eq_ediv_of_nonneg k0
      have tm : k.tmod 8 = k % 8 := Int.tmod_eq_emod_of_nonneg k0
      have lan := q2.2.2.2.2
      have ln := lan.at (i := k / 8) (by omega) (by omega)
      have a7k := a7 (by omega) k k0 (by omega)
      have rv : zG S2 (343 + 12 * s + 11) k = zG S (D + 9) (40 * s + k) := by
        rw [m2.G (by omega)]
        exact a7k.1
      apply w_Crc_loads_72
      rw [cl2.a9, cl2.a1, c02, q2.2.1, td, tm, w32_id (by omega) (by omega), lan.ptr (show 0 ≤ k / 8 by omega) (by omega), sw2.2.2.2.1, rv]
      refine ⟨fun w => by omega, fun _ => ⟨cl2.1, q2.1, by decide, ⟨lan.1, by omega, by rw [lan.2.1]; omega⟩, by decide, sw2.1, ⟨sw2.2.2.2.2.1, k0, by rw [sw2.2.2.2.2.2]; omega⟩, cl2.1, vw2.1, s_floorModL h2 a7k.2 ⟨_, rfl, ln.ln.1, ?_⟩⟩⟩
      have e0 := em_ge (x := zG S (D + 9) (40 * s + k)) (p := p) (by omega)
      have e1 := em_lt (x := zG S (D + 9) (40 * s + k)) (p := p) (by omega)
      rw [w32_id (by omega) (by omega)]
      refine n_write ln (fun x hx => ldW_z (by omega)) (by omega) (by omega) ⟨e0, e1⟩ (fun S3 m3 ln3 => ⟨rfl, ?_⟩)
      rintro _ rfl
      rw [w32_id (by omega) (by omega)]
      have hne : ¬ ML (70 + 1 + 1 + 2 * (k / 8)) 70 := by
        unfold ML
        omega
      refine next S3 ⟨by omega, m2.tr (m3.wide (fun x hx => by unfold ML at hx; omega)), ⟨by rw [m3.K]; exact q2.1, by rw [m3.G hne]; exact q2.2.1, by rw [m3.G hne]; exact q2.2.2.1, by rw [m3.G hne]; exact q2.2.2.2.1, (lan.set m3 (by omega) (by omega) ln3).congr (fun j j0 j1 x => ?_)⟩⟩
      by_cases q : j = k / 8
      · rw [if_pos q]
        by_cases q2 : x = k % 8
        · rw [if_pos q2]
          unfold ldW
          rw [if_pos (by omega), show 8 * j + x = k by omega]
        · rw [if_neg q2, ← q]
          unfold ldW
          by_cases q3 : 0 ≤ j ∧ 0 ≤ x ∧ x < 8 ∧ 8 * j + x < k
          · rw [if_pos q3, if_pos (by omega)]
          · rw [if_neg q3, if_neg (by omega)]
      · rw [if_neg q]
        unfold ldW
        by_cases q3 : 0 ≤ j ∧ 0 ≤ x ∧ x < 8 ∧ 8 * j + x < k
        · rw [if_pos q3, if_pos (by omega)]
        · rw [if_neg q3, if_neg (by omega)]
    · rintro S2 ⟨k0, m2, q2⟩
      have cl2 : CP S2 v u := cl.1.keep m2 (by omega) (by omega) (by omega) (by omega)
      apply w_Crc_loads_72
      rw [cl2.a9]
      refine ⟨fun _ => ⟨cl2.1, cl2.1, s_hold cl2 ((cl.sw ht.1 ht.2).keep m2 (fun x x0 x1 => by omega)) ht q2 (by omega) (fun j j0 j1 i hi => ldW_z (by omega)) (fun S3 m3 h => ⟨rfl, ref S2 m2 S3 m3 h q2.w⟩)⟩, fun w => absurd (Int.le_refl _) w⟩
  · exact ⟨_, rfl, id0.1, m_loads md.1 md.2.1 h2 md.2.2.1 kn.2.1 hZ (fun w => absurd w n0) (fun _ w => by
      have ht : 0 ≤ t ∧ t < 6 := i1 z
      have ns : ¬ (0 ≤ s ∧ s < 6) := fun q => w ⟨q, ht⟩
      unfold rfR
      rw [if_neg ns]
      exact ⟨rfl, id0⟩) (fun _ _ _ => ⟨rfl, id0⟩) (fun _ _ w => absurd w y)⟩
  · have z' := i2 z
    exact ⟨_, rfl, id0.1, m_loads md.1 md.2.1 h2 md.2.2.1 kn.2.1 hZ (fun w => absurd w n0) (fun _ _ => ⟨rfl, id0⟩) (fun _ w => absurd w.2 z') (fun _ w => absurd w.2 z')⟩
  · have z' := Classical.not_not.mp n0
    exact ⟨_, rfl, id0.1, m_loads md.1 md.2.1 h2 md.2.2.1 kn.2.1 hZ (fun _ => ⟨rfl, id0⟩) (fun w => absurd z' w) (fun w => absurd z' w) (fun w => absurd z' w)⟩
