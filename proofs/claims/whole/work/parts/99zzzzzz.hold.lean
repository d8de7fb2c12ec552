/-! An element comes to a shelf. -/
/-- the class puts a quotient on shelf s -/
def HLD (p s M c : Int) (G : Int → Int → Int) (S S' : Hp) : Prop := (∀ i, i ≠ 14 → zG S' 1 i = zG S 1 i) ∧ zG S' 1 14 = (if zG S 1 14 = s then -1 else zG S 1 14) ∧ SW S' (343 + 12 * s) ∧ zG S' (343 + 12 * s) 0 = 1 ∧ (∀ i, i ≠ 0 → zG S' (343 + 12 * s) i = zG S (343 + 12 * s) i) ∧ QN S' (343 + 12 * s + 1) 31 p M c G
theorem s_hold {d : Nat} {S : Hp} {v u p s a r M c : Int} {G : Int → Int → Int} {Q : Vl → Hp → Prop} (cp : CP S v u) (sw : SW S (343 + 12 * s)) (hs : 0 ≤ s ∧ s < 6) (hq : QN S a r p M c G) (ha : (70 ≤ a ∧ a + 9 < 343) ∨ 415 ≤ a) (hu : ∀ j, 0 ≤ j → j < 4 → ∀ i, 31 ≤ i → G j i = 0) (H : ∀ S', Md (fun x => x = 1 ∨ (343 + 12 * s ≤ x ∧ x ≤ 353 + 12 * s)) S S' → HLD p s M c G S S' → Q (3, 0) S') : Ev (d + 2) 153 [(2, 1), (0, s), (2, a)] S Q := by
  have go : ∀ S1, Md (fun x => x = 1) S S1 → CP S1 v u → (∀ i, i ≠ 14 → zG S1 1 i = zG S 1 i) → zG S1 1 14 = (if zG S 1 14 = s then -1 else zG S 1 14) → At (d + 1 + 1) 153 c153_13 [(0, (2, 1)), (1, (0, s)), (2, (2, a))] [] S1 Q := fun S1 m1 cp1 o1 t1 => by
    have sw1 : SW S1 (343 + 12 * s) := sw.keep m1 (fun x x0 x1 => by omega)
    apply w_Crc_hold_13
    rw [cp1.a6, cp1.p6 s hs.1 hs.2]
    refine ⟨cp1.1, ⟨cp1.k68.1, hs.1, by rw [cp1.k68.2]; exact hs.2⟩, sw1.1, ?_⟩
    rintro _ rfl
    have M2 := Md.zS S1 (343 + 12 * s) 0 1
    have e0 : zG (zS S1 (343 + 12 * s) 0 1) (343 + 12 * s) 0 = 1 := zG_zS_at _ _ _ _
    have e1 : ∀ i, i ≠ 0 → zG (zS S1 (343 + 12 * s) 0 1) (343 + 12 * s) i = zG S1 (343 + 12 * s) i := fun i hi => zG_zS_ne _ (Or.inr hi)
    generalize zS S1 (343 + 12 * s) 0 1 = S2 at M2 e0 e1 ⊢
    have cp2 : CP S2 v u := cp1.keep M2 (by omega) (by omega) (by omega) (by omega)
    have sw2 : SW S2 (343 + 12 * s) := ⟨by rw [M2.K]; exact sw1.1, by rw [e1 _ (by omega)]; exact sw1.2.1, sw1.2.2.1.keep M2 (fun x x0 x1 => by omega), by rw [e1 _ (by omega)]; exact sw1.2.2.2.1, by rw [M2.K]; exact sw1.2.2.2.2.1, by rw [M2.L]; exact sw1.2.2.2.2.2⟩
    have q2 : QN S2 a r p M c G := (hq.keep m1 (fun x x0 x1 => by omega)).keep M2 (fun x x0 x1 => by omega)
    rw [cp2.a6, cp2.p6 s hs.1 hs.2, sw2.2.1]
    refine ⟨cp2.1, ⟨cp2.k68.1, hs.1, by rw [cp2.k68.2]; exact hs.2⟩, sw2.1, sw2.2.2.1.1, s_qtake sw2.2.2.1 q2 (by omega) hu (fun S3 m3 q3 => ⟨rfl, ?_⟩)⟩
    unfold MQ' at m3
    have n1 : ∀ i, zG S3 1 i = zG S1 1 i := fun i => by rw [m3.G (by omega), M2.G (by omega)]
    have nh : ∀ i, zG S3 (343 + 12 * s) i = zG S2 (343 + 12 * s) i := fun i => m3.G (by omega) i
    refine H S3 ((m1.wide (fun x hx => by omega)).tr ((M2.wide (fun x hx => by omega)).tr (m3.wide (fun x hx => by omega)))) ⟨fun i hi => (n1 i).trans (o1 i hi), by rw [n1]; exact t1, ⟨by rw [m3.K]; exact sw2.1, by rw [nh]; exact sw2.2.1, q3.w, by rw [nh]; exact sw2.2.2.2.1, by rw [m3.K]; exact sw2.2.2.2.2.1, by rw [m3.L]; exact sw2.2.2.2.2.2⟩, by rw [nh]; exact e0, fun i hi => ?_, q3⟩
    rw [nh, e1 i hi]
    exact m1.G (by omega) i
  apply w_Crc_hold_0
  refine ⟨cp.1, fun z => go S (Md.refl _ _) cp (fun i _ => rfl) (by rw [if_neg z]), fun z => ⟨cp.1, ?_⟩⟩
  rintro _ rfl
  exact go _ (Md.zS _ _ _ _) (cp.put (by omega)) (fun i hi => zG_zS_ne _ (Or.inr hi)) (by rw [if_pos (Classical.not_not.mp z)]; exact zG_zS_at _ _ _ _)
theorem rel_hold {S S' : Hp} {D v u p n g s M c : Int} {F Δ : Int → Int} {G : Int → Int → Int} (hD : 485 ≤ D) (kn : KNO p n g F Δ) (cl : CLS S v u p n g F Δ) (md : MDL S D p n g F Δ) (re : RES S D p n F) (hs : 0 ≤ s ∧ s < 6) (n0 : n ≠ 0) (m : Md (fun x => x = 1 ∨ (70 ≤ x ∧ x ≤ 89) ∨ (343 + 12 * s ≤ x ∧ x ≤ 353 + 12 * s) ∨ x = D ∨ (D + 3 ≤ x ∧ x ≤ D + 6) ∨ (D + 14 ≤ x ∧ x ≤ D + 31) ∨ (D + 34 ≤ x ∧ x ≤ D + 42)) S S') (h : HLD p s M c G S S') (q7 : QW S' 70 128) (q8 : QW S' 80 128) (dw : DW S' D) (o : ∀ i, i = 0 ∨ i = 1 ∨ i = 2 ∨ i = 16 ∨ i = 18 ∨ i = 47 ∨ i = 48 ∨ i = 61 ∨ i = 62 ∨ i = 63 → zG S' D i = zG S D i) (h3 : zG S' (D + 3) s = 1) (h5 : zG S' (D + 5) s = M) (h6 : zG S' (D + 6) s = c) (hM : 0 ≤ M ∧ M ≤ 20) (hc : 0 ≤ c ∧ c < p) (hz : LOW p M c G) (el : elW S' D s n p G) (e : ∀ t, 0 ≤ t → t < 6 → t ≠ s → zG S' (D + 3) t = zG S (D + 3) t ∧ zG S' (D + 5) t = zG S (D + 5) t ∧ zG S' (D + 6) t = zG S (D + 6) t ∧ ∀ i, 0 ≤ i → i < 124 → zG S' (D + 4) (124 * t + i) = zG S (D + 4) (124 * t + i)) : Rel S' D := by
  have mw : Md (WRM D) S S' := m.wide (fun x hx => by unfold WRM; omega)
  obtain ⟨j1, j14, jsw, j0, jh, jq⟩ := h
  obtain ⟨tp, sh, bk, im, tl⟩ := re
  have gg : ∀ x i, (x = D + 7 ∨ x = D + 8 ∨ x = D + 9) → zG S' x i = zG S x i := fun x i hx => m.G (by omega) i
  refine ⟨v, u, p, n, g, F, Δ, kn, cls_wr hD kn cl mw (fun i _ _ h14 _ => j1 i h14) (cl.rd.keep m (fun i _ => m.G (by omega) i) (by omega)) (cl.2.1.2.2.2.1.keep m (fun x x0 x1 => by omega)) q7 q8 (fun t t0 t1 => ?_) (fun k k0 k1 => (cl.bw k0 k1).keep m (fun x x0 x1 => by omega)), mdl_wr hD md mw dw (fun i hi => o i (by omega)), tp.keep m (by omega) (by omega) (by omega) (o _ (by omega)), fun t t0 t1 => ?_, bk.keep m (j1 _ (by omega)) (fun x x0 x1 => by omega) (by omega) (by omega) (by omega) (o _ (by omega)), im.keep m (j1 _ (by omega)) (fun x x0 x1 => by omega) (by omega) (by omega) (fun i hi => o i (by omega)), ?_⟩
  · by_cases q : t = s
    · rw [q]
      exact jsw
    · exact (cl.sw t0 t1).keep m (fun x x0 x1 => by omega)
  · by_cases q : t = s
    · subst q
      obtain ⟨a1, a2, a3, a4, a5, a6, a7, -⟩ := sh t t0 t1
      refine ⟨?_, ?_, ?_, ?_, ?_, ?_, fun h2 i i0 i1 => ?_, fun _ => ⟨n0, G, ?_⟩⟩
      · rw [j0, h3]
      · rw [h3]
        omega
      · rw [jh _ (by omega), gg _ _ (by omega)]
        exact a3
      · rw [gg _ _ (by omega)]
        exact a4
      · rw [jh _ (by omega), gg _ _ (by omega)]
        exact a5
      · rw [gg _ _ (by omega)]
        exact a6
      · rw [h3] at h2
        omega
      · unfold ELE
        rw [h5, h6]
        exact ⟨jq, el, hM, hc, hz⟩
    · obtain ⟨e3, e5, e6, e4⟩ := e t t0 t1 q
      exact (sh t t0 t1).keep m (fun x x0 x1 => by omega) ⟨e3, e5, e6, gg _ _ (by omega), gg _ _ (by omega), fun i _ _ => gg _ _ (by omega), e4⟩
  · by_cases q : zG S 1 14 = s
    · rw [if_pos q] at j14
      exact Or.inl j14
    · rw [if_neg q] at j14
      refine tl.keep kn.n4 m (fun x hx => by omega) (fun i hi => ?_) (fun t t0 t1 ht z => ?_)
      · rcases hi with hi | hi
        · rw [hi]
          exact j14
        · exact j1 i (by omega)
      · have ts : t ≠ s := fun w => q (ht.trans w)
        obtain ⟨e3, e5, e6, e4⟩ := e t t0 t1 ts
        rw [e3] at z
        exact ⟨z, e5, e6, e4⟩
theorem lw_low {p c T : Int} : ∀ (m : Nat) {W : Int → Int → Int}, lwM p c T m W ≠ 0 → ¬ rootAll p c T (lwF p c T m W)
  | 0, _, h => absurd rfl h
  | m + 1, W, h => by
    by_cases q : rootAll p c T W
    · rw [(lwM_yes q).1] at h
      rw [(lwM_yes q).2]
      exact lw_low m h
    · rw [(lwM_no q).2]
      exact q
theorem stP_zero {D p s c c' : Int} {W : Int → Int → Int} {S : Hp} {Q : Vl → Hp → Prop} (h : stP D p s 0 c W S Q) : stP D p s 0 c' W S Q := by
  unfold stP at h ⊢
  have a : lwM p c' 99 (0 : Int).toNat W = lwM p c 99 (0 : Int).toNat W := rfl
  have b : lwF p c' 99 (0 : Int).toNat W = lwF p c 99 (0 : Int).toNat W := rfl
  rw [a, b]
  refine ⟨fun f S' r => h.1 f S' ?_, fun f S' r => h.2 f S' r⟩
  obtain ⟨r1, r2, r3, r4, r5, r6, r7, r8⟩ := r
  have z : ((lwM p c 99 (0 : Int).toNat W : Nat) : Int) = 0 := rfl
  rw [z] at r7 ⊢
  rw [z] at r6
  exact ⟨r1, r2, r3, r4, r5, r6, r7, r8⟩
/-- the class settles what stands at work; then the reference does -/
theorem s_storeR {d : Nat} {S0 S : Hp} {D v u p n g s m c : Int} {F Δ : Int → Int} {W : Int → Int → Int} {Q : Vl → Hp → Prop} (hD : 485 ≤ D) (kn : KNO p n g F Δ) (cl : CLS S0 v u p n g F Δ) (md : MDL S0 D p n g F Δ) (re : RES S0 D p n F) (hs : 0 ≤ s ∧ s < 6) (n0 : n ≠ 0) (m0 : Md (fun x => 70 ≤ x ∧ x ≤ 89) S0 S) (hq : QN S 70 128 p m c W) (q8 : QW S 80 128) (hc : 0 ≤ c ∧ c < p) (hm : 0 ≤ m ∧ m < 1000) (hT : ∀ j, 0 ≤ j → j < 4 → ∀ i, 99 < i → W j i = 0) (bW : ∀ j i, 0 ≤ lwF p c 99 m.toNat W j i ∧ lwF p c 99 m.toNat W j i < p) (nW : ∀ j i, i < 0 → lwF p c 99 m.toNat W j i = 0) (zW : ∀ j i, j < 0 ∨ n ≤ j → lwF p c 99 m.toNat W j i = 0) (H : ∀ x S1, Md (fun x => x = 1 ∨ (70 ≤ x ∧ x ≤ 89) ∨ (343 + 12 * s ≤ x ∧ x ≤ 353 + 12 * s)) S0 S1 → MID S0 S1 D → stP D p s m c W S1 (fun r' S2 => r' = (0, x) ∧ MID S1 S2 D ∧ Rel S2 D) → Q (0, x) S1) : Ev (d + 3) 154 [(2, 1), (0, s)] S Q := by
  have h2 := kn.1.two
  have cp : CP S v u := cl.1.keep m0 (by omega) (by omega) (by omega) (by omega)
  have vu := cp.2.2.2.2.1
  have vw : VW S v := cl.vw.keep m0 (fun x x0 x1 => by omega)
  have c0 : zG S v 0 = p := by
    rw [m0.G (by omega)]
    exact cl.c0
  apply w_Crc_store_0
  rw [cp.a9, cp.a1, c0]
  refine ⟨cp.1, cp.1, vw.1, hq.1, ?_⟩
  apply w_Quotient_lower_e
  refine s_lower (T := 99) hc ⟨by omega, by omega⟩ (by omega) m.toNat S W (by omega) (by rw [show ((m.toNat : Nat) : Int) = m by omega]; exact hq) hT (fun S1 m1 q1 => ⟨rfl, ?_⟩)
  unfold MQ' at m1
  have cp1 : CP S1 v u := cp.keep m1 (by omega) (by omega) (by omega) (by omega)
  have mm1 : Md (fun x => 70 ≤ x ∧ x ≤ 89) S0 S1 := m0.tr (m1.wide (fun x hx => by omega))
  have q81 : QW S1 80 128 := q8.keep m1 (fun x x0 x1 => by omega)
  rw [cp1.a9]
  refine ⟨cp1.1, q1.1, s_hasRoom q1 (fun fit => ⟨_, rfl, fun _ => ?_, fun z => absurd (by decide) z⟩) (fun nofit => ⟨_, rfl, fun z => absurd rfl z, fun _ => ?_⟩)⟩
  · have sw1 : SW S1 (343 + 12 * s) := (cl.sw hs.1 hs.2).keep mm1 (fun x x0 x1 => by omega)
    refine ⟨cp1.1, cp1.1, ?_⟩
    rw [cp1.a9]
    refine s_hold cp1 sw1 hs q1 (by omega) (fun j j0 j1 i hi => fit.2 j j0 j1 i (by omega)) (fun S2 m2 h => ⟨rfl, ?_⟩)
    have mm2 : Md (fun x => x = 1 ∨ (70 ≤ x ∧ x ≤ 89) ∨ (343 + 12 * s ≤ x ∧ x ≤ 353 + 12 * s)) S0 S2 := (mm1.wide (fun x hx => by omega)).tr (m2.wide (fun x hx => by omega))
    have k1 : zK S2 1 = 11 := by
      rw [m2.K]
      exact cp1.1
    have a9 : zG S2 1 9 = 70 := by
      rw [h.1 9 (by omega)]
      exact cp1.a9
    have q2 : QN S2 70 128 p _ _ _ := q1.keep m2 (fun x x0 x1 => by omega)
    rw [a9, q2.2.2.1]
    refine ⟨k1, q2.1, H _ S2 mm2 (mid_md mm2 cl.1.1 md.1.1 (by omega)) ⟨fun _ S3 r => ?_, fun f => absurd fit f⟩⟩
    obtain ⟨r1, r2, r3, r4, r5, r6, r7, r8, r9⟩ := r
    have mi2 : MID S0 S2 D := mid_md mm2 cl.1.1 md.1.1 (by omega)
    refine ⟨rfl, mid_md r1 mi2.1 mi2.2.1 (by omega), ?_⟩
    have mm3 : Md (fun x => x = 1 ∨ (70 ≤ x ∧ x ≤ 89) ∨ (343 + 12 * s ≤ x ∧ x ≤ 353 + 12 * s) ∨ x = D ∨ (D + 3 ≤ x ∧ x ≤ D + 6) ∨ (D + 14 ≤ x ∧ x ≤ D + 31) ∨ (D + 34 ≤ x ∧ x ≤ D + 42)) S0 S3 := (mm2.wide (fun x hx => by omega)).tr (r1.wide (fun x hx => by omega))
    have lk : (if lwM p c 99 m.toNat W = 0 then (0 : Int) else c) = if ((lwM p c 99 m.toNat W : Nat) : Int) = 0 then 0 else c := by
      by_cases q : lwM p c 99 m.toNat W = 0
      · rw [if_pos q, if_pos (by omega)]
      · rw [if_neg q, if_neg (by omega)]
    refine rel_hold (G := lwF p c 99 m.toNat W) hD kn cl md re hs n0 mm3 ⟨fun i hi => ?_, ?_, h.2.2.1.keep r1 (fun x x0 x1 => by omega), ?_, fun i hi => ?_, h.2.2.2.2.2.keep r1 (fun x x0 x1 => by omega)⟩ (q2.w.keep r1 (fun x x0 x1 => by omega)) ((q81.keep m2 (fun x x0 x1 => by omega)).keep r1 (fun x x0 x1 => by omega)) r2 (fun i hi => ?_) r5 r6 (by rw [r7, lk]) ⟨by omega, fit.1⟩ ?_ ⟨fun z => ?_, fun z => ?_⟩ ⟨fun j i j0 j1 i0 i1 => r8 j i j0 j1 i0 i1, bW, fun j i hi => ?_, zW⟩ (fun t t0 t1 q => ⟨?_, ?_, ?_, fun i i0 i1 => ?_⟩)
    · rw [r1.G (by omega), h.1 i hi]
      exact mm1.G (by omega) _
    · rw [r1.G (by omega), h.2.1, mm1.G (by omega)]
    · rw [r1.G (by omega)]
      exact h.2.2.2.1
    · rw [r1.G (by omega), h.2.2.2.2.1 i hi]
      exact mm1.G (by omega) _
    · rw [r3 i (by omega) (by omega)]
      exact mm2.G (by omega) _
    · by_cases q : lwM p c 99 m.toNat W = 0
      · rw [if_pos q]
        omega
      · rw [if_neg q]
        exact hc
    · rw [if_pos (by omega)]
    · rw [if_neg (by omega)]
      exact lw_low m.toNat (by omega)
    · rcases hi with hi | hi
      · exact nW j i hi
      · by_cases jj : 0 ≤ j ∧ j < 4
        · exact fit.2 j jj.1 jj.2 i hi
        · have := kn.n4
          exact zW j i (by omega)
    · rw [(r4 t q).1]
      exact mm2.G (by omega) _
    · rw [(r4 t q).2.1]
      exact mm2.G (by omega) _
    · rw [(r4 t q).2.2]
      exact mm2.G (by omega) _
    · rw [r9 _ (by omega)]
      exact mm2.G (by omega) _
  · have mm2 : Md (fun x => x = 1 ∨ (70 ≤ x ∧ x ≤ 89) ∨ (343 + 12 * s ≤ x ∧ x ≤ 353 + 12 * s)) S0 S1 := mm1.wide (fun x hx => by omega)
    have mi : MID S0 S1 D := mid_md mm2 cl.1.1 md.1.1 (by omega)
    refine H _ S1 mm2 mi ⟨fun f => absurd f nofit, fun _ S3 r => ⟨rfl, mid_md r.1 mi.1 mi.2.1 (by omega), ?_⟩⟩
    obtain ⟨r1, r2, r3⟩ := r
    have mw : Md (WRM D) S0 S3 := (mm1.wide (fun x hx => by unfold WRM; omega)).tr (r1.wide (fun x hx => by unfold WRM; omega))
    have m3 : Md (fun x => (70 ≤ x ∧ x ≤ 89) ∨ x = D ∨ x = D + 41) S0 S3 := (mm1.wide (fun x hx => by omega)).tr (r1.wide (fun x hx => by omega))
    have o : ∀ i, i ≠ 58 → i ≠ 59 → zG S3 D i = zG S0 D i := fun i h1 h2 => by
      rw [r3 i h1 h2]
      exact mm1.G (by omega) _
    exact ⟨v, u, p, n, g, F, Δ, kn, cls_wr hD kn cl mw (fun i _ _ _ _ => m3.G (by omega) i) (cl.rd.keep m3 (fun i _ => m3.G (by omega) i) (by omega)) (cl.2.1.2.2.2.1.keep m3 (fun x x0 x1 => by omega)) (q1.w.keep r1 (fun x x0 x1 => by omega)) (q81.keep r1 (fun x x0 x1 => by omega)) (fun t t0 t1 => (cl.sw t0 t1).keep m3 (fun x x0 x1 => by omega)) (fun k k0 k1 => (cl.bw k0 k1).keep m3 (fun x x0 x1 => by omega)), mdl_wr hD md mw r2 (fun i hi => o i (by omega) (by omega)), re.keep kn.n4 m3 (fun x hx => by unfold REx at hx; omega) (fun i hi => o i (by omega) (by omega))⟩
