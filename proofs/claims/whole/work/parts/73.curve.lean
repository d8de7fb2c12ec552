/-! Curve: THE FIELD and THE CURVE over it. -/
theorem s_max {d : Nat} {a b : Int} {S : Hp} {Q : Vl → Hp → Prop} (H : Q (0, max a b) S) : Ev d 289 [(0, a), (0, b)] S Q := by
  apply w_Math_max_0
  rintro _ rfl
  have : (if a < b then b else a) = max a b := by split <;> omega
  rw [this]
  exact H
theorem s_min {d : Nat} {a b : Int} {S : Hp} {Q : Vl → Hp → Prop} (H : Q (0, min a b) S) : Ev d 290 [(0, a), (0, b)] S Q := by
  apply w_Math_min_0
  rintro x hx
  have : x = min a b := by
    rw [hx]
    split <;> omega
  rw [this]
  exact H
/-- the greatest g e of places e below k with a number that isn't 0 -/
def mxN (F g : Int → Int) : Nat → Int
  | 0 => 0
  | e + 1 => if F e = 0 then mxN F g e else max (mxN F g e) (g e)
def hgt (F : Int → Int) : Int := mxN F (fun e => e / 7) 49
def dgr (F : Int → Int) : Int := mxN F (fun e => e / 7 + e % 7) 49
theorem mxN_bd {F g : Int → Int} {B : Int} (hB : 0 ≤ B) (hg : ∀ e, 0 ≤ e → e < 49 → 0 ≤ g e ∧ g e ≤ B) : ∀ (k : Nat), k ≤ 49 → 0 ≤ mxN F g k ∧ mxN F g k ≤ B
  | 0, _ => ⟨Int.le_refl _, hB⟩
  | e + 1, h => by
    have h1 := mxN_bd (F := F) hB hg e (by omega)
    have h2 := hg e (by omega) (by omega)
    show 0 ≤ (if F e = 0 then mxN F g e else max (mxN F g e) (g e)) ∧ (if F e = 0 then mxN F g e else max (mxN F g e) (g e)) ≤ B
    split <;> omega
theorem mxN_congr {F F' g : Int → Int} : ∀ (k : Nat), (∀ e, 0 ≤ e → e < k → F e = F' e) → mxN F g k = mxN F' g k
  | 0, _ => rfl
  | e + 1, h => by
    show (if F e = 0 then mxN F g e else max (mxN F g e) (g e)) = (if F' e = 0 then mxN F' g e else max (mxN F' g e) (g e))
    rw [h e (by omega) (by omega), mxN_congr e (fun x h0 h1 => h x h0 (by omega))]
def isCv (F : Int → Int) : Prop := 2 ≤ hgt F ∧ hgt F ≤ 4 ∧ F (7 * hgt F) = 1 ∧ ∀ i, 1 ≤ i → i < 7 → F (i + 7 * hgt F) = 0
/-- the polynomials in front of y^0 .. y^(n - 1) -/
def cfF (F : Int → Int) (n : Int) : Int → Int → Int := fun j i => if 0 ≤ j ∧ j < n ∧ 0 ≤ i ∧ i < 7 then F (7 * j + i) else 0
def rowI (S : Hp) (a n : Int) : Prop := zK S a = 101 ∧ zL S a = n
theorem rowI.keep {M : Int → Prop} {S S' : Hp} {a n : Int} (h : rowI S a n) (hm : Md M S S') : rowI S' a n := ⟨by rw [hm.K]; exact h.1, by rw [hm.L]; exact h.2⟩
def VW (S : Hp) (V : Int) : Prop := zK S V = 2 ∧ zG S V 3 = V + 1 ∧ zG S V 4 = V + 2 ∧ zG S V 5 = V + 11 ∧ zG S V 6 = V + 13 ∧ zG S V 7 = V + 14 ∧ rowI S (V + 1) 49 ∧ LAW S (V + 2) 4 (fun _ => 7) ∧ LW S (V + 11) 64 ∧ rowI S (V + 13) 7 ∧ rowI S (V + 14) 49
def MV (V : Int) : Int → Prop := fun x => V ≤ x ∧ x ≤ V + 14
theorem VW.keep {M : Int → Prop} {S S' : Hp} {V : Int} (h : VW S V) (hm : Md M S S') (hM : ∀ x, V ≤ x → x ≤ V + 12 → ¬ M x) : VW S' V := by
  obtain ⟨h1, h2, h3, h4, h5, h6, h7, h8, h9, h10, h11⟩ := h
  have h0 := hM V (by omega) (by omega)
  exact ⟨by rw [hm.K]; exact h1, by rw [hm.G h0]; exact h2, by rw [hm.G h0]; exact h3, by rw [hm.G h0]; exact h4, by rw [hm.G h0]; exact h5, by rw [hm.G h0]; exact h6, h7.keep hm, h8.keep hm (fun x x1 x2 => hM x (by omega) (by omega)) (by omega), h9.keep hm (hM _ (by omega) (by omega)) (hM _ (by omega) (by omega)), h10.keep hm, h11.keep hm⟩
/-- a number of the curve's own, or of one of its rows, written -/
theorem VW.put {S : Hp} {V a i v : Int} (h : VW S V) (ha : (a = V ∧ i < 3) ∨ a = V + 1 ∨ a = V + 13 ∨ a = V + 14) : VW (zS S a i v) V := by
  obtain ⟨h1, h2, h3, h4, h5, h6, h7, h8, h9, h10, h11⟩ := h
  have hn : ∀ k, 3 ≤ k → zG (zS S a i v) V k = zG S V k := fun k hk => zG_zS_ne _ (by omega)
  exact ⟨h1, by rw [hn _ (by omega)]; exact h2, by rw [hn _ (by omega)]; exact h3, by rw [hn _ (by omega)]; exact h4, by rw [hn _ (by omega)]; exact h5, by rw [hn _ (by omega)]; exact h6, h7.keep (Md.zS S a i v), h8.keep (Md.zS S a i v) (fun x x1 x2 => by omega) (by omega), h9.keep (Md.zS S a i v) (by omega) (by omega), h10.keep (Md.zS S a i v), h11.keep (Md.zS S a i v)⟩
theorem VW.cf {S S' : Hp} {V e : Int} (h : VW S V) (hm : Md (ML (V + 2 + 1 + 2 * e)) S S') (h0 : 0 ≤ e) (h1 : e < 4) (hl : LW S' (V + 2 + 1 + 2 * e) 7) : VW S' V := by
  obtain ⟨k1, h2, h3, h4, h5, h6, h7, h8, h9, h10, h11⟩ := h
  have hn : ¬ ML (V + 2 + 1 + 2 * e) V := by unfold ML; omega
  exact ⟨by rw [hm.K]; exact k1, by rw [hm.G hn]; exact h2, by rw [hm.G hn]; exact h3, by rw [hm.G hn]; exact h4, by rw [hm.G hn]; exact h5, by rw [hm.G hn]; exact h6, h7.keep hm, h8.set hm h0 h1 hl, h9.keep hm (by unfold ML; omega) (by unfold ML; omega), h10.keep hm, h11.keep hm⟩
theorem s_mayGrow {d : Nat} {V c : Int} {S : Hp} {Q : Vl → Hp → Prop} (h : VW S V) (hc : 0 ≤ c ∧ c < 7) (H : Q (0, if zG S (V + 13) c < 2 then 0 else 1) S) : Ev d 24 [(2, V), (0, c)] S Q := by
  apply w_Curve_mayGrow_0
  rw [h.2.2.2.2.1]
  refine ⟨h.1, ⟨h.2.2.2.2.2.2.2.2.2.1.1, hc.1, by rw [h.2.2.2.2.2.2.2.2.2.1.2]; exact hc.2⟩, ?_⟩
  rintro _ rfl
  exact ⟨by unfold in01; split <;> simp, H⟩
set_option maxHeartbeats 1000000 in
theorem s_ctake {d : Nat} {V g p : Int} {S : Hp} {F : Int → Int} {Q : Vl → Hp → Prop} (h : VW S V) (hg : rowI S g 49) (dg : g < V ∨ V + 14 < g) (hF : ∀ e, 0 ≤ e → e < 49 → zG S g e = F e) (hp : 2 ≤ p ∧ p ≤ 7) (hFb : ∀ e, 0 ≤ F e ∧ F e < p)
    (H1 : isCv F → ∀ S', Md (MV V) S S' → VW S' V → zG S' V 0 = zG S V 0 → zG S' V 1 = hgt F → zG S' V 2 = dgr F → (∀ e, 0 ≤ e → e < 49 → zG S' (V + 1) e = F e) → LAN S' (V + 2) 4 (fun _ => 7) p (cfF F (hgt F)) → Q (0, 1) S') (H0 : ¬ isCv F → ∀ S', Md (MV V) S S' → VW S' V → zG S' V 0 = zG S V 0 → Q (0, 0) S') : Ev (d + 2) 21 [(2, V), (2, g)] S Q := by
  have hgb : ∀ k : Nat, k ≤ 49 → 0 ≤ mxN F (fun e => e / 7) k ∧ mxN F (fun e => e / 7) k ≤ 6 := mxN_bd (by omega) (fun e h0 h1 => by omega)
  have hdb : ∀ k : Nat, k ≤ 49 → 0 ≤ mxN F (fun e => e / 7 + e % 7) k ∧ mxN F (fun e => e / 7 + e % 7) k ≤ 12 := mxN_bd (by omega) (fun e h0 h1 => by omega)
  apply w_Curve_take_0
  refine ⟨h.1, ?_⟩
  rintro _ rfl
  refine loopU2 (P := fun e hi S' => At (d + 2) 21 c21_9 [(0, (2, V)), (1, (2, g)), (2, (0, hi)), (3, (0, e))] [] S' Q) (I := fun e hi S' => 0 ≤ e ∧ hi = mxN F (fun e => e / 7) e.toNat ∧ Md (fun x => x = V ∨ x = V + 1) S S' ∧ VW S' V ∧ zG S' V 0 = zG S V 0 ∧ zG S' V 2 = mxN F (fun e => e / 7 + e % 7) e.toNat ∧ ∀ k, 0 ≤ k → k < e → zG S' (V + 1) k = F k) 49 ?_ ?_ 0 0 (zS S V 2 0) (by omega) ⟨by omega, rfl, (Md.zS S V 2 0).wide (fun x hx => Or.inl hx), h.put (Or.inl ⟨rfl, by omega⟩), zG_zS_ne _ (Or.inr (by omega)), zG_zS_at _ _ _ _, fun k k0 k1 => by omega⟩
  · rintro e hi S1 he ⟨e0, ehi, em, ew, ep, ed, ef⟩ hk
    have q1 : e.tdiv 7 = e / 7 := Int.tdiv_eq_ediv_of_nonneg e0
    have q2 : e.tmod 7 = e % 7 := tm_nn e0
    have hge : zG S1 g e = F e := by rw [em.G (by omega)]; exact hF e e0 he
    have nxt : ∀ hi' S2, hi' = mxN F (fun e => e / 7) (e + 1).toNat → Md (fun x => x = V ∨ x = V + 1) S S2 → VW S2 V → zG S2 V 0 = zG S V 0 → zG S2 V 2 = mxN F (fun e => e / 7 + e % 7) (e + 1).toNat → (∀ k, 0 ≤ k → k < e + 1 → zG S2 (V + 1) k = F k) → At (d + 2) 21 c21_59 [(0, (2, V)), (1, (2, g)), (2, (0, hi')), (3, (0, e))] [] S2 Q := by
      intro hi' S2 a1 a2 a3 a4 a5 a6
      apply w_Curve_take_59
      rintro _ rfl
      rw [w32_id (by omega) (by omega)]
      exact hk _ _ ⟨by omega, a1, a2, a3, a4, a5, a6⟩
    have st : ∀ gg : Int → Int, mxN F gg (e + 1).toNat = if F e = 0 then mxN F gg e.toNat else max (mxN F gg e.toNat) (gg e) := fun gg => by
      rw [show (e + 1).toNat = e.toNat + 1 by omega]
      show (if F (e.toNat : Int) = 0 then mxN F gg e.toNat else max (mxN F gg e.toNat) (gg (e.toNat : Int))) = _
      rw [show ((e.toNat : Nat) : Int) = e by omega]
    have m2 : Md (fun x => x = V ∨ x = V + 1) S (zS S1 (V + 1) e (F e)) := em.tr ((Md.zS S1 (V + 1) e (F e)).wide (fun x hx => Or.inr hx))
    have w2 : VW (zS S1 (V + 1) e (F e)) V := ew.put (Or.inr (Or.inl rfl))
    have hge2 : zG (zS S1 (V + 1) e (F e)) g e = F e := by rw [zG_zS_ne _ (Or.inl (by omega))]; exact hge
    have r2 : ∀ k, 0 ≤ k → k < e + 1 → zG (zS S1 (V + 1) e (F e)) (V + 1) k = F k := fun k k0 k1 => by
      by_cases q : k = e
      · rw [q, zG_zS_at]
      · rw [zG_zS_ne _ (Or.inr q)]
        exact ef k k0 (by omega)
    have p0 : zG (zS S1 (V + 1) e (F e)) V 0 = zG S V 0 := by rw [zG_zS_ne _ (Or.inl (by omega))]; exact ep
    have p2' : zG (zS S1 (V + 1) e (F e)) V 2 = mxN F (fun e => e / 7 + e % 7) e.toNat := by rw [zG_zS_ne _ (Or.inl (by omega))]; exact ed
    have b1 := hgb e.toNat (by omega)
    have b2 := hdb e.toNat (by omega)
    apply w_Curve_take_9
    rw [q1, q2, hge, ew.2.1]
    simp (disch := omega) only [w32_id]
    refine ⟨fun hc => by omega, fun _ => ⟨ew.1, ⟨by rw [em.K]; exact hg.1, e0, by rw [em.L, hg.2]; exact he⟩, ⟨ew.2.2.2.2.2.2.1.1, e0, by rw [ew.2.2.2.2.2.2.1.2]; exact he⟩, ?_⟩⟩
    rintro _ rfl
    rw [hge2]
    refine ⟨⟨by rw [zK_zS, em.K]; exact hg.1, e0, by rw [zL_zS, em.L, hg.2]; exact he⟩, fun hz => nxt hi _ (by rw [st, if_pos hz, ehi]) m2 w2 p0 (by rw [st, if_pos hz]; exact p2') r2, fun hz => ⟨by omega, s_max ⟨_, rfl, w2.1, by omega, by omega, ?_⟩⟩⟩
    rw [p2']
    refine s_max ⟨_, rfl, w2.1, ?_⟩
    rintro _ rfl
    refine nxt _ _ (by rw [st, if_neg hz, ehi]) (m2.tr ((Md.zS _ V 2 _).wide (fun x hx => Or.inl hx))) (w2.put (Or.inl ⟨rfl, by omega⟩)) (by rw [zG_zS_ne _ (Or.inr (by omega))]; exact p0) (by rw [zG_zS_at, st, if_neg hz]) (fun k k0 k1 => by rw [zG_zS_ne _ (Or.inl (by omega))]; exact r2 k k0 k1)
  · rintro hi S1 ⟨e0, ehi, em, ew, ep, ed, ef⟩
    have ehi : hi = hgt F := ehi
    have ed : zG S1 V 2 = dgr F := ed
    have b1 := hgb 49 (by omega)
    have b1 : 0 ≤ hgt F ∧ hgt F ≤ 6 := b1
    have mw : Md (MV V) S S1 := em.wide (fun x hx => by unfold MV; omega)
    apply w_Curve_take_9
    rw [ehi, ew.2.1]
    simp (disch := omega) only [w32_id]
    refine ⟨fun _ => ⟨fun _ _ => ⟨ew.1, ew.2.2.2.2.2.2.1.1, by omega, by rw [ew.2.2.2.2.2.2.1.2]; omega⟩, fun hq => ⟨Or.inl rfl, H0 (fun z => ?_) S1 mw ew ep⟩, fun hq => ?_⟩, fun hc => absurd (by omega) hc⟩
    · rcases hq with q | q | q
      · have := z.1
        omega
      · have := z.2.1
        omega
      · by_cases hh : 7 * hgt F < 49
        · rw [ef (7 * hgt F) (by omega) hh] at q
          exact q z.2.2.1
        · omega
    · rw [ef (7 * hgt F) (by omega) (by omega)] at hq
      have h2 : 2 ≤ hgt F := by omega
      have h4 : hgt F ≤ 4 := by omega
      have h5 : F (7 * hgt F) = 1 := by omega
      refine loopU (α := Unit) (P := fun i _ => At (d + 2) 21 c21_92 [(0, (2, V)), (2, (0, hgt F)), (3, (0, i))] [] S1 Q) (I := fun i _ => 1 ≤ i ∧ ∀ k, 1 ≤ k → k < i → F (k + 7 * hgt F) = 0) 7 ?_ ?_ 1 () (by omega) ⟨by omega, fun k k0 k1 => by omega⟩
      · rintro i _ hi' ⟨i0, iz⟩ hk
        apply w_Curve_take_92
        rw [ew.2.1]
        simp (disch := omega) only [w32_id]
        rw [ef (i + 7 * hgt F) (by omega) (by omega)]
        refine ⟨fun hc => by omega, fun _ => ⟨ew.1, ⟨ew.2.2.2.2.2.2.1.1, by omega, by rw [ew.2.2.2.2.2.2.1.2]; omega⟩, fun hz => ?_, fun hz => ⟨Or.inl rfl, H0 (fun z => hz (z.2.2.2 i i0 hi')) S1 mw ew ep⟩⟩⟩
        rintro _ rfl
        refine hk () ⟨by omega, fun k k0 k1 => ?_⟩
        by_cases q : k = i
        · rw [q]
          exact hz
        · exact iz k k0 (by omega)
      · rintro _ ⟨i0, iz⟩
        have hcv : isCv F := ⟨h2, h4, h5, iz⟩
        apply w_Curve_take_92
        refine ⟨fun _ => ⟨ew.1, ?_⟩, fun hc => absurd (show (7 : Int) ≤ 7 by omega) hc⟩
        rintro _ rfl
        have w2 := ew.put (a := V) (i := 1) (v := hgt F) (Or.inl ⟨rfl, by omega⟩)
        rw [w2.2.2.1]
        refine ⟨w2.1, s_zeroLines (p := p) w2.2.2.2.2.2.2.2.1 (by omega) (by omega) (fun S2 m2 z2 => ⟨rfl, ?_⟩)⟩
        have mm2 : Md (MV V) S S2 := (mw.tr ((Md.zS S1 V 1 (hgt F)).wide (fun x hx => by unfold MV; omega))).tr (m2.wide (fun x hx => by unfold MA at hx; unfold MV; omega))
        have n2 : ¬ MA (V + 2) 4 V := by unfold MA; omega
        have n3 : ¬ MA (V + 2) 4 (V + 1) := by unfold MA; omega
        have w3 : VW S2 V := ⟨by rw [m2.K]; exact w2.1, by rw [m2.G n2]; exact w2.2.1, by rw [m2.G n2]; exact w2.2.2.1, by rw [m2.G n2]; exact w2.2.2.2.1, by rw [m2.G n2]; exact w2.2.2.2.2.1, by rw [m2.G n2]; exact w2.2.2.2.2.2.1, w2.2.2.2.2.2.2.1.keep m2, z2.w, w2.2.2.2.2.2.2.2.2.1.keep m2 (by unfold MA; omega) (by unfold MA; omega), w2.2.2.2.2.2.2.2.2.2.1.keep m2, w2.2.2.2.2.2.2.2.2.2.2.keep m2⟩
        have g0 : zG S2 V 0 = zG S V 0 := by rw [m2.G n2, zG_zS_ne _ (Or.inr (by omega))]; exact ep
        have g1 : zG S2 V 1 = hgt F := by rw [m2.G n2, zG_zS_at]
        have g2 : zG S2 V 2 = dgr F := by rw [m2.G n2, zG_zS_ne _ (Or.inr (by omega))]; exact ed
        have gf : ∀ e, 0 ≤ e → e < 49 → zG S2 (V + 1) e = F e := fun e h0 h1 => by rw [m2.G n3, zG_zS_ne _ (Or.inl (by omega))]; exact ef e h0 h1
        refine loopU (P := fun e S' => At (d + 2) 21 c21_134 [(0, (2, V)), (3, (0, e))] [] S' Q) (I := fun e S' => 0 ≤ e ∧ Md (MA (V + 2) 4) S2 S' ∧ LAN S' (V + 2) 4 (fun _ => 7) p (fun j i => if 0 ≤ i ∧ i < 7 ∧ 7 * j + i < e then F (7 * j + i) else 0)) (7 * hgt F) ?_ ?_ 0 S2 (by omega) ⟨by omega, Md.refl _ _, z2.congr fun j j0 j1 i => by rw [if_neg (by omega)]⟩
        · rintro e S3 he ⟨f0, fm, fz⟩ hk
          have q1 : e.tdiv 7 = e / 7 := Int.tdiv_eq_ediv_of_nonneg f0
          have q2 : e.tmod 7 = e % 7 := tm_nn f0
          have nV : ∀ k, zG S3 V k = zG S2 V k := fun k => fm.G n2 k
          apply w_Curve_take_134
          rw [q1, q2, nV 1, g1, nV 4, w3.2.2.1, nV 3, w3.2.1, fm.G n3, gf e f0 (by omega)]
          simp (disch := omega) only [w32_id]
          rw [fz.ptr (i := e / 7) (by omega) (by omega)]
          refine ⟨by rw [fm.K]; exact w3.1, fun hc => by omega, fun _ => ⟨by rw [fm.K]; exact w3.1, by omega, ⟨fz.1, by omega, by rw [fz.2.1]; omega⟩, by omega, by rw [fm.K]; exact w3.1, ⟨by rw [fm.K]; exact w3.2.2.2.2.2.2.1.1, f0, by rw [fm.L, w3.2.2.2.2.2.2.1.2]; omega⟩, (fz.at (i := e / 7) (by omega) (by omega)).ln.1, ?_⟩⟩
          refine n_write (n := 7) (fz.at (i := e / 7) (by omega) (by omega)) (fun i hi => ?_) (by omega) (by omega) (hFb e) (fun S4 m4 l4 => ⟨rfl, ?_⟩)
          · (try dsimp only)
            rw [if_neg (by omega)]
          · rintro _ rfl
            refine hk _ ⟨by omega, fm.tr (m4.wide (fun x hx => by unfold ML at hx; unfold MA; omega)), (fz.set m4 (by omega) (by omega) l4).congr fun j j0 j1 i => ?_⟩
            by_cases ej : j = e / 7
            · rw [if_pos ej]
              by_cases ei : i = e % 7
              · rw [if_pos ei, if_pos (by omega), show 7 * j + i = e by omega]
              · rw [if_neg ei, ← ej]
                by_cases q : 0 ≤ i ∧ i < 7 ∧ 7 * j + i < e
                · rw [if_pos q, if_pos (by omega)]
                · rw [if_neg q, if_neg (by omega)]
            · rw [if_neg ej]
              by_cases q : 0 ≤ i ∧ i < 7 ∧ 7 * j + i < e
              · rw [if_pos q, if_pos (by omega)]
              · rw [if_neg q, if_neg (by omega)]
        · rintro S3 ⟨f0, fm, fz⟩
          have nV : ∀ k, zG S3 V k = zG S2 V k := fun k => fm.G n2 k
          apply w_Curve_take_134
          rw [nV 1, g1]
          simp (disch := omega) only [w32_id]
          refine ⟨by rw [fm.K]; exact w3.1, fun _ => ⟨Or.inr rfl, H1 hcv S3 (mm2.tr (fm.wide (fun x hx => by unfold MA at hx; unfold MV; omega))) ⟨by rw [fm.K]; exact w3.1, by rw [nV]; exact w3.2.1, by rw [nV]; exact w3.2.2.1, by rw [nV]; exact w3.2.2.2.1, by rw [nV]; exact w3.2.2.2.2.1, by rw [nV]; exact w3.2.2.2.2.2.1, w3.2.2.2.2.2.2.1.keep fm, fz.w, w3.2.2.2.2.2.2.2.2.1.keep fm (by unfold MA; omega) (by unfold MA; omega), w3.2.2.2.2.2.2.2.2.2.1.keep fm, w3.2.2.2.2.2.2.2.2.2.2.keep fm⟩ (by rw [nV]; exact g0) (by rw [nV]; exact g1) (by rw [nV]; exact g2) (fun e h0 h1 => by rw [fm.G n3]; exact gf e h0 h1) (fz.congr fun j j0 j1 i => ?_)⟩, fun hc => absurd (by omega) hc⟩
          unfold cfF
          by_cases q : 0 ≤ i ∧ i < 7 ∧ 7 * j + i < 7 * hgt F
          · rw [if_pos q, if_pos (by omega)]
          · rw [if_neg q, if_neg (by omega)]
