/-! The curve is a new one: forgetElements, field, image, back. -/
def FG1 (S S' : Hp) (a b : Int) : Prop := (∀ i, i ≠ 8 → i ≠ 14 → zG S' 1 i = zG S 1 i) ∧ zG S' 1 14 = -1 ∧ zG S' 1 8 = 0 ∧ (∀ k, 0 ≤ k → k < 6 → ∀ i, zG S' (343 + 12 * k) i = if i = 0 ∧ k < a ∧ zG S (343 + 12 * k) 0 = 1 then 0 else zG S (343 + 12 * k) i) ∧ ∀ c, 0 ≤ c → c < 7 → ∀ i, zG S' (301 + 6 * c) i = if i = 1 ∧ c < b then 0 else zG S (301 + 6 * c) i
def FGM : Int → Prop := fun x => x = 1 ∨ (343 ≤ x ∧ x ≤ 403 ∧ (x - 343) % 12 = 0) ∨ (301 ≤ x ∧ x ≤ 337 ∧ (x - 301) % 6 = 0)
theorem s_forget {d : Nat} {S : Hp} {v u : Int} {Q : Vl → Hp → Prop} (cp : CP S v u) (sw : ∀ t, 0 ≤ t → t < 6 → SW S (343 + 12 * t)) (pw : ∀ c, 0 ≤ c → c < 7 → PW S (301 + 6 * c)) (H : ∀ S', Md FGM S S' → CP S' v u → FG1 S S' 6 7 → Q (3, 0) S') : Ev d 151 [(2, 1)] S Q := by
  have nM : ∀ x, (x = 67 ∨ x = 68 ∨ x = 69) → ¬ FGM x := fun x hx => by
    unfold FGM
    omega
  have cpk : ∀ S', Md FGM S S' → (∀ i, i ≠ 8 → i ≠ 14 → zG S' 1 i = zG S 1 i) → CP S' v u := fun S' m o => cp.same m (fun i _ h1 h2 _ => o i h1 h2) (nM _ (by omega)) (nM _ (by omega)) (nM _ (by omega))
  apply w_Crc_forgetElements_0
  refine ⟨cp.1, ?_⟩
  rintro _ rfl
  refine ⟨cp.1, ?_⟩
  rintro _ rfl
  refine loopU (P := fun t S' => At d 151 c151_12 [(0, (2, 1)), (1, (0, t))] [] S' Q) (I := fun t S' => 0 ≤ t ∧ Md FGM S S' ∧ FG1 S S' t 0) 6 ?_ ?_ 0 _ (by omega) ⟨by omega, ((Md.zS _ _ _ _).wide (fun x hx => Or.inl hx)).tr ((Md.zS _ _ _ _).wide (fun x hx => Or.inl hx)), fun i h1 h2 => by rw [zG_zS_ne _ (Or.inr h1), zG_zS_ne _ (Or.inr h2)], by rw [zG_zS_ne _ (Or.inr (by omega)), zG_zS_at], zG_zS_at _ _ _ _, fun k k0 k1 i => by rw [if_neg (by omega), zG_zS_ne _ (Or.inl (by omega)), zG_zS_ne _ (Or.inl (by omega))], fun c c0 c1 i => by rw [if_neg (by omega), zG_zS_ne _ (Or.inl (by omega)), zG_zS_ne _ (Or.inl (by omega))]⟩
  · rintro t S1 ht ⟨t0, m1, f1, f2, f3, f4, f5⟩ next
    have cp1 := cpk S1 m1 f1
    have kk1 : zK S1 (343 + 12 * t) = 10 := by
      rw [m1.K]
      exact (sw t t0 ht).1
    have hd : zG S1 (343 + 12 * t) 0 = zG S (343 + 12 * t) 0 := by
      rw [f4 t t0 ht, if_neg (by omega)]
    apply w_Crc_forgetElements_12
    rw [cp1.a6, cp1.p6 t t0 ht, hd]
    refine ⟨fun w => by omega, fun _ => ⟨cp1.1, ⟨cp1.k68.1, t0, by rw [cp1.k68.2]; exact ht⟩, kk1, fun q => ?_, fun q => ⟨cp1.1, ⟨cp1.k68.1, t0, by rw [cp1.k68.2]; exact ht⟩, kk1, ?_⟩⟩⟩
    · apply w_Crc_forgetElements_41
      rintro _ rfl
      rw [w32_id (by omega) (by omega)]
      refine next S1 ⟨by omega, m1, f1, f2, f3, fun k k0 k1 i => ?_, f5⟩
      rw [f4 k k0 k1]
      by_cases e : k = t
      · subst e
        rw [if_neg (by omega), if_neg (fun w => q w.2.2)]
      · by_cases r : i = 0 ∧ k < t ∧ zG S (343 + 12 * k) 0 = 1
        · rw [if_pos r, if_pos ⟨r.1, by omega, r.2.2⟩]
        · rw [if_neg r, if_neg (fun w => r ⟨w.1, by omega, w.2.2⟩)]
    · rintro _ rfl
      apply w_Crc_forgetElements_41
      rintro _ rfl
      rw [w32_id (by omega) (by omega)]
      refine next _ ⟨by omega, m1.tr ((Md.zS _ _ _ _).wide (fun x hx => by unfold FGM; omega)), fun i h1 h2 => ?_, ?_, ?_, fun k k0 k1 i => ?_, fun c c0 c1 i => ?_⟩
      · rw [zG_zS_ne _ (Or.inl (by omega))]
        exact f1 i h1 h2
      · rw [zG_zS_ne _ (Or.inl (by omega))]
        exact f2
      · rw [zG_zS_ne _ (Or.inl (by omega))]
        exact f3
      · by_cases e : k = t
        · subst e
          by_cases e2 : i = 0
          · subst e2
            rw [zG_zS_at, if_pos ⟨rfl, by omega, Classical.not_not.mp q⟩]
          · rw [zG_zS_ne _ (Or.inr e2), f4 k k0 k1, if_neg (fun w => e2 w.1), if_neg (fun w => e2 w.1)]
        · rw [zG_zS_ne _ (Or.inl (by omega)), f4 k k0 k1]
          by_cases r : i = 0 ∧ k < t ∧ zG S (343 + 12 * k) 0 = 1
          · rw [if_pos r, if_pos ⟨r.1, by omega, r.2.2⟩]
          · rw [if_neg r, if_neg (fun w => r ⟨w.1, by omega, w.2.2⟩)]
      · rw [zG_zS_ne _ (Or.inl (by omega))]
        exact f5 c c0 c1 i
  · rintro S1 ⟨-, m1, f1⟩
    apply w_Crc_forgetElements_12
    refine ⟨fun _ => ?_, fun w => absurd (Int.le_refl _) w⟩
    refine loopU (P := fun c S' => At d 151 c151_49 [(0, (2, 1)), (1, (0, c))] [] S' Q) (I := fun c S' => 0 ≤ c ∧ Md FGM S S' ∧ FG1 S S' 6 c) 7 ?_ ?_ 0 S1 (by omega) ⟨by omega, m1, f1⟩
    · rintro c S2 hc ⟨c0, m2, f1, f2, f3, f4, f5⟩ next
      have cp2 := cpk S2 m2 f1
      have kk1 : zK S2 (301 + 6 * c) = 7 := by
        rw [m2.K]
        exact (pw c c0 hc).1
      apply w_Crc_forgetElements_49
      rw [cp2.a5, cp2.p5 c c0 hc]
      refine ⟨fun w => by omega, fun _ => ⟨cp2.1, ⟨cp2.k67.1, c0, by rw [cp2.k67.2]; exact hc⟩, ⟨kk1, Or.inl rfl⟩, ?_⟩⟩
      rintro _ rfl
      rintro _ rfl
      rw [w32_id (by omega) (by omega)]
      refine next _ ⟨by omega, m2.tr ((Md.zS _ _ _ _).wide (fun x hx => by unfold FGM; omega)), fun i h1 h2 => ?_, ?_, ?_, fun k k0 k1 i => ?_, fun k k0 k1 i => ?_⟩
      · rw [zG_zS_ne _ (Or.inl (by omega))]
        exact f1 i h1 h2
      · rw [zG_zS_ne _ (Or.inl (by omega))]
        exact f2
      · rw [zG_zS_ne _ (Or.inl (by omega))]
        exact f3
      · rw [zG_zS_ne _ (Or.inl (by omega))]
        exact f4 k k0 k1 i
      · by_cases e : k = c
        · subst e
          by_cases e2 : i = 1
          · subst e2
            rw [zG_zS_at, if_pos ⟨rfl, by omega⟩]
          · rw [zG_zS_ne _ (Or.inr e2), f5 k k0 k1, if_neg (fun w => e2 w.1), if_neg (fun w => e2 w.1)]
        · rw [zG_zS_ne _ (Or.inl (by omega)), f5 k k0 k1]
          by_cases r : i = 1 ∧ k < c
          · rw [if_pos r, if_pos (by omega)]
          · rw [if_neg r, if_neg (by omega)]
    · rintro S2 ⟨-, m2, f⟩
      apply w_Crc_forgetElements_49
      exact ⟨fun _ => H S2 m2 (cpk S2 m2 f.1) f, fun w => absurd (Int.le_refl _) w⟩
/-- the reference's curve, where no ring was asked for as yet -/
theorem mc_new {S : Hp} {D p n g : Int} {F Δ : Int → Int} (kn : KNO p n g F Δ) (dw : DW S D) (d0 : zG S D 0 = p) (d1 : zG S D 1 = n) (tri : TRI S D) (d48 : zG S D 48 = -1) (rw1 : n ≠ 0 → ∀ e, 0 ≤ e → e < 49 → zG S (D + 1) e = F e) (n0 : n ≠ 0) : MC S D p n F := by
  obtain ⟨-, P, q, -⟩ := kn.2.2.2 n0
  exact ⟨dw, d0, kn.1, d1, kn.2.1, tri, rw1 n0, q.2.2.1, fun _ c _ _ => q.mth c, fun _ c c0 _ w => by omega⟩
theorem rel_fresh {S : Hp} {D v u p n g : Int} {F Δ : Int → Int} (kn : KNO p n g F Δ) (cp : CP S v u) (co : CO S) (cur : CUR S v p n g F Δ) (pw : ∀ c, 0 ≤ c → c < 7 → PR S (301 + 6 * c) ∧ zG S (301 + 6 * c) 0 = c ∧ zG S (301 + 6 * c) 1 = 0) (al : ALB S 239) (dw : DW S D) (d0 : zG S D 0 = p) (d1 : zG S D 1 = n) (d2 : zG S D 2 = g) (tri : TRI S D) (d48 : zG S D 48 = -1) (rows : n ≠ 0 → (∀ e, 0 ≤ e → e < 49 → zG S (D + 1) e = F e) ∧ ∀ x, 0 ≤ x → x < 200 → zG S (D + 2) x = Δ x) (tp : TPE S D) (im : IME S D) (sh : SHE S D p n) (b8 : zG S 1 8 = 0) (d16 : zG S D 16 = 0) (t14 : zG S 1 14 = -1) : Rel S D := ⟨v, u, p, n, g, F, Δ, kn, ⟨cp, co, cur, fun c c0 c1 => ⟨co.2.2.2.2.2.2.2.2.2.2.1 c c0 c1, (pw c c0 c1).1, (pw c c0 c1).2.1, by rw [(pw c c0 c1).2.2]; exact Or.inl rfl, fun w => by rw [(pw c c0 c1).2.2] at w; omega⟩, al⟩, ⟨dw, d0, d1, d2, tri, fun n0 => ⟨mc_new kn dw d0 d1 tri d48 (fun z => (rows z).1) n0, (rows n0).2⟩⟩, tp, sh, ⟨by rw [b8, d16], by omega, fun k k0 k1 => by omega⟩, im, Or.inl t14⟩
theorem PW.field {M : Int → Prop} {S S' : Hp} {L : Int} (h : PW S L) (m : Md M S S') (o : ∀ i, i ≠ 1 → zG S' L i = zG S L i) : PW S' L := by
  obtain ⟨a, b, c, d, e, f, g, h1, h2, h3, h4⟩ := h
  refine ⟨by rw [m.K]; exact a, by rw [o _ (by omega)]; exact b, by rw [o _ (by omega)]; exact c, by rw [o _ (by omega)]; exact d, by rw [o _ (by omega)]; exact e, by rw [o _ (by omega)]; exact f, by rw [m.K, m.L]; exact g, ?_, ?_, ?_, ?_⟩
  · unfold rowI at h1 ⊢
    rw [m.K, m.L]
    exact h1
  · unfold rowI at h2 ⊢
    rw [m.K, m.L]
    exact h2
  · unfold rowI at h3 ⊢
    rw [m.K, m.L]
    exact h3
  · unfold rowI at h4 ⊢
    rw [m.K, m.L]
    exact h4
theorem co_fg {S S' : Hp} (co : CO S) (m : Md FGM S S') (f : FG1 S S' 6 7) : CO S' := by
  have nM : ∀ x, ((2 ≤ x ∧ x ≤ 300) ∨ 404 ≤ x) → ¬ FGM x := fun x hx => by
    unfold FGM
    omega
  obtain ⟨a1, a2, a3, a4, a5, a6, a7, a8, a9, a10, a11, a12, a13⟩ := co
  obtain ⟨-, -, -, f4, f5⟩ := f
  refine ⟨a1.keep m (fun i _ => m.G (nM _ (by omega)) i) (nM _ (by omega)), a2.keep m (fun x x0 x1 => nM x (by omega)), a3.keep m (fun x x0 x1 => nM x (by omega)), a4.keep m (fun x x0 x1 => nM x (by omega)), a5.keep m (fun x x0 x1 => nM x (by omega)), a6.keep m (fun x x0 x1 => nM x (by omega)), a7.keep m (fun x x0 x1 => nM x (by omega)), a8.keep m (fun x x0 x1 => nM x (by omega)), a9.keep m (fun x hx => nM x (by omega)), a10.keep m (nM _ (by omega)), fun c c0 c1 => (a11 c c0 c1).field m (fun i hi => by rw [f5 c c0 c1, if_neg (fun w => hi w.1)]), fun s s0 s1 => ?_, fun k k0 k1 => (a13 k k0 k1).keep m (fun x x0 x1 => nM x (by omega))⟩
  obtain ⟨w1, w2, w3, w4, w5, w6⟩ := a12 s s0 s1
  exact ⟨by rw [m.K]; exact w1, by rw [f4 s s0 s1, if_neg (by omega)]; exact w2, w3.keep m (fun x x0 x1 => by unfold FGM; omega), by rw [f4 s s0 s1, if_neg (by omega)]; exact w4, by rw [m.K]; exact w5, by rw [m.L]; exact w6⟩
theorem she_fresh {S S' : Hp} {D p n p' n' : Int} (sh : SHE S D p n) (hc : ∀ t, 0 ≤ t → t < 6 → ∀ i, zG S' (343 + 12 * t) i = if i = 0 ∧ t < 6 ∧ zG S (343 + 12 * t) 0 = 1 then 0 else zG S (343 + 12 * t) i) (hr : ∀ t, 0 ≤ t → t < 6 → ∀ i, zG S' (343 + 12 * t + 11) i = zG S (343 + 12 * t + 11) i) (h3 : ∀ i, zG S' (D + 3) i = fgH (zG S (D + 3)) i) (h7 : ∀ x i, x = D + 7 ∨ x = D + 8 ∨ x = D + 9 → zG S' x i = zG S x i) : SHE S' D p' n' := fun t t0 t1 => by
  obtain ⟨a1, a2, a3, a4, a5, a6, a7, -⟩ := sh t t0 t1
  have e3 : zG S' (D + 3) t = if zG S (D + 3) t = 1 then 0 else zG S (D + 3) t := by
    rw [h3]
    unfold fgH
    by_cases q : zG S (D + 3) t = 1
    · rw [if_pos ⟨t0, t1, q⟩, if_pos q]
    · rw [if_neg (fun w => q w.2.2), if_neg q]
  have no1 : zG S' (D + 3) t ≠ 1 := by
    rw [e3]
    split <;> omega
  refine ⟨?_, ?_, ?_, ?_, ?_, ?_, fun h2 i i0 i1 => ?_, fun z => absurd z no1⟩
  · rw [e3, hc t t0 t1, a1]
    by_cases q : zG S (D + 3) t = 1
    · rw [if_pos ⟨rfl, t1, q⟩, if_pos q]
    · rw [if_neg (fun w => q w.2.2), if_neg q]
  · rw [e3]
    split <;> omega
  · rw [hc t t0 t1, if_neg (by omega), h7 _ _ (by omega)]
    exact a3
  · rw [h7 _ _ (by omega)]
    exact a4
  · rw [hc t t0 t1, if_neg (by omega), h7 _ _ (by omega)]
    exact a5
  · rw [h7 _ _ (by omega)]
    exact a6
  · rw [hr t t0 t1, h7 _ _ (by omega)]
    refine a7 ?_ i i0 i1
    rw [e3] at h2
    by_cases q : zG S (D + 3) t = 1
    · rw [if_pos q] at h2
      omega
    · rw [if_neg q] at h2
      exact h2
theorem kno_zero {q : Int} {F Δ : Int → Int} (h : isPr q) : KNO q 0 0 F Δ := ⟨h, Or.inl rfl, fun _ => rfl, fun z => absurd rfl z⟩
theorem cur_zero {S : Hp} {v q : Int} {F Δ : Int → Int} (h0 : zG S v 0 = q) (h1 : zG S v 1 = 0) : CUR S v q 0 0 F Δ := ⟨h0, h1, fun z => absurd rfl z⟩
theorem co_cv {M : Int → Prop} {S S' : Hp} {v u : Int} (co : CO S) (vu : (v = 22 ∧ u = 37) ∨ (v = 37 ∧ u = 22)) (m : Md M S S') (hM : ∀ x, 2 ≤ x → x ≤ 484 → (x < v ∨ v + 14 < x) → ¬ M x) (vw : VW S' v) : CO S' := by
  obtain ⟨a1, a2, a3, a4, a5, a6, a7, a8, a9, a10, a11, a12, a13⟩ := co
  have vv : VW S' 22 ∧ VW S' 37 := by
    rcases vu with w | w
    · rw [w.1] at vw
      exact ⟨vw, a3.keep m (fun x x0 x1 => hM x (by omega) (by omega) (by omega))⟩
    · rw [w.1] at vw
      exact ⟨a2.keep m (fun x x0 x1 => hM x (by omega) (by omega) (by omega)), vw⟩
  exact ⟨a1.keep m (fun i _ => m.G (hM _ (by omega) (by omega) (by omega)) i) (hM _ (by omega) (by omega) (by omega)), vv.1, vv.2, a4.keep m (fun x x0 x1 => hM x (by omega) (by omega) (by omega)), a5.keep m (fun x x0 x1 => hM x (by omega) (by omega) (by omega)), a6.keep m (fun x x0 x1 => hM x (by omega) (by omega) (by omega)), a7.keep m (fun x x0 x1 => hM x (by omega) (by omega) (by omega)), a8.keep m (fun x x0 x1 => hM x (by omega) (by omega) (by omega)), a9.keep m (fun x hx => hM x (by omega) (by omega) (by omega)), a10.keep m (hM _ (by omega) (by omega) (by omega)), fun c c0 c1 => (a11 c c0 c1).keep m (hM _ (by omega) (by omega) (by omega)), fun s s0 s1 => (a12 s s0 s1).keep m (fun x x0 x1 => hM x (by omega) (by omega) (by omega)), fun k k0 k1 => (a13 k k0 k1).keep m (fun x x0 x1 => hM x (by omega) (by omega) (by omega))⟩
