/-! weigh and get: answers in 64 bits, or a refusal. -/
theorem rel_out {S S' : Hp} {D : Int} (hD : 485 ≤ D) (R : Rel S D) (m : Md (fun x => x = D + 45) S S') : Rel S' D := by
  obtain ⟨v, u, p, n, g, F, Δ, kn, cl, md, re⟩ := R
  refine ⟨v, u, p, n, g, F, Δ, kn, cl.far kn m (fun x x0 x1 => by omega), ?_, re.keep kn.n4 m (fun x hx => by unfold REx at hx; omega) (fun i _ => m.G (by omega) i)⟩
  obtain ⟨a, b, c, e, t, f⟩ := md
  have o : ∀ i, zG S' D i = zG S D i := fun i => m.G (by omega) i
  have dw : DW S' D := a.md m (by omega)
  refine ⟨dw, by rw [o 0]; exact b, by rw [o 1]; exact c, by rw [o 2]; exact e, fun K j i x K0 K1 j0 ji i1 x0 x1 => by rw [m.G (by omega)]; exact t K j i x K0 K1 j0 ji i1 x0 x1, fun n0 => ?_⟩
  obtain ⟨mc, dd⟩ := f n0
  exact ⟨mc.keep m dw (by omega) (by omega) (by omega) (fun i hi => o i), fun x x0 x1 => by rw [m.G (by omega)]; exact dd x x0 x1⟩
theorem rel_5 {S : Hp} {D t : Int} (hD : 485 ≤ D) (R : Rel S D) : MID S (zS S D 5 t) D ∧ Rel (zS S D 5 t) D := by
  obtain ⟨v, u, p, n, g, F, Δ, kn, cl, md, re⟩ := R
  exact rel_own hD kn cl md re (Md.zS S D 5 t) (fun x hx => Or.inl hx) (md.1.sc (by decide)) (fun i h5 _ _ _ => zG_zS_ne _ (Or.inr h5))
/-- T is S, but for the law's own row -/
def OUTX (S T : Hp) : Prop := (∀ x, zK T x = zK S x) ∧ (∀ x, zL T x = zL S x) ∧ ∀ x i, x ≠ 530 → zG T x i = zG S x i
theorem lawX {d m1 m2 : Nat} {i t y b0 b1 b2 b3 : Int} {S : Hp} {A B : Hp → Prop} (R : Rel S 485) (k1 : zK S 1 = 11) (k2 : zK S 485 = 12) (kX : zK S 530 = 102 ∧ zL S 530 = 1) (hm : b0 + 4 ≤ b2 ∧ b1 + 60 ≤ b3) (hb : ∀ j, 1 ≤ j → j ≤ 5 → 0 ≤ w32 (i + j) ∧ w32 (i + j) < zL S (-2)) (hC : Ev d m1 [(2, 1), (0, zG S (-2) (w32 (i + 1))), (0, zG S (-2) (w32 (i + 2)))] S (fun r S1 => S1 = S ∧ ((t = 0 ∧ r = (1, y)) ∨ (t ≠ 0 ∧ r = (9, t))))) (hR : ∀ T, OUTX S T → Ev d m2 [(2, 485), (0, zG S (-2) (w32 (i + 1))), (0, zG S (-2) (w32 (i + 2)))] T (fun r S' => S' = zS T 485 5 t ∧ (∃ x, r = (1, x) ∧ (t = 0 → x = y)))) (hA : ∀ S3, MID S S3 485 → Rel S3 485 → A S3) : ((-2 : Int) = -2 ∧ 0 ≤ w32 (i + 1) ∧ w32 (i + 1) < zL S (-2)) ∧ ((-2 : Int) = -2 ∧ 0 ≤ w32 (i + 2) ∧ w32 (i + 2) < zL S (-2)) ∧ ((b0 + 4 ≤ b2 ∧ b1 + 60 ≤ b3) ∧ zK S 1 = 11 ∧ zK S 530 = 102 ∧ 0 < zL S 530) ∧ Ev d m1 [(2, 1), (0, zG S (-2) (w32 (i + 1))), (0, zG S (-2) (w32 (i + 2)))] S (fun r S129 => (∃ r130, r = (1, r130) ∧ zK S129 530 = 102 ∧ 0 < zL S129 530 ∧ ((-2 : Int) = -2 ∧ 0 ≤ w32 (i + 1) ∧ w32 (i + 1) < zL (zS S129 530 0 r130) (-2)) ∧ ((-2 : Int) = -2 ∧ 0 ≤ w32 (i + 2) ∧ w32 (i + 2) < zL (zS S129 530 0 r130) (-2)) ∧ (zK (zS S129 530 0 r130) 485 = 12) ∧ Ev d m2 [(2, 485), (0, zG (zS S129 530 0 r130) (-2) (w32 (i + 1))), (0, zG (zS S129 530 0 r130) (-2) (w32 (i + 2)))] (zS S129 530 0 r130) (fun r S131 => ∃ x132, r = (1, x132) ∧ (zK S131 485 = 12) ∧ Ev d 163 [(2, 485)] S131 (fun r S133 => ∃ x134, r = (0, x134) ∧ (x134 = 0 → (¬ (¬ (0 : Int) = 0) → (zK S133 530 = 102 ∧ (0 : Int) ≤ 0 ∧ 0 < zL S133 530)) ∧ ((¬ (0 : Int) = 0 ∨ lCmp (zG S133 530 0) x132 = 0) → A S133) ∧ (¬ (¬ (0 : Int) = 0 ∨ lCmp (zG S133 530 0) x132 = 0) → B S133)) ∧ (¬ (x134 = 0) → B S133)))) ∨ (∃ r130, r = (9, r130) ∧ ((-2 : Int) = -2 ∧ 0 ≤ w32 (i + 1) ∧ w32 (i + 1) < zL (zU S129) (-2)) ∧ ((-2 : Int) = -2 ∧ 0 ≤ w32 (i + 2) ∧ w32 (i + 2) < zL (zU S129) (-2)) ∧ (zK (zU S129) 485 = 12) ∧ Ev d m2 [(2, 485), (0, zG (zU S129) (-2) (w32 (i + 1))), (0, zG (zU S129) (-2) (w32 (i + 2)))] (zU S129) (fun r S135 => ∃ x136, r = (1, x136) ∧ (zK S135 485 = 12) ∧ Ev d 163 [(2, 485)] S135 (fun r S137 => ∃ x138, r = (0, x138) ∧ (x138 = r130 → (¬ (¬ r130 = 0) → (zK S137 530 = 102 ∧ (0 : Int) ≤ 0 ∧ 0 < zL S137 530)) ∧ ((¬ r130 = 0 ∨ lCmp (zG S137 530 0) x136 = 0) → A S137) ∧ (¬ (¬ r130 = 0 ∨ lCmp (zG S137 530 0) x136 = 0) → B S137)) ∧ (¬ (x138 = r130) → B S137))))) := by
  refine ⟨⟨rfl, hb 1 (by omega) (by omega)⟩, ⟨rfl, hb 2 (by omega) (by omega)⟩, ⟨hm, k1, kX.1, by rw [kX.2]; decide⟩, ev_mono hC (fun r S1 h1 => ?_)⟩
  obtain ⟨e, h1⟩ := h1
  subst e
  rcases h1 with ⟨t0, rfl⟩ | ⟨t0, rfl⟩
  · refine Or.inl ⟨y, rfl, kX.1, by rw [kX.2]; decide, ⟨rfl, hb 1 (by omega) (by omega)⟩, ⟨rfl, hb 2 (by omega) (by omega)⟩, k2, ?_⟩
    rw [zG_zS_ne (b := -2) _ (Or.inl (by omega)), zG_zS_ne (b := -2) _ (Or.inl (by omega))]
    have M1 := Md.zS S1 530 0 y
    have R1 : Rel (zS S1 530 0 y) 485 := rel_out (D := 485) (by omega) R (M1.wide (fun x hx => by omega))
    refine ev_mono (hR _ ⟨fun x => M1.K x, fun x => M1.L x, fun x i hx => M1.G hx i⟩) (fun r S3 h3 => ?_)
    obtain ⟨rfl, x, rfl, hx⟩ := h3
    obtain ⟨mi, R3⟩ := rel_5 (D := 485) (t := t) (by omega) R1
    refine ⟨x, rfl, k2, ?_⟩
    apply w_Model_thrown_0
    refine ⟨k2, _, rfl, fun _ => ⟨fun _ => ⟨kX.1, by omega, by show 0 < zL S1 530; rw [kX.2]; decide⟩, fun _ => hA _ (mid_tr (mid_md (D := 485) M1 k1 k2 (by omega)) mi) R3, fun w => ?_⟩, fun w => ?_⟩
    · exfalso
      apply w
      right
      rw [zG_zS_ne _ (Or.inl (by omega)), zG_zS_at, hx t0]
      exact lCmp_eq.mpr rfl
    · exfalso
      apply w
      rw [zG_zS_at]
      exact t0
  · refine Or.inr ⟨t, rfl, ⟨rfl, hb 1 (by omega) (by omega)⟩, ⟨rfl, hb 2 (by omega) (by omega)⟩, k2, ?_⟩
    have R1 : Rel (zU S1) 485 := rel_zU R
    refine ev_mono (hR (zU S1) ⟨fun x => rfl, fun x => rfl, fun x i hx => rfl⟩) (fun r S3 h3 => ?_)
    obtain ⟨rfl, x, rfl, hx⟩ := h3
    obtain ⟨mi, R3⟩ := rel_5 (D := 485) (t := t) (by omega) R1
    refine ⟨x, rfl, k2, ?_⟩
    apply w_Model_thrown_0
    refine ⟨k2, _, rfl, fun _ => ⟨fun w => absurd t0 w, fun _ => hA _ ?_ R3, fun w => absurd (Or.inl t0) w⟩, fun w => ?_⟩
    · exact ⟨mi.1, mi.2.1, mi.2.2.1, mi.2.2.2.1, mi.2.2.2.2.1, mi.2.2.2.2.2⟩
    · exfalso
      apply w
      rw [zG_zS_at]
theorem s_productIsLong {d : Nat} {h v : Int} {S : Hp} {Q : Vl → Hp → Prop} (H1 : lgB h v → Q (0, 1) S) (H0 : ¬ lgB h v → Q (0, 0) S) : Ev d 158 [(1, h), (0, v)] S Q := by
  apply w_Crc_productIsLong_0
  refine ⟨fun z => ⟨Or.inr rfl, H1 ?_⟩, fun z => ?_⟩
  · rcases z with z | z
    · exact Or.inl z
    · exact Or.inr (Or.inl (Decidable.not_not.mp z))
  · have v0 : v ≠ 0 := fun y => z (Or.inl y)
    have v1 : v ≠ 1 := fun y => z (Or.inr (fun x => x y))
    refine ⟨fun v2 => ?_, fun v2 => ?_⟩
    · have hv : 2 ≤ v ∨ v ≤ -2 := by omega
      have t1 := td_bd (a := 9223372036854775807) (v := v) (by decide) hv
      have t2 := td_bd (a := -9223372036854775808) (v := v) (by decide) hv
      rw [w64_id (x := (-9223372036854775808 : Int).tdiv v) (by omega) (by omega), w64_id (x := (9223372036854775807 : Int).tdiv v) (by omega) (by omega)]
      unfold lgB at H0 H1
      generalize (9223372036854775807 : Int).tdiv v = A at *
      generalize (-9223372036854775808 : Int).tdiv v = B at *
      refine ⟨v0, ?_⟩
      rintro _ rfl
      refine ⟨v0, ?_⟩
      rintro _ rfl
      refine ⟨fun q => ⟨fun y => ?_, fun y => ?_⟩, fun q => ⟨fun y => ?_, fun y => ?_⟩⟩
      · rw [lCmp_lt, lCmp_gt] at y
        exact ⟨Or.inl rfl, H0 (by omega)⟩
      · rw [lCmp_lt, lCmp_gt] at y
        exact ⟨Or.inr rfl, H1 (by omega)⟩
      · rw [lCmp_lt, lCmp_gt] at y
        exact ⟨Or.inl rfl, H0 (by omega)⟩
      · rw [lCmp_lt, lCmp_gt] at y
        exact ⟨Or.inr rfl, H1 (by omega)⟩
    · have v2 : v = -1 := Decidable.not_not.mp v2
      rintro _ rfl
      unfold lgB at H0 H1
      by_cases y : lCmp h (-9223372036854775808) = 0
      · rw [if_pos y]
        have y := lCmp_eq.mp y
        exact ⟨Or.inl rfl, H0 (by omega)⟩
      · rw [if_neg y]
        exact ⟨Or.inr rfl, H1 (Or.inr (Or.inr (Or.inl ⟨v2, fun z => y (lCmp_eq.mpr z)⟩)))⟩
/-- what get answers: a refusal or a number -/
theorem x_get {S : Hp} {s i : Int} (R : Rel S 485) : ∃ t y, (∀ d, Ev (d + 20) 135 [(2, 1), (0, s), (0, i)] S (fun r S1 => S1 = S ∧ ((t = 0 ∧ r = (1, y)) ∨ (t ≠ 0 ∧ r = (9, t))))) ∧ ∀ d T, OUTX S T → Ev (d + 20) 277 [(2, 485), (0, s), (0, i)] T (fun r S' => S' = zS T 485 5 t ∧ (∃ x, r = (1, x) ∧ (t = 0 → x = y))) := by
  obtain ⟨v, u, p, n, g, F, Δ, kn, cl, md, re⟩ := R
  have sh := re.2.1
  have hZ : ∀ T, OUTX S T → 0 ≤ s → s < 6 → 0 ≤ zG T (485 + 8) s ∧ zG T (485 + 8) s ≤ 40 := fun T o s0 s1 => by
    rw [o.2.2 _ _ (by omega)]
    exact (sh s s0 s1).2.2.2.2.2.1
  have dw : ∀ T, OUTX S T → DW T 485 := fun T o => ⟨(o.1 _).trans md.1.1, fun j hj => ⟨(o.2.2 _ _ (by omega)).trans (md.1.2 j hj).1, (o.1 _).trans (md.1.2 j hj).2.1, (o.2.1 _).trans (md.1.2 j hj).2.2⟩⟩
  by_cases hs : 0 ≤ s ∧ s < 6
  · obtain ⟨a1, a2, a3, a4, a5, a6, a7, -⟩ := sh s hs.1 hs.2
    have sw := cl.sw hs.1 hs.2
    by_cases q : zG S (485 + 3) s = 2 ∧ 0 ≤ i ∧ i < zG S (485 + 8) s
    · refine ⟨0, zG S (485 + 9) (40 * s + i), fun d => ?_, fun d T o => ?_⟩
      · apply w_Crc_get_0
        refine s_isShelf ⟨_, rfl, fun _ => ?_, fun w => absurd hs (i2 w)⟩
        rw [cl.1.a6, cl.1.p6 s hs.1 hs.2]
        refine ⟨cl.1.1, ⟨cl.1.k68.1, hs.1, by rw [cl.1.k68.2]; exact hs.2⟩, ?_⟩
        rintro _ rfl
        rw [a1, a5, sw.2.2.2.1]
        refine ⟨sw.1, fun _ _ => sw.1, fun w => by omega, fun _ => ⟨sw.1, ⟨sw.2.2.2.2.1, q.2.1, by rw [sw.2.2.2.2.2]; omega⟩, rfl, Or.inl ⟨rfl, ?_⟩⟩⟩
        rw [(a7 q.1 i q.2.1 (by omega)).1]
      · have g3 := o.2.2 (485 + 3) s (by omega)
        have g8 := o.2.2 (485 + 8) s (by omega)
        exact m_get (dw T o) (hZ T o) (fun w => absurd hs w) (fun _ w => by rw [g3, g8] at w; exact absurd q w) (fun _ _ => ⟨rfl, _, rfl, fun _ => o.2.2 _ _ (by omega)⟩)
    · refine ⟨2, 0, fun d => ?_, fun d T o => ?_⟩
      · apply w_Crc_get_0
        refine s_isShelf ⟨_, rfl, fun _ => ?_, fun w => absurd hs (i2 w)⟩
        rw [cl.1.a6, cl.1.p6 s hs.1 hs.2]
        refine ⟨cl.1.1, ⟨cl.1.k68.1, hs.1, by rw [cl.1.k68.2]; exact hs.2⟩, ?_⟩
        rintro _ rfl
        rw [a1, a5]
        exact ⟨sw.1, fun _ _ => sw.1, fun _ => ⟨by omega, rfl, Or.inr ⟨by decide, rfl⟩⟩, fun w => by omega⟩
      · have g3 := o.2.2 (485 + 3) s (by omega)
        have g8 := o.2.2 (485 + 8) s (by omega)
        exact m_get (dw T o) (hZ T o) (fun w => absurd hs w) (fun _ _ => ⟨rfl, _, rfl, fun w => absurd w (by decide)⟩) (fun _ w => by rw [g3, g8] at w; exact absurd w q)
  · refine ⟨1, 0, fun d => ?_, fun d T o => ?_⟩
    · apply w_Crc_get_0
      exact s_isShelf ⟨_, rfl, fun w => absurd (i1 w) hs, fun _ => ⟨by omega, rfl, Or.inr ⟨by decide, rfl⟩⟩⟩
    · exact m_get (dw T o) (hZ T o) (fun _ => ⟨rfl, _, rfl, fun w => absurd w (by decide)⟩) (fun w => absurd w hs) (fun w => absurd w hs)
