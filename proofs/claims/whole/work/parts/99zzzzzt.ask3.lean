/-! Calls about rings: conductor, open, genus. -/
theorem dpN_ge {n : Int} {fig : Int → Int → Int → Int} : ∀ (k : Nat) (e : Int), 0 ≤ e → e < k → fig (e / 84) (e % 84 / 21) (e % 21) ≠ 0 → e % 21 ≤ dpN n fig k
  | 0, e, e0, e1, _ => by omega
  | k + 1, e, e0, e1, h => by
    have ih := dpN_ge (n := n) (fig := fig) k e e0
    show e % 21 ≤ if fig ((k : Int) / 84) ((k : Int) % 84 / 21) ((k : Int) % 21) = 0 ∨ (k : Int) % 21 ≤ dpN n fig k then dpN n fig k else (k : Int) % 21
    by_cases q : e = k
    · rw [← q]
      split
      · rename_i w
        rcases w with w | w
        · exact absurd w h
        · exact w
      · exact Int.le_refl _
    · have := ih (by omega) h
      split <;> omega
theorem dpN_at {n : Int} {fig : Int → Int → Int → Int} : ∀ (k : Nat), dpN n fig k = 0 ∨ ∃ e : Int, 0 ≤ e ∧ e < k ∧ fig (e / 84) (e % 84 / 21) (e % 21) ≠ 0 ∧ e % 21 = dpN n fig k
  | 0 => Or.inl rfl
  | k + 1 => by
    have ih := dpN_at (n := n) (fig := fig) k
    have un : dpN n fig (k + 1) = if fig ((k : Int) / 84) ((k : Int) % 84 / 21) ((k : Int) % 21) = 0 ∨ (k : Int) % 21 ≤ dpN n fig k then dpN n fig k else (k : Int) % 21 := rfl
    rw [un]
    split
    · rcases ih with w | ⟨e, e0, e1, e2, e3⟩
      · exact Or.inl w
      · exact Or.inr ⟨e, e0, by omega, e2, e3⟩
    · rename_i w
      exact Or.inr ⟨k, by omega, by omega, fun z => w (Or.inl z), rfl⟩
/-- the deepest figure, told in both ways -/
theorem deep_eq {n : Int} {f fig : Int → Int → Int → Int} {v : Int → Int} (hn : 2 ≤ n ∧ n ≤ 4) (hf : fgR n f fig) (hz : ∀ l i m, n ≤ l → l < 4 → 0 ≤ i → i < 4 → 1 ≤ m → m ≤ 20 → f l i m = 0) (tr : TRF n fig) (hf' : fgR n fig f) (d : ∀ j, 0 ≤ j → j < 4 → isDp (f j) j (v j)) : max (max (max (max 0 (v 0)) (v 1)) (v 2)) (v 3) = dpN n fig (84 * n).toNat := by
  have b0 := d 0 (by omega) (by omega)
  have b1 := d 1 (by omega) (by omega)
  have b2 := d 2 (by omega) (by omega)
  have b3 := d 3 (by omega) (by omega)
  have up : ∀ j, 0 ≤ j → j < 4 → v j ≤ dpN n fig (84 * n).toNat := fun j j0 j1 => by
    have dj := d j j0 j1
    have dj1 := dj.1
    have dj2 := dj.2.1
    have pos := (dpN_bd (n := n) (fig := fig) (84 * n).toNat).1
    by_cases q : 1 ≤ v j
    · obtain ⟨i, i0, i1, i2⟩ := dj.2.2.2 q
      by_cases w : j < n
      · have e := hf' j i (v j) j0 w i0 (by omega) (by omega) dj.2.1
        have g := dpN_ge (n := n) (fig := fig) (84 * n).toNat (84 * j + 21 * i + v j) (by omega) (by omega)
        rw [show (84 * j + 21 * i + v j) / 84 = j by omega, show (84 * j + 21 * i + v j) % 84 / 21 = i by omega, show (84 * j + 21 * i + v j) % 21 = v j by omega] at g
        exact g (by rw [← e]; exact i2)
      · exact absurd (hz j i (v j) (by omega) j1 i0 (by omega) q dj.2.1) i2
    · omega
  have dn : dpN n fig (84 * n).toNat ≤ max (max (max (max 0 (v 0)) (v 1)) (v 2)) (v 3) := by
    rcases dpN_at (n := n) (fig := fig) (84 * n).toNat with w | ⟨e, e0, e1, e2, e3⟩
    · omega
    · have j0 : 0 ≤ e / 84 := by omega
      have j1 : e / 84 < n := by omega
      have dj := d (e / 84) j0 (by omega)
      have vj : e % 21 ≤ v (e / 84) := Classical.byContradiction (fun q => by
        by_cases w : e % 84 / 21 ≤ e / 84
        · have a := dj.2.2.1 (e % 21) (by omega) (by omega) (e % 84 / 21) (by omega) w
          have b := hf' (e / 84) (e % 84 / 21) (e % 21) j0 j1 (by omega) (by omega) (by omega) (by omega)
          exact e2 (b.symm.trans a)
        · exact e2 (tr (e / 84) (e % 84 / 21) (e % 21) j0 j1 (by omega) (by omega) (by omega) (by omega)))
      rcases (show e / 84 = 0 ∨ e / 84 = 1 ∨ e / 84 = 2 ∨ e / 84 = 3 by omega) with r | r | r | r <;> rw [r] at vj <;> omega
  have u0 := up 0 (by omega) (by omega)
  have u1 := up 1 (by omega) (by omega)
  have u2 := up 2 (by omega) (by omega)
  have u3 := up 3 (by omega) (by omega)
  have pos := (dpN_bd (n := n) (fig := fig) (84 * n).toNat).1
  omega
theorem fgR_sym {n : Int} {f f' : Int → Int → Int → Int} (h : fgR n f f') : fgR n f' f := fun l i m l0 l1 i0 i1 m0 m1 => (h l i m l0 l1 i0 i1 m0 m1).symm
theorem fgR_tr {n : Int} {f f' f'' : Int → Int → Int → Int} (h : fgR n f f') (h' : fgR n f' f'') : fgR n f f'' := fun l i m l0 l1 i0 i1 m0 m1 => (h' l i m l0 l1 i0 i1 m0 m1).trans (h l i m l0 l1 i0 i1 m0 m1)
theorem r_conductor {d : Nat} {S : Hp} {D c w : Int} (hD : 485 ≤ D) (R : Rel S D) : TW (d + 20) 116 245 [(0, c), (0, w)] S D := by
  obtain ⟨v, u, p, n, g, F, Δ, kn, cl, md, re⟩ := R
  have id0 := rel_id kn cl md re
  unfold TW
  apply w_Crc_conductor_0
  rw [cl.1.a1, cl.c1]
  refine ⟨cl.1.1, cl.vw.1, fun n0 => ⟨cl.1.1, s_isNum cl ⟨_, rfl, fun z => ?_, fun z => ?_⟩⟩, fun n0 => ⟨_, rfl, id0.1, ?_⟩⟩
  · refine ⟨_, rfl, id0.1, m_conductor (md.mc n0) (fun z => absurd z n0) (fun _ _ => ⟨rfl, id0⟩) (fun _ hc S2 L fK dK o mc r => ?_)⟩
    have hw : w < 0 ∨ ¬ w ≤ 1 := by
      rcases z with z | z
      · exact absurd hc (i0 z)
      · exact z
    rw [if_neg (by omega), if_neg (by omega)]
    exact ⟨rfl, rel_op hD kn cl md re n0 o mc⟩
  · have hc : 0 ≤ c ∧ c < p := i1 (fun q => z (Or.inl q))
    have c7 := kn.p7 hc.2
    have hn := CLS.n4 kn n0
    rw [cl.1.a5, cl.1.a13, cl.1.a1, cl.1.p5 c hc.1 c7]
    refine ⟨cl.1.1, cl.1.1, cl.1.1, ⟨cl.1.k67.1, hc.1, by rw [cl.1.k67.2]; exact c7⟩, cl.gw.1, s_ringC kn cl n0 hc (fun S1 Lc fK dK m cl1 L0 pch clo rk => ⟨_, rfl, fun q => ?_, fun q => ?_⟩)⟩
    · obtain ⟨mi, md1, re1⟩ := cls_run hD kn cl md re m
      have pw1 := cl1.pw hc.1 c7
      have rd := (rk.2.1 Lc L0.1 (Int.le_refl _)).1
      rw [rk.1]
      refine ⟨pw1.1, pw1.1, s_allDepths pw1 ⟨L0.1, by omega⟩ (rd1_b (c := c) L0 pch L0.1 (Int.le_refl _) rd) ⟨_, rfl, ?_⟩⟩
      rw [rd.ls hn]
      refine ⟨_, rfl, mi, m_conductor (md1.mc n0) (fun z => absurd z n0) (fun _ w => absurd hc w) (fun _ _ S2 L fK' dK' o mc r => ?_)⟩
      have e := ring_eq kn n0 L0 pch clo r
      rw [if_neg q, if_pos (by omega), e.1, lsF_congr (e.2 Lc L0.1 (Int.le_refl _)).1.2]
      exact ⟨rfl, rel_op hD kn cl1 md1 re1 n0 o mc⟩
    · obtain ⟨mi, md1, re1⟩ := cls_run hD kn cl md re m
      have pw1 := cl1.pw hc.1 c7
      have rd := (rk.2.1 Lc L0.1 (Int.le_refl _)).1
      rw [rk.1]
      refine ⟨pw1.1, pw1.1, s_deepest pw1 (cl1.pr hc.1 c7) ⟨L0.1, by omega⟩ (fun v0 v1 v2 v3 h0 h1 h2 h3 => ⟨_, rfl, ?_⟩)⟩
      refine ⟨_, rfl, mi, m_conductor (md1.mc n0) (fun z => absurd z n0) (fun _ w => absurd hc w) (fun _ _ S2 L fK' dK' o mc r => ?_)⟩
      have e := ring_eq kn n0 L0 pch clo r
      have eL := e.1
      rw [eL] at r ⊢
      have e2 := (e.2 Lc L0.1 (Int.le_refl _)).1.1
      have tr : TRF n (fK' Lc) := by
        obtain ⟨O, I, φ, E, J, ι, y, h, A⟩ := env_ex kn.1 hn (cfF (mvC p c F) n)
        have v2 := chain_rst h kn.1 hn A (by omega) r.2.2.2.2.1 Lc.toNat (by omega)
        rw [show ((Lc.toNat : Nat) : Int) = Lc by omega] at v2
        exact v2.2.2.2.2.2.2.1
      have q2 : fgR n (fK' Lc) (figS S1 (301 + 6 * c) Lc) := fgR_tr (fgR_sym e2) rd.1
      have de := deep_eq (v := fun j => if j = 0 then v0 else if j = 1 then v1 else if j = 2 then v2 else v3) hn (fgR_sym q2) rd.2.2.2.2 tr q2 (fun j j0 j1 => by
        (try dsimp only)
        rcases (show j = 0 ∨ j = 1 ∨ j = 2 ∨ j = 3 by omega) with r | r | r | r
        · rw [r, if_pos rfl]
          exact h0
        · rw [r, if_neg (by omega), if_pos rfl]
          exact h1
        · rw [r, if_neg (by omega), if_neg (by omega), if_pos rfl]
          exact h2
        · rw [r, if_neg (by omega), if_neg (by omega), if_neg (by omega)]
          exact h3)
      (try dsimp only at de)
      rw [if_pos rfl, if_neg (by omega), if_pos rfl, if_neg (by omega), if_neg (by omega), if_pos rfl, if_neg (by omega), if_neg (by omega), if_neg (by omega)] at de
      rw [if_pos (by omega), de]
      exact ⟨rfl, rel_op hD kn cl1 md1 re1 n0 o mc⟩
  · apply w_Model_conductor_0
    exact ⟨md.1.1, m0_wr md.1.1 (md.2.2.1.trans (Classical.not_not.mp n0)) ⟨_, rfl, fun z => absurd z (by decide), fun _ => ⟨rfl, id0⟩⟩⟩
/-- of each number its chain -/
theorem chains {p n g : Int} {F Δ : Int → Int} (kn : KNO p n g F Δ) (n0 : n ≠ 0) : ∃ (h : Int → Int) (fK : Int → Int → Int → Int → Int → Int) (dK : Int → Int → Int → Int), ∀ c, 0 ≤ c → c < p → (0 ≤ h c ∧ h c ≤ 18) ∧ PCH p n (cfF (mvC p c F) n) (fK c) (dK c) (h c) ∧ CLO p n (cfF (mvC p c F) n) (fK c) (dK c) (h c) := by
  obtain ⟨-, P, q, -⟩ := kn.2.2.2 n0
  have hn := CLS.n4 kn n0
  have ex : ∀ c : Int, ∃ (L : Int) (fK : Int → Int → Int → Int → Int) (dK : Int → Int → Int), 0 ≤ L ∧ L ≤ 18 ∧ PCH p n (cfF (mvC p c F) n) fK dK L ∧ CLO p n (cfF (mvC p c F) n) fK dK L := fun c => by
    obtain ⟨O, I, φ, E, J, ι, y, h, A⟩ := env_ex kn.1 hn (cfF (mvC p c F) n)
    exact chain_ex h kn.1 hn A (q.mth c)
  refine ⟨fun c => Classical.choose (ex c), fun c => Classical.choose (Classical.choose_spec (ex c)), fun c => Classical.choose (Classical.choose_spec (Classical.choose_spec (ex c))), fun c _ _ => ?_⟩
  have s := Classical.choose_spec (Classical.choose_spec (Classical.choose_spec (ex c)))
  exact ⟨⟨s.1, s.2.1⟩, s.2.2⟩
/-- two chains over one number -/
theorem two_eq {p n g c L Lc : Int} {F Δ : Int → Int} {fK fK' : Int → Int → Int → Int → Int} {dK dK' : Int → Int → Int} (kn : KNO p n g F Δ) (n0 : n ≠ 0) (L0 : 0 ≤ Lc ∧ Lc ≤ 18) (pch : PCH p n (cfF (mvC p c F) n) fK dK Lc) (clo : CLO p n (cfF (mvC p c F) n) fK dK Lc) (L0' : 0 ≤ L ∧ L ≤ 19) (pch' : PCH p n (cfF (mvC p c F) n) fK' dK' L) (clo' : CLO p n (cfF (mvC p c F) n) fK' dK' L) : L = Lc ∧ ∀ l, 0 ≤ l → l < n → dK' Lc l = dK Lc l := by
  obtain ⟨-, P, q, -⟩ := kn.2.2.2 n0
  have hn := CLS.n4 kn n0
  obtain ⟨O, I, φ, E, J, ι, y, h, A⟩ := env_ex kn.1 hn (cfF (mvC p c F) n)
  have L19 := (q.mth c fK' dK' L L0'.1 L0'.2 pch').1
  have e := chain_eq h kn.1 hn A L0.1 L0'.1 L0.2 (by omega) pch clo pch' clo'
  exact ⟨e.1, (e.2 Lc L0.1 (Int.le_refl _)).2⟩
/-- where DISC shows it at most once, nothing grows -/
theorem no_grow {S : Hp} {v u p n g c L : Int} {F Δ : Int → Int} {fK : Int → Int → Int → Int → Int} {dK : Int → Int → Int} (kn : KNO p n g F Δ) (cl : CLS S v u p n g F Δ) (n0 : n ≠ 0) (hc : 0 ≤ c ∧ c < p) (L0 : 0 ≤ L) (pch : PCH p n (cfF (mvC p c F) n) fK dK L) (h : zG S (v + 13) c < 2) : L = 0 := by
  obtain ⟨-, P, q, eΔ⟩ := kn.2.2.2 n0
  refine Classical.byContradiction (fun ne => ?_)
  have := q.two (pch.pre (k := 1) (by omega))
  rw [(cl.2.2.1.2.2 n0).2.2.2.2 c hc.1 hc.2, show Δ = dsM p n (trE n P) from funext eΔ] at h
  omega
theorem r_open {d : Nat} {S : Hp} {D : Int} (hD : 485 ≤ D) (R : Rel S D) : TW (d + 20) 109 235 [] S D := by
  obtain ⟨v, u, p, n, g, F, Δ, kn, cl, md, re⟩ := R
  have id0 := rel_id kn cl md re
  unfold TW
  apply w_Crc_open_0
  rw [cl.1.a1, cl.c1]
  refine ⟨cl.1.1, cl.vw.1, fun n0 => ?_, fun n0 => ⟨_, rfl, id0.1, ?_⟩⟩
  · obtain ⟨h, fK, dK, hh⟩ := chains kn n0
    have p7 := kn.1.two
    refine loopU2 (α := Int) (P := fun c set S' => At (d + 20) 109 c109_17 [(0, (2, 1)), (1, (0, set)), (2, (0, c))] [] S' (fun r S1 => ∃ x, r = (0, x) ∧ MID S S1 D ∧ Ev (d + 20) 235 [(2, D)] S1 (fun r' S2 => r' = (0, x) ∧ MID S1 S2 D ∧ Rel S2 D))) (I := fun c set S' => 0 ≤ c ∧ set = bsN h c.toNat ∧ Md RGm S S' ∧ CLS S' v u p n g F Δ) p ?_ ?_ 0 0 S (by omega) ⟨by omega, rfl, Md.refl _ _, cl⟩
    · rintro c set S1 c1 ⟨c0, hs, m1, cl1⟩ next
      have c7 := kn.p7 c1
      have hc := hh c c0 c1
      have step : ∀ S2 set', Md RGm S S2 → CLS S2 v u p n g F Δ → set' = bsN h (c + 1).toNat → At (d + 20) 109 c109_68 [(0, (2, 1)), (1, (0, set')), (2, (0, c))] [] S2 (fun r S1 => ∃ x, r = (0, x) ∧ MID S S1 D ∧ Ev (d + 20) 235 [(2, D)] S1 (fun r' S2 => r' = (0, x) ∧ MID S1 S2 D ∧ Rel S2 D)) := fun S2 set' m2 cl2 e => by
        apply w_Crc_open_68
        rintro _ rfl
        rw [w32_id (by omega) (by omega)]
        exact next set' S2 ⟨by omega, e, m2, cl2⟩
      apply w_Crc_open_17
      rw [cl1.1.a1, cl1.c0]
      refine ⟨cl1.1.1, cl1.vw.1, fun z => by omega, fun _ => ⟨cl1.1.1, cl1.vw.1, s_mayGrow cl1.vw ⟨c0, c7⟩ ⟨_, rfl, fun z => ?_, fun z => ?_⟩⟩⟩
      · have lt : zG S1 (v + 13) c < 2 := Classical.byContradiction (fun q => by rw [if_neg q] at z; omega)
        have e0 := no_grow kn cl1 n0 ⟨c0, c1⟩ hc.1.1 hc.2.1 lt
        refine step S1 set m1 cl1 ?_
        rw [hs, show (c + 1).toNat = c.toNat + 1 by omega]
        exact (bsN_skip (by rw [show ((c.toNat : Nat) : Int) = c by omega]; exact e0)).symm
      · rw [cl1.1.a5, cl1.1.a13, cl1.1.a1, cl1.1.p5 c c0 c7]
        refine ⟨cl1.1.1, cl1.1.1, cl1.1.1, ⟨cl1.1.k67.1, c0, by rw [cl1.1.k67.2]; exact c7⟩, cl1.gw.1, s_ringC kn cl1 n0 ⟨c0, c1⟩ (fun S2 Lc fK2 dK2 m2 cl2 L0 pch clo rk => ⟨_, rfl, (cl2.pw c0 c7).1, ?_⟩)⟩
        have e := (two_eq kn n0 L0 pch clo ⟨hc.1.1, by omega⟩ hc.2.1 hc.2.2).1
        rw [rk.1]
        have nn : ((c.toNat : Nat) : Int) = c := by omega
        refine ⟨fun q => ?_, fun q => ?_⟩
        · refine step S2 set (m1.tr m2) cl2 ?_
          rw [hs, show (c + 1).toNat = c.toNat + 1 by omega]
          exact (bsN_skip (by rw [nn]; omega)).symm
        · rintro _ rfl
          refine step S2 _ (m1.tr m2) cl2 ?_
          rw [hs, show (c + 1).toNat = c.toNat + 1 by omega, bsN_at (by rw [nn]; omega), nn]
    · rintro set S1 ⟨-, hs, m1, cl1⟩
      obtain ⟨mi, md1, re1⟩ := cls_run hD kn cl md re m1
      apply w_Crc_open_17
      rw [cl1.1.a1, cl1.c0]
      refine ⟨cl1.1.1, cl1.vw.1, fun _ => ?_, fun z => absurd (Int.le_refl _) z⟩
      refine ⟨_, rfl, mi, m_open (md1.mc n0) (fun z => absurd z n0) (fun _ S2 f o mc al => ?_)⟩
      rw [hs]
      refine ⟨congrArg (fun x => ((0 : Nat), x)) (bsN_congr p.toNat (fun k k0 k1 => ?_)), rel_op hD kn cl1 md1 re1 n0 o mc⟩
      have hk := hh k k0 (by omega)
      obtain ⟨L, fK', dK', a0, a1, a2, a3, a4⟩ := al k k0 (by omega)
      have e := (two_eq kn n0 hk.1 hk.2.1 hk.2.2 ⟨a0, a1⟩ a2 a3).1
      rw [a4, e]
  · apply w_Model_open_0
    exact ⟨md.1.1, fun z => absurd (md.2.2.1.trans (Classical.not_not.mp n0)) z, fun _ => ⟨rfl, id0⟩⟩
theorem s_lostInAll {d : Nat} {S : Hp} {v u p n g : Int} {F Δ : Int → Int} {Q : Vl → Hp → Prop} {h : Int → Int} {fK : Int → Int → Int → Int → Int → Int} {dK : Int → Int → Int → Int} (kn : KNO p n g F Δ) (cl : CLS S v u p n g F Δ) (n0 : n ≠ 0) (hh : ∀ c, 0 ≤ c → c < p → (0 ≤ h c ∧ h c ≤ 18) ∧ PCH p n (cfF (mvC p c F) n) (fK c) (dK c) (h c) ∧ CLO p n (cfF (mvC p c F) n) (fK c) (dK c) (h c)) (H : ∀ S', Md RGm S S' → CLS S' v u p n g F Δ → Q (0, sm p.toNat (fun c => lsF n (dK c (h c)))) S') : Ev (d + 6) 152 [(2, 1)] S Q := by
  have p7 := kn.1.two
  have hn := CLS.n4 kn n0
  have lb : ∀ c, 0 ≤ c → c < p → 0 ≤ lsF n (dK c (h c)) ∧ lsF n (dK c (h c)) ≤ 80 := fun c c0 c1 => by
    have hc := hh c c0 c1
    have b := fun l l0 l1 => hc.2.1.dp (h c).toNat (by omega) l l0 l1
    rw [show (((h c).toNat : Nat) : Int) = h c by omega] at b
    have s := sm_bd (n := n.toNat) (f := dK c (h c)) (B := 20) (fun i i0 i1 => by have := b i i0 (by omega); omega)
    unfold lsF
    omega
  apply w_Crc_lostInAll_0
  refine loopU2 (α := Int) (P := fun c sum S' => At (d + 6) 152 c152_4 [(0, (2, 1)), (1, (0, sum)), (2, (0, c))] [] S' Q) (I := fun c sum S' => 0 ≤ c ∧ sum = sm c.toNat (fun c => lsF n (dK c (h c))) ∧ Md RGm S S' ∧ CLS S' v u p n g F Δ) p ?_ ?_ 0 0 S (by omega) ⟨by omega, rfl, Md.refl _ _, cl⟩
  · rintro c sum S1 c1 ⟨c0, hs, m1, cl1⟩ next
    have c7 := kn.p7 c1
    have hc := hh c c0 c1
    have lc := lb c c0 c1
    have sb := sm_bd (n := c.toNat) (f := fun c => lsF n (dK c (h c))) (B := 80) (fun i i0 i1 => lb i i0 (by omega))
    have nn : ((c.toNat : Nat) : Int) = c := by omega
    have sc : sm (c + 1).toNat (fun c => lsF n (dK c (h c))) = sum + lsF n (dK c (h c)) := by
      rw [show (c + 1).toNat = c.toNat + 1 by omega, sm_succ, hs, nn]
    have step : ∀ S2 sum', Md RGm S S2 → CLS S2 v u p n g F Δ → sum' = sm (c + 1).toNat (fun c => lsF n (dK c (h c))) → At (d + 6) 152 c152_55 [(0, (2, 1)), (1, (0, sum')), (2, (0, c))] [] S2 Q := fun S2 sum' m2 cl2 e => by
      apply w_Crc_lostInAll_55
      rintro _ rfl
      rw [w32_id (by omega) (by omega)]
      exact next sum' S2 ⟨by omega, e, m2, cl2⟩
    apply w_Crc_lostInAll_4
    rw [cl1.1.a1, cl1.c0]
    refine ⟨cl1.1.1, cl1.vw.1, fun z => by omega, fun _ => ⟨cl1.1.1, cl1.vw.1, s_mayGrow cl1.vw ⟨c0, c7⟩ ⟨_, rfl, fun z => ?_, fun z => ?_⟩⟩⟩
    · have lt : zG S1 (v + 13) c < 2 := Classical.byContradiction (fun q => by rw [if_neg q] at z; omega)
      have e0 := no_grow kn cl1 n0 ⟨c0, c1⟩ hc.1.1 hc.2.1 lt
      refine step S1 sum m1 cl1 ?_
      rw [sc]
      have z0 : lsF n (dK c (h c)) = 0 := by
        rw [e0]
        unfold lsF
        exact sm_zeros (fun i i0 i1 => hc.2.1.2.1 i i0 (by omega))
      omega
    · rw [cl1.1.a5, cl1.1.a13, cl1.1.a1, cl1.1.p5 c c0 c7]
      refine ⟨cl1.1.1, cl1.1.1, cl1.1.1, ⟨cl1.1.k67.1, c0, by rw [cl1.1.k67.2]; exact c7⟩, cl1.gw.1, s_ringC kn cl1 n0 ⟨c0, c1⟩ (fun S2 Lc fK2 dK2 m2 cl2 L0 pch clo rk => ⟨_, rfl, (cl2.pw c0 c7).1, (cl2.pw c0 c7).1, ?_⟩)⟩
      have e := two_eq kn n0 L0 pch clo ⟨hc.1.1, by omega⟩ hc.2.1 hc.2.2
      have rd := (rk.2.1 Lc L0.1 (Int.le_refl _)).1
      rw [rk.1]
      refine s_allDepths (cl2.pw c0 c7) ⟨L0.1, by omega⟩ (rd1_b (c := c) L0 pch L0.1 (Int.le_refl _) rd) ⟨_, rfl, ?_⟩
      rw [rd.ls hn]
      have el : lsF n (dK2 Lc) = lsF n (dK c (h c)) := by
        rw [e.1]
        exact (lsF_congr e.2).symm
      rintro _ rfl
      rw [el, w32_id (by omega) (by omega)]
      exact step S2 _ (m1.tr m2) cl2 sc.symm
  · rintro sum S1 ⟨-, hs, m1, cl1⟩
    apply w_Crc_lostInAll_4
    rw [cl1.1.a1, cl1.c0]
    refine ⟨cl1.1.1, cl1.vw.1, fun _ => ?_, fun z => absurd (Int.le_refl _) z⟩
    rw [hs]
    exact H S1 m1 cl1
theorem r_genus {d : Nat} {S : Hp} {D w : Int} (hD : 485 ≤ D) (R : Rel S D) : TW (d + 20) 117 246 [(0, w)] S D := by
  obtain ⟨v, u, p, n, g, F, Δ, kn, cl, md, re⟩ := R
  have id0 := rel_id kn cl md re
  unfold TW
  apply w_Crc_genus_0
  rw [cl.1.a1, cl.c1]
  refine ⟨cl.1.1, cl.vw.1, fun n0 => ⟨fun z => ?_, fun z => ?_⟩, fun n0 => ⟨_, rfl, id0.1, ?_⟩⟩
  · have gb : 0 ≤ g ∧ g ≤ 12 := by
      rw [(kn.2.2.2 n0).1.1]
      exact mxN_bd (by omega) (fun e e0 e1 => by (try dsimp only); omega) 49 (by omega)
    exact ⟨_, rfl, id0.1, m_genus (md.mc n0) md.2.2.2.1 gb (fun z => absurd z n0) (fun _ _ => ⟨rfl, id0⟩) (fun _ q => by omega) (fun _ q => by omega)⟩
  · have gb : 0 ≤ g ∧ g ≤ 12 := by
      rw [(kn.2.2.2 n0).1.1]
      exact mxN_bd (by omega) (fun e e0 e1 => by (try dsimp only); omega) 49 (by omega)
    have p7 := kn.1.two
    have hn := CLS.n4 kn n0
    have vg : zG S v 2 = g := (cl.2.2.1.2.2 n0).1
    have gm : -12 ≤ (g - 1) * (g - 2) ∧ (g - 1) * (g - 2) ≤ 200 := by
      rcases (show g = 0 ∨ g = 1 ∨ g = 2 ∨ g = 3 ∨ g = 4 ∨ g = 5 ∨ g = 6 ∨ g = 7 ∨ g = 8 ∨ g = 9 ∨ g = 10 ∨ g = 11 ∨ g = 12 by omega) with r | r | r | r | r | r | r | r | r | r | r | r | r <;> rw [r] <;> decide
    have td : -12 ≤ ((g - 1) * (g - 2)).tdiv 2 ∧ ((g - 1) * (g - 2)).tdiv 2 ≤ 200 := by
      rcases (show g = 0 ∨ g = 1 ∨ g = 2 ∨ g = 3 ∨ g = 4 ∨ g = 5 ∨ g = 6 ∨ g = 7 ∨ g = 8 ∨ g = 9 ∨ g = 10 ∨ g = 11 ∨ g = 12 by omega) with r | r | r | r | r | r | r | r | r | r | r | r | r <;> rw [r] <;> decide
    rw [vg]
    refine ⟨cl.1.1, cl.vw.1, cl.1.1, cl.vw.1, by decide, ?_⟩
    rintro _ rfl
    rw [w32_id (x := g - 1) (by omega) (by omega), w32_id (x := g - 2) (by omega) (by omega), w32_id (x := (g - 1) * (g - 2)) (by omega) (by omega), w32_id (x := ((g - 1) * (g - 2)).tdiv 2) (by omega) (by omega)]
    obtain ⟨h, fK, dK, hh⟩ := chains kn n0
    have tot : ∀ S2 f, opR D S S2 ∨ True → ALL p n F (fun c L _ dK => f c = lsF n (dK L)) → sm p.toNat f = sm p.toNat (fun c => lsF n (dK c (h c))) := fun S2 f _ al => sm_congr fun c c0 c1 => by
      have hc := hh c c0 (by omega)
      obtain ⟨L, fK', dK', a0, a1, a2, a3, a4⟩ := al c c0 (by omega)
      have e := two_eq kn n0 hc.1 hc.2.1 hc.2.2 ⟨a0, a1⟩ a2 a3
      rw [a4, e.1]
      exact lsF_congr e.2
    have sb : 0 ≤ sm p.toNat (fun c => lsF n (dK c (h c))) ∧ sm p.toNat (fun c => lsF n (dK c (h c))) ≤ p.toNat * 80 := sm_bd (fun c c0 c1 => by
      have hc := hh c c0 (by omega)
      have b := fun l l0 l1 => hc.2.1.dp (h c).toNat (by omega) l l0 l1
      rw [show (((h c).toNat : Nat) : Int) = h c by omega] at b
      have s := sm_bd (n := n.toNat) (f := dK c (h c)) (B := 20) (fun i i0 i1 => by have := b i i0 (by omega); omega)
      unfold lsF
      omega)
    refine ⟨fun w0 => ⟨fun w1 => ⟨cl.1.1, s_lostInAll kn cl n0 hh (fun S1 m1 cl1 => ⟨_, rfl, ?_⟩)⟩, fun w1 => ⟨cl.1.1, s_lostInAll kn cl n0 hh (fun S1 m1 cl1 => ⟨_, rfl, ?_⟩)⟩⟩, fun w0 => ?_⟩
    · obtain ⟨mi, md1, re1⟩ := cls_run hD kn cl md re m1
      rw [w32_id (by omega) (by omega)]
      refine ⟨_, rfl, mi, m_genus (md1.mc n0) md1.2.2.2.1 gb (fun z => absurd z n0) (fun _ q => by omega) (fun _ q => by omega) (fun _ q S2 f o mc al => ?_)⟩
      rw [if_neg w1, tot S2 f (Or.inr trivial) al]
      exact ⟨rfl, rel_op hD kn cl1 md1 re1 n0 o mc⟩
    · obtain ⟨mi, md1, re1⟩ := cls_run hD kn cl md re m1
      refine ⟨_, rfl, mi, m_genus (md1.mc n0) md1.2.2.2.1 gb (fun z => absurd z n0) (fun _ q => by omega) (fun _ q => by omega) (fun _ q S2 f o mc al => ?_)⟩
      rw [if_pos (Classical.not_not.mp w1), tot S2 f (Or.inr trivial) al]
      exact ⟨rfl, rel_op hD kn cl1 md1 re1 n0 o mc⟩
    · exact ⟨_, rfl, id0.1, m_genus (md.mc n0) md.2.2.2.1 gb (fun z => absurd z n0) (fun _ q => by omega) (fun _ q => ⟨rfl, id0⟩) (fun _ q => by omega)⟩
  · apply w_Model_genus_0
    exact ⟨md.1.1, fun z => absurd (md.2.2.1.trans (Classical.not_not.mp n0)) z, fun _ => ⟨rfl, id0⟩⟩
