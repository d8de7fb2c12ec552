/-! Calls about rings: table, branches, conductor. -/
/-- the class's work on a ring's products and branches leaves the rest -/
theorem cls_wk {M : Int → Prop} {S S' : Hp} {v u p n g : Int} {F Δ : Int → Int} (kn : KNO p n g F Δ) (cl : CLS S v u p n g F Δ) (m : Md M S S') (hM : ∀ x, ((1 ≤ x ∧ x ≤ 89) ∨ (141 ≤ x ∧ x ≤ 238) ∨ (301 ≤ x ∧ x ≤ 484)) → ¬ M x) (gw : GW S' 239 90) (mw : MW S' 90) (hw : HW S' 240) (al : ALB S' 239) : CLS S' v u p n g F Δ := by
  obtain ⟨cp, co, cu, pl, -⟩ := cl
  have vu := cp.2.2.2.2.1
  exact ⟨cp.keep m (hM _ (by omega)) (hM _ (by omega)) (hM _ (by omega)) (hM _ (by omega)), co.keep m (co.2.2.2.2.1.keep m (fun x x0 x1 => hM x (by omega))) (co.2.2.2.2.2.1.keep m (fun x x0 x1 => hM x (by omega))) mw (co.2.2.2.2.2.2.2.1.keep m (fun x x0 x1 => hM x (by omega))) gw hw (fun x hx => hM x (by omega)), cu.keep m (fun x x0 x1 => hM x (by omega)), pl.keep kn.n4 m (fun x x0 x1 => hM x (by omega)), al⟩
theorem CLS.mw {S : Hp} {v u p n g : Int} {F Δ : Int → Int} (cl : CLS S v u p n g F Δ) : MW S 90 := cl.2.1.2.2.2.2.2.2.1
theorem CLS.hw {S : Hp} {v u p n g : Int} {F Δ : Int → Int} (cl : CLS S v u p n g F Δ) : HW S (239 + 1) := cl.2.1.2.2.2.2.2.2.2.2.2.1
theorem CLS.al {S : Hp} {v u p n g : Int} {F Δ : Int → Int} (cl : CLS S v u p n g F Δ) : ALB S 239 := cl.2.2.2.2
theorem CLS.cf {S : Hp} {v u p n g : Int} {F Δ : Int → Int} (cl : CLS S v u p n g F Δ) (n0 : n ≠ 0) : LAN S (v + 2) 4 (fun _ => 7) p (cfF F n) := (cl.2.2.1.2.2 n0).2.2.1
theorem spd_60 {p n a va c vc u : Int} {C : Int → Int → Int} {fig : Int → Int → Int → Int} (hn : n ≤ 4) (hC : ∀ j, 0 ≤ j → j < n → ∀ i, 6 < i → C j i = 0) : ∀ i x, 60 < x → spdF p n C fig a va c vc u i x = 0 := fun i x hx => by
  unfold spdF sprd
  split
  · have hT : ∀ l j, 0 ≤ l → l < n → 0 ≤ j → j < n → ∀ i, va + 18 < i → tbl p n C (unfF fig a va) l.toNat j i = 0 := fun l j l0 l1 j0 j1 i hi => tbl_top (D := va) hC (fun j j0 j1 i hi => unfF_top _ _ hi) l.toNat j j0 j1 i (by omega)
    exact mulF_top (u := vc) (w := va + 18) (fun j j0 j1 i hi => unfF_top _ _ hi) hT _ _ (by omega)
  · rfl
/-- the curve moved to c, where the class's grower has it -/
theorem s_enterC {d : Nat} {S : Hp} {v u p n g c : Int} {F Δ : Int → Int} {Q : Vl → Hp → Prop} (kn : KNO p n g F Δ) (cl : CLS S v u p n g F Δ) (n0 : n ≠ 0) (hc : 0 ≤ c ∧ c < p) (H : ∀ S', Md (fun x => x = 239 ∨ x = 240 ∨ MA (239 + 34) 4 x) S S' → CLS S' v u p n g F Δ → Gu S' 239 n p → Hu S' (239 + 1) n p → LAN S' (239 + 34) 4 (fun _ => 7) p (cfF (mvC p c F) n) → Q (3, 0) S') : Ev (d + 1) 28 [(2, 239), (2, v), (0, c)] S Q := by
  have vu := cl.1.2.2.2.2.1
  refine s_genter cl.gw cl.hw cl.vw kn.1.two hc cl.c0 cl.c1 (cl.cf n0) (by omega) (fun S' m g1 u1 h1 hu1 l1 => ?_)
  rw [mvC_all (by have := kn.1.two; omega)] at l1
  have m' : Md (fun x => x = 239 ∨ x = 240 ∨ MA (239 + 34) 4 x) S S' := m
  have nM : ∀ x, (x < 239 ∨ (240 < x ∧ x < 273) ∨ 282 < x) → ¬ (x = 239 ∨ x = 240 ∨ MA (239 + 34) 4 x) := fun x hx => by
    unfold MA
    omega
  exact H S' m' (cls_wk kn cl m' (fun x hx => nM x (by omega)) g1 (cl.mw.keep m' (fun x x0 x1 => nM x (by omega))) h1 (cl.al.keep m' (fun x hx => nM x (by omega)))) u1 hu1 l1
theorem cfF_hi {F : Int → Int} {n : Int} : ∀ j i, 6 < i → cfF F n j i = 0 := fun j i hi => if_neg (by omega)
theorem r_table {d : Nat} {S : Hp} {D c k a l m : Int} (ha : a < 2147483648) (hD : 485 ≤ D) (R : Rel S D) : TW (d + 20) 114 242 [(0, c), (0, k), (0, a), (0, l), (0, m)] S D := by
  obtain ⟨v, u, p, n, g, F, Δ, kn, cl, md, re⟩ := R
  have id0 := rel_id kn cl md re
  unfold TW
  apply w_Crc_table_0
  rw [cl.1.a1, cl.c1]
  refine ⟨cl.1.1, cl.vw.1, fun n0 => ⟨cl.1.1, s_isRing kn cl n0 (fun hb => ⟨_, rfl, fun _ => ?_, fun z => absurd (Or.inl rfl) z⟩) (fun hc k0 S1 Lc fK dK mm cl1 L0 pch clo rk => ⟨_, rfl, fun z => ?_, fun z => ?_⟩)⟩, fun n0 => ⟨_, rfl, id0.1, ?_⟩⟩
  · refine ⟨_, rfl, id0.1, m_table (md.mc n0) (fun z => absurd z n0) (fun _ _ => ⟨rfl, id0⟩) (fun _ hc S2 L fK dK o mc r => ?_)⟩
    rw [if_neg (by omega)]
    exact ⟨rfl, rel_op hD kn cl md re n0 o mc⟩
  · obtain ⟨mi, md1, re1⟩ := cls_run hD kn cl md re mm
    refine ⟨_, rfl, mi, m_table (md1.mc n0) (fun z => absurd z n0) (fun _ w => absurd hc w) (fun _ _ S2 L fK' dK' o mc r => ?_)⟩
    have e := (ring_eq kn n0 L0 pch clo r).1
    rw [if_neg (fun q => by
      rcases z with z | z
      · have := i0 z
        omega
      · omega)]
    exact ⟨rfl, rel_op hD kn cl1 md1 re1 n0 o mc⟩
  · have k1 : k ≤ Lc := i1 (fun q => z (Or.inl q))
    have a0 : 0 ≤ a := by omega
    obtain ⟨mi, md1, re1⟩ := cls_run hD kn cl md re mm
    have c7 := kn.p7 hc.2
    have hn := CLS.n4 kn n0
    have no : ¬ ((0 ≤ a ∧ a < 4 * n ∧ a % 4 < n) ∧ (0 ≤ l ∧ l < n) ∧ 0 ≤ m ∧ m ≤ 60) → Ev (d + 20) 242 [(2, D), (0, c), (0, k), (0, a), (0, l), (0, m)] S1 (fun r' S2 => r' = (0, -1) ∧ MID S1 S2 D ∧ Rel S2 D) := fun w => by
      refine m_table (md1.mc n0) (fun z => absurd z n0) (fun _ w => absurd hc w) (fun _ _ S2 L fK' dK' o mc r => ?_)
      rw [if_neg (fun q => w q.2)]
      exact ⟨rfl, rel_op hD kn cl1 md1 re1 n0 o mc⟩
    have t4 : a.tdiv 4 = a / 4 := Int.tdiv_eq_ediv_of_nonneg a0
    have t5 : a.tmod 4 = a % 4 := Int.tmod_eq_emod_of_nonneg a0
    rw [t4, t5, w32_id (x := a / 4) (by omega) (by omega)]
    refine ⟨cl1.1.1, s_isPow cl1 ⟨_, rfl, fun z2 => ⟨_, rfl, mi, no (fun w => ?_)⟩, fun z2 => ⟨by decide, cl1.1.1, s_isPow cl1 ⟨_, rfl, fun z3 => ⟨_, rfl, mi, no (fun w => ?_)⟩, fun z3 => ⟨by decide, cl1.1.1, s_isPow cl1 ⟨_, rfl, fun z4 => ?_, fun z4 => ⟨_, rfl, mi, no (fun w => ?_)⟩⟩⟩⟩⟩⟩⟩
    · rcases z2 with z2 | z2
      · exact i0 z2 w.2.1
      · omega
    · have hw := i0 z3
      omega
    · have hl : 0 ≤ l ∧ l < n := i1 (fun w => z2 (Or.inl w))
      have h3 := i1 z3
      have h4 := i1 z4
      have pw1 := cl1.pw hc.1 c7
      have rd := (rk.2.1 k k0 k1).1
      rw [cl1.1.a13, cl1.1.a1]
      refine ⟨cl1.1.1, cl1.1.1, cl1.gw.1, s_enterC kn cl1 n0 hc (fun S3 m3 cl3 gu3 hu3 l3 => ⟨rfl, ?_⟩)⟩
      have o3 : ∀ x, (x < 239 ∨ 300 < x) → ¬ (x = 239 ∨ x = 240 ∨ MA (239 + 34) 4 x) := fun x hx => by
        unfold MA
        omega
      have rd3 := rd.keep kn.n4 m3 (o3 _ (by omega)) (o3 _ (by omega))
      rw [cl3.1.a5, cl3.1.a13, cl3.1.p5 c hc.1 c7]
      refine ⟨cl3.1.1, cl3.1.1, ⟨cl3.1.k67.1, hc.1, by rw [cl3.1.k67.2]; exact c7⟩, cl3.gw.1, ?_⟩
      obtain ⟨-, P, cq, -⟩ := kn.2.2.2 n0
      obtain ⟨O, I, φ, E, J, ι, y, h, A⟩ := env_ex kn.1 hn (cfF (mvC p c F) n)
      have vk := chain_rst h kn.1 hn A (by omega) pch k.toNat (by omega)
      rw [show ((k.toNat : Nat) : Int) = k by omega] at vk
      have v' := rnv_fg vk k0 (f' := figS S3 (301 + 6 * c) k) (dp' := fun l => zG S3 (301 + 6 * c + 2) (k * 4 + l)) rd3.1 rd3.2.1
      clear A h3
      refine s_multiply60 cl3.gw gu3 cl3.mw hn kn.1.two (cl3.pw hc.1 c7) (cl3.pr hc.1 c7) ⟨k0, by omega⟩ ⟨a0, by omega⟩ ⟨by omega, by omega⟩ (fun va vc _ _ i x _ _ hx => spd_60 hn.2 (fun j _ _ i hi => cfF_hi j i hi) i x hx) (by omega) (by omega) (by omega) (fun l l0 l1 => v'.2.2.2.2.2.1.1 l l0 l1) rd3.2.2.2.1 l3 (fun S4 va vc hva hvc m4 g4 a4 sh4 => ⟨rfl, ?_⟩)
      have ea := v'.isDp (show 0 ≤ a / 4 by omega) (show a / 4 < n by omega) hva
      have ec := v'.isDp h4.1 h4.2 hvc
      (try dsimp only at ea ec)
      have ok := v'.ok1 (u := 60) (a := a / 4) (c := a % 4) (by omega) (by omega) (by omega) h4.1 h4.2
      rw [ea, ec] at sh4
      have sh := sh4 ok.1
      have oP : ∀ x, (x < 90 ∨ (140 < x ∧ x < 255) ∨ 300 < x) → ¬ MP 239 90 x := fun x hx => by
        unfold MP
        omega
      have cl4 : CLS S4 v u p n g F Δ := cls_wk kn cl3 m4 (fun x hx => oP x (by omega)) g4 a4 (cl3.hw.keep m4 (oP _ (by omega))) (cl3.al.keep m4 (fun x hx => oP x (by omega)))
      have m14 : Md RGm S S4 := (mm.tr (m3.wide (fun x hx => by unfold MA at hx; unfold RGm; omega))).tr (m4.wide (fun x hx => by unfold MP at hx; unfold RGm; omega))
      obtain ⟨mi4, md4, re4⟩ := cls_run hD kn cl md re m14
      rw [cl4.1.a13, g4.2.2.1, sh.ptr hl.1 (by omega)]
      refine ⟨cl4.1.1, g4.1, ⟨sh.1, hl.1, by rw [sh.2.1]; omega⟩, (sh.at hl.1 (by omega)).ln.1, n_number (sh.at hl.1 (by omega)) ⟨_, rfl, ?_⟩⟩
      refine ⟨_, rfl, mi4, m_table (md4.mc n0) (fun z => absurd z n0) (fun _ w => absurd hc w) (fun _ _ S2 L fK' dK' o mc r => ?_)⟩
      have e := ring_eq kn n0 L0 pch clo r
      have t1 := (e.2 k k0 k1).2 m (a / 4) (a % 4) l (by omega) (by omega) (by omega) h4.1 h4.2 hl.1 hl.2
      have t2 := tb1_fg vk v' rd3.1 (q := m) (i := a / 4) (j := a % 4) (l := l) (by omega) (by omega) (by omega) h4.1 h4.2 hl.1 hl.2
      rw [tb1_at ⟨by omega, by omega⟩ ⟨by omega, by omega⟩ ⟨by omega, by omega⟩, tb1_at ⟨by omega, by omega⟩ ⟨by omega, by omega⟩ ⟨by omega, by omega⟩] at t1 t2
      rw [e.1, if_pos ⟨⟨k0, k1⟩, ⟨a0, by omega, h4.2⟩, hl, by omega, by omega⟩, t1, ok.2 l m (by omega), t2]
      exact ⟨rfl, rel_op hD kn cl4 md4 re4 n0 o mc⟩
    · have h4 := i2 z4
      omega
  · apply w_Model_table_0
    exact ⟨md.1.1, m0_wr md.1.1 (md.2.2.1.trans (Classical.not_not.mp n0)) ⟨_, rfl, fun z => absurd z (by decide), fun _ => ⟨rfl, id0⟩⟩⟩
/-- the class of a line, of a ring that is told alike -/
theorem lnC_fg {O E : Type} [I : Lean.Grind.CommRing O] [J : Lean.Grind.CommRing E] {p n k : Int} {C : Int → Int → Int} {φ : (Int → Int) → O} {ι : O → E} {y : E} {fig : Int → Int → Int → Int} {dp : Int → Int} (v : RNV p n C φ ι y k fig dp) {f' : Int → Int → Int → Int} {dp' : Int → Int} (v' : RNV p n C φ ι y k f' dp') (hf : fgR n fig f') {e : Int} (e0 : 0 ≤ e) (e1 : e < p) : lnC p n f' dp' e = lnC p n fig dp e := by
  have n4 := v.2.2.1
  have p2 := v.2.1.two.1
  have can : CAN p (lnE p e) := ⟨fun i x => lnE_bd p2 ⟨e0, e1⟩ i x, fun i x hx => lnE_z (Or.inl hx)⟩
  have A := v.2.2.2.1
  have a := (cmb_vE (p := p) A).mp (ex_1 v.1 p2 (by omega) v.2.2.2.2.2.1 v.2.2.2.2.2.2.1 can (line_ok v e0 e1))
  have b := (cmb_vE (p := p) A).mp (ex_1 v.1 p2 (by omega) v'.2.2.2.2.2.1 v'.2.2.2.2.2.2.1 can (line_ok v' e0 e1))
  rw [a] at b
  have c := v.lat.2.2.2.2.2.2.2.1 _ _ b
  rw [su_congr (f := fun l => ι (φ (shN p n dp' f' (lnE p e) l)) * vE φ ι y n.toNat (bR f' l)) (g := fun l => ι (φ (shN p n dp' f' (lnE p e) l)) * vE φ ι y n.toNat (bR fig l)) (fun l l0 l1 => by rw [vE_fg n4.2 hf l0 (by omega)])] at c
  have d := v.2.2.2.2.2.ind (s := fun l => φ (shN p n dp fig (lnE p e) l)) (w := fun l => φ (shN p n dp' f' (lnE p e) l)) v.1 p2 n4 A c
  unfold lnC
  exact cdF_congr _ _ (fun l l0 l1 => (v.1.1.eqv (d l l0 (by omega)) (fun x => (shN_can p2 can).1 l x) (fun x => (shN_can p2 can).1 l x) 0 (by omega)).symm)
theorem brF_congr {p n b : Int} {T T' : Int → Int} (hn : 2 ≤ n ∧ n ≤ 4) (hT : ∀ i j l, 0 ≤ i → i < n → 0 ≤ j → j < n → 0 ≤ l → l < n → T (16 * i + 4 * j + l) = T' (16 * i + 4 * j + l)) : brF p n T b = brF p n T' b := funext fun a => by
  unfold brF
  rw [mpC_congr hn hT, fpC_congr hn hT]
theorem r_branches {d : Nat} {S : Hp} {D c e : Int} (hD : 485 ≤ D) (R : Rel S D) : TW (d + 20) 115 244 [(0, c), (0, e)] S D := by
  obtain ⟨v, u, p, n, g, F, Δ, kn, cl, md, re⟩ := R
  have id0 := rel_id kn cl md re
  unfold TW
  apply w_Crc_branches_0
  rw [cl.1.a1, cl.c1]
  refine ⟨cl.1.1, cl.vw.1, fun n0 => ⟨cl.1.1, s_isNum cl ⟨_, rfl, fun z => ?_, fun z => ⟨cl.1.1, s_isNum cl ⟨_, rfl, fun z2 => ?_, fun z2 => ?_⟩⟩⟩⟩, fun n0 => ⟨_, rfl, id0.1, ?_⟩⟩
  · exact ⟨_, rfl, id0.1, m_branches (md.mc n0) (fun z => absurd z n0) (fun _ _ => ⟨rfl, id0⟩) (fun _ hc => absurd hc (i0 z))⟩
  · have hc := i1 z
    have he := i1 z2
    have c7 := kn.p7 hc.2
    have hn := CLS.n4 kn n0
    rw [cl.1.a5, cl.1.a13, cl.1.a1, cl.1.p5 c hc.1 c7]
    refine ⟨cl.1.1, cl.1.1, cl.1.1, ⟨cl.1.k67.1, hc.1, by rw [cl.1.k67.2]; exact c7⟩, cl.gw.1, s_ringC kn cl n0 hc (fun S1 Lc fK dK m1 cl1 L0 pch clo rk => ⟨_, rfl, ?_⟩)⟩
    rw [cl1.1.a13, cl1.1.a1]
    refine ⟨cl1.1.1, cl1.1.1, cl1.gw.1, s_enterC kn cl1 n0 hc (fun S2 m2 cl2 gu2 hu2 l2 => ⟨rfl, ?_⟩)⟩
    have o2 : ∀ x, (x < 239 ∨ 300 < x) → ¬ (x = 239 ∨ x = 240 ∨ MA (239 + 34) 4 x) := fun x hx => by
      unfold MA
      omega
    have rk2 := rk.keep kn.n4 m2 (fun x x0 x1 => o2 x (by omega))
    have rd2 := (rk2.2.1 Lc L0.1 (Int.le_refl _)).1
    obtain ⟨O, I, φ, E, J, ι, y, h, A⟩ := env_ex kn.1 hn (cfF (mvC p c F) n)
    have vk := chain_rst h kn.1 hn A (by omega) pch Lc.toNat (by omega)
    rw [show ((Lc.toNat : Nat) : Int) = Lc by omega] at vk
    have d1 := vk.2.2.2.2.2.1.1 1 (by omega) (by omega)
    have f1 : figS S2 (301 + 6 * c) Lc 1 0 (dK Lc 1) = fK Lc 1 0 (dK Lc 1) := rd2.1 1 0 _ (by omega) (by omega) (by omega) (by omega) d1.1 d1.2
    have dp1 : zG S2 (301 + 6 * c + 2) (Lc * 4 + 1) = dK Lc 1 := rd2.2.1 1 (by omega) (by omega)
    have fb := vk.2.2.2.2.2.2.2.1 1 0 (dK Lc 1) (by omega) (by omega) (by omega) (by omega) d1.1 d1.2
    clear A
    rw [cl2.1.a13, cl2.gw.2.1]
    have al := cl2.al
    refine ⟨cl2.1.1, cl2.gw.1, cl2.hw.k, s_countBranches cl2.hw hu2 hn kn.1 he (cl2.pw hc.1 c7) (cl2.pr hc.1 c7) (by omega) (by rw [rk2.1]; omega) (by rw [rk2.1, dp1, f1]; exact fb.2) rk2.2.2.2 al.2.2.2.1 al.2.2.2.2.1 al.2.2.1 al.2.2.2.2.2.1 al.2.2.2.2.2.2 (fun S3 kk pw Dm fr so m3 hpw hDm sv b7 b5 b4 b12 b13 lo => ⟨_, rfl, ?_⟩)⟩
    have o3 : ∀ x, (x < 239 ∨ x = 242 ∨ 255 ≤ x) → ¬ MBr (239 + 1) x := fun x hx => by
      unfold MBr
      omega
    have cl3 : CLS S3 v u p n g F Δ := cls_wk kn cl2 m3 (fun x hx => o3 x (by omega)) (cl2.gw.keep m3 (fun x hx => by unfold MBr; omega)) (cl2.mw.keep m3 (fun x x0 x1 => o3 x (by omega))) (cl2.hw.keep m3 (by unfold MBr; omega)) ⟨fun x x0 x1 => by
      have q := lo x x0 x1
      rw [show (239 : Int) + 1 + 1 = 239 + 2 by omega] at q
      rw [q]
      exact rk2.2.2.2 x x0 x1, fun x x0 x1 => by rw [m3.G (o3 _ (by omega))]; exact al.2.1 x x0 x1, b4, b5, b7, b12, b13⟩
    have m13 : Md RGm S S3 := (m1.tr (m2.wide (fun x hx => by unfold MA at hx; unfold RGm; omega))).tr (m3.wide (fun x hx => by unfold MBr at hx; unfold RGm; omega))
    obtain ⟨mi3, md3, re3⟩ := cls_run hD kn cl md re m13
    have hDm' : ∀ l i, 0 ≤ l → l < n → 0 ≤ i → i < n → Dm (4 * l + i) = dfV p (dK Lc 1) (fK Lc 1 0 (dK Lc 1)) e (zG S2 (301 + 6 * c + 5)) l i := fun l i l0 l1 i0 i1 => by
      have q := hDm l i l0 l1 i0 i1
      rw [rk2.1, dp1, f1] at q
      exact q
    have cs := cnt_solved (f := brF p n (tb1 p n (cfF (mvC p c F) n) (fK Lc) (dK Lc) 0) (lnC p n (fK Lc) (dK Lc) e)) kn.1 hn sv (fun a a0 a1 => by
      have b := br_ker vk he.1 he.2 rk2.2.2.1 hpw hDm' a0 a1
      unfold brF
      by_cases q : mpC p n (tb1 p n (cfF (mvC p c F) n) (fK Lc) (dK Lc) 0) (lnC p n (fK Lc) (dK Lc) e) a n.toNat = 0 ∧ fpC p n (tb1 p n (cfF (mvC p c F) n) (fK Lc) (dK Lc) 0) a = a
      · exact Or.inl ⟨if_pos q, b.mp q⟩
      · exact Or.inr ⟨if_neg q, fun w => q (b.mpr w)⟩)
    refine ⟨_, rfl, mi3, m_branches (md3.mc n0) (fun z => absurd z n0) (fun _ w => absurd hc w) (fun _ _ S4 L fK' dK' o mc r => ?_)⟩
    have eq := ring_eq kn n0 L0 pch clo r
    have L19 := r.2.2.2.1
    have eL := eq.1
    rw [eL] at r ⊢
    have e2 := eq.2 Lc L0.1 (Int.le_refl _)
    have e3 : lnC p n (fK' Lc) (dK' Lc) e = lnC p n (fK Lc) (dK Lc) e := by
      obtain ⟨O, I, φ, E, J, ι, y, h, A⟩ := env_ex kn.1 hn (cfF (mvC p c F) n)
      have v1 := chain_rst h kn.1 hn A (by omega) pch Lc.toNat (by omega)
      have v2 := chain_rst h kn.1 hn A (by omega) r.2.2.2.2.1 Lc.toNat (by omega)
      rw [show ((Lc.toNat : Nat) : Int) = Lc by omega] at v1 v2
      exact lnC_fg v1 v2 e2.1.1 he.1 he.2
    rw [if_pos he, e3, brF_congr hn (fun i j l i0 i1 j0 j1 l0 l1 => e2.2 0 i j l (by omega) i0 i1 j0 j1 l0 l1), cs.1]
    exact ⟨rfl, rel_op hD kn cl3 md3 re3 n0 o mc⟩
  · refine ⟨_, rfl, id0.1, m_branches (md.mc n0) (fun z => absurd z n0) (fun _ _ => ⟨rfl, id0⟩) (fun _ hc S2 L fK dK o mc r => ?_)⟩
    rw [if_neg (i2 z2)]
    exact ⟨rfl, rel_op hD kn cl md re n0 o mc⟩
  · apply w_Model_branches_0
    exact ⟨md.1.1, m0_wr md.1.1 (md.2.2.1.trans (Classical.not_not.mp n0)) ⟨_, rfl, fun z => absurd z (by decide), fun _ => ⟨rfl, id0⟩⟩⟩
