/-! Elements worked out: times. -/
theorem lw_congr {p c T : Int} : ∀ (m : Nat) {W V : Int → Int → Int}, (∀ j, 0 ≤ j → j < 4 → W j = V j) → lwM p c T m W = lwM p c T m V ∧ ∀ j, 0 ≤ j → j < 4 → lwF p c T m W j = lwF p c T m V j
  | 0, _, _, h => ⟨rfl, h⟩
  | m + 1, W, V, h => by
    have r : rootAll p c T W ↔ rootAll p c T V := by
      unfold rootAll
      rw [h 0 (by omega) (by omega), h 1 (by omega) (by omega), h 2 (by omega) (by omega), h 3 (by omega) (by omega)]
    by_cases q : rootAll p c T W
    · rw [(lwM_yes q).1, (lwM_yes (r.mp q)).1, (lwM_yes q).2, (lwM_yes (r.mp q)).2]
      refine lw_congr m (fun j j0 j1 => ?_)
      unfold dvR
      rw [h j j0 j1]
    · rw [(lwM_no q).1, (lwM_no (fun w => q (r.mpr w))).1, (lwM_no q).2, (lwM_no (fun w => q (r.mpr w))).2]
      exact ⟨rfl, h⟩
theorem stP_congr {D p s m c : Int} {W V : Int → Int → Int} {S : Hp} {Q : Vl → Hp → Prop} (h : ∀ j, 0 ≤ j → j < 4 → ∀ i, W j i = V j i) (st : stP D p s m c W S Q) : stP D p s m c V S Q := by
  have e := lw_congr (p := p) (c := c) (T := 99) m.toNat (W := W) (V := V) (fun j j0 j1 => funext (h j j0 j1))
  have f : (((lwM p c 99 m.toNat V : Int) ≤ 20 ∧ ∀ j, 0 ≤ j → j < 4 → ∀ i, 30 < i → lwF p c 99 m.toNat V j i = 0)) ↔ ((lwM p c 99 m.toNat W : Int) ≤ 20 ∧ ∀ j, 0 ≤ j → j < 4 → ∀ i, 30 < i → lwF p c 99 m.toNat W j i = 0) := by
    rw [e.1]
    refine and_congr Iff.rfl ⟨fun g j j0 j1 i hi => ?_, fun g j j0 j1 i hi => ?_⟩
    · rw [e.2 j j0 j1]
      exact g j j0 j1 i hi
    · rw [← e.2 j j0 j1]
      exact g j j0 j1 i hi
  unfold stP at st ⊢
  refine ⟨fun g S' r => ?_, fun g S' r => st.2 (fun w => g (f.mpr w)) S' r⟩
  rw [← e.1]
  refine st.1 (f.mp g) S' ?_
  obtain ⟨r1, r2, r3, r4, r5, r6, r7, r8, r9⟩ := r
  exact ⟨r1, r2, r3, r4, r5, by rw [e.1]; exact r6, by rw [e.1]; exact r7, fun j i j0 j1 i0 i1 => by rw [e.2 j j0 j1]; exact r8 j i j0 j1 i0 i1, r9⟩
/-- the curve's numbers as the reference reads them -/
theorem cf_all {p n : Int} {F : Int → Int} (hp : 0 < p) (bF : ∀ e, 0 ≤ F e ∧ F e < p) (hn : n ≤ 7) : (∀ k, 0 ≤ k → k < 7 * n → F k = cfF F n (k / 7) (k % 7)) ∧ (∀ j e, 0 ≤ cfF F n j e ∧ cfF F n j e < p) ∧ (∀ j e, (e < 0 ∨ 6 < e) → cfF F n j e = 0) ∧ ∀ j e, n ≤ j → cfF F n j e = 0 := by
  refine ⟨fun k k0 k1 => ?_, fun j e => ?_, fun j e he => if_neg (by omega), fun j e hj => if_neg (by omega)⟩
  · unfold cfF
    rw [if_pos (by omega), show 7 * (k / 7) + k % 7 = k by omega]
  · unfold cfF
    split
    · exact bF _
    · omega
theorem r_times {d : Nat} {S : Hp} {D a b t : Int} (hD : 485 ≤ D) (R : Rel S D) : TW (d + 20) 122 258 [(0, a), (0, b), (0, t)] S D := by
  obtain ⟨v, u, p, n, g, F, Δ, kn, cl, md, re⟩ := R
  have id0 := rel_id kn cl md re
  have sh := re.2.1
  have h2 := kn.1.two
  have n4 := kn.n4
  obtain ⟨W, hW⟩ := sh_all sh
  have hE : ∀ s, 0 ≤ s → s < 6 → zG S (D + 3) s ≠ 0 → zG S (D + 3) s ≠ 2 → n ≠ 0 → elW S D s n p (W s) ∧ (0 ≤ zG S (D + 5) s ∧ zG S (D + 5) s ≤ 20) ∧ 0 ≤ zG S (D + 6) s ∧ zG S (D + 6) s < p := fun s s0 s1 e0 e2 _ => by
    have := sh_h3 sh s0 s1
    have w := hW s s0 s1 (by omega)
    exact ⟨w.2.1, w.2.2.1, w.2.2.2.1⟩
  have bF : n ≠ 0 → ∀ e, 0 ≤ F e ∧ F e < p := fun n0 => (md.mc n0).2.2.2.2.2.2.2.1
  have rF : n ≠ 0 → ∀ e, 0 ≤ e → e < 49 → zG S (D + 1) e = F e := fun n0 => (md.mc n0).2.2.2.2.2.2.1
  -- the numbers of the curve, also where there is none
  have cf : ∃ C : Int → Int → Int, (∀ k, 0 ≤ k → k < 7 * n → zG S (D + 1) k = C (k / 7) (k % 7)) ∧ (∀ j e, 0 ≤ C j e ∧ C j e < p) ∧ (∀ j e, (e < 0 ∨ 6 < e) → C j e = 0) ∧ (∀ j e, n ≤ j → C j e = 0) ∧ (n ≠ 0 → C = cfF F n) := by
    by_cases n0 : n = 0
    · exact ⟨fun _ _ => 0, fun k k0 k1 => by omega, fun _ _ => ⟨Int.le_refl 0, by show (0 : Int) < p; omega⟩, fun _ _ _ => rfl, fun _ _ _ => rfl, fun w => absurd n0 w⟩
    · obtain ⟨c1, c2, c3, c4⟩ := cf_all (n := n) (p := p) (by omega) (bF n0) (by omega)
      exact ⟨cfF F n, fun k k0 k1 => by rw [rF n0 k k0 (by omega)]; exact c1 k k0 k1, c2, c3, c4, fun _ => rfl⟩
  obtain ⟨C, C1, C2, C3, C4, C5⟩ := cf
  unfold TW
  apply w_Crc_times_0
  refine ⟨cl.1.1, s_pairRefusal cl sh ⟨_, rfl, fun z => ?_, fun z => ?_⟩⟩
  · obtain ⟨n0, ⟨ha, hb, ht⟩, z0, z2⟩ := rfT_ok z
    have hn := CLS.n4 kn n0
    have a3 := sh_h3 sh ha.1 ha.2
    have b3 := sh_h3 sh hb.1 hb.2
    have la := hW a ha.1 ha.2 (by omega)
    have lb := hW b hb.1 hb.2 (by omega)
    have aw := cl.sw ha.1 ha.2
    have bw := cl.sw hb.1 hb.2
    have q7 : QW S 70 128 := cl.2.1.2.2.2.2.1
    have q8 : QW S 80 128 := cl.2.1.2.2.2.2.2.1
    have vw := cl.vw
    have vu := cl.1.2.2.2.2.1
    have ea := la.2.2
    have eb := lb.2.2
    have eC := C5 n0
    subst eC
    rw [cl.1.a6, cl.1.p6 a ha.1 ha.2, cl.1.p6 b hb.1 hb.2, aw.2.1, bw.2.1]
    refine ⟨cl.1.1, ⟨cl.1.k68.1, ha.1, by rw [cl.1.k68.2]; exact ha.2⟩, aw.1, ?_⟩
    rintro _ rfl
    refine ⟨cl.1.1, ⟨cl.1.k68.1, hb.1, by rw [cl.1.k68.2]; exact hb.2⟩, bw.1, ?_⟩
    rintro _ rfl
    rw [cl.1.a11, cl.1.a1, cl.c0, cl.c1, vw.2.2.1]
    refine ⟨cl.1.1, cl.1.1, vw.1, cl.1.1, vw.1, cl.1.1, vw.1, cl.mw.1, s_use cl.mw (fun S1 m1 mw1 mu1 => ⟨rfl, ?_⟩)⟩
    have cp1 : CP S1 v u := cl.1.keep m1 (by omega) (by omega) (by omega) (by omega)
    have la1 := la.1.keep m1 (fun x x0 x1 => by omega)
    have lb1 := lb.1.keep m1 (fun x x0 x1 => by omega)
    rw [cp1.a11, la1.2.1]
    refine ⟨cp1.1, la1.1, mw1.1, s_tabulate (D := 30) mw1 mu1 hn h2 (by omega) ((cl.cf n0).keep m1 (fun x x0 x1 => by omega) (by omega)) la1.2.2.2.2 (by omega) (by omega) (fun j j0 j1 i hi => la.2.1.2.2.1 j i (by omega)) (fun S2 m2 mw2 tb => ⟨rfl, ?_⟩)⟩
    have nMM : ∀ x, x ≤ 90 ∨ 140 < x → ¬ MM 90 x := fun x hx => by
      unfold MM
      omega
    have cp2 : CP S2 v u := cp1.keep m2 (nMM _ (by omega)) (nMM _ (by omega)) (nMM _ (by omega)) (nMM _ (by omega))
    have la2 := la1.keep m2 (fun x x0 x1 => nMM x (by omega))
    have lb2 := lb1.keep m2 (fun x x0 x1 => nMM x (by omega))
    have q72 : QW S2 70 128 := (q7.keep m1 (fun x x0 x1 => by omega)).keep m2 (fun x x0 x1 => nMM x (by omega))
    have q82 : QW S2 80 128 := (q8.keep m1 (fun x x0 x1 => by omega)).keep m2 (fun x x0 x1 => nMM x (by omega))
    rw [cp2.a11, cp2.a9, lb2.2.1, q72.2.1]
    have tt := tbl_top (p := p) (n := n) (D := 30) (C := cfF F n) (Z := W a) (fun j j0 j1 i hi => cfF_hi j i hi) (fun j j0 j1 i hi => la.2.1.2.2.1 j i (by omega))
    refine ⟨cp2.1, lb2.1, cp2.1, q72.1, mw2.1, s_millMul (DW := 30) (DT := 48) mw2 (mu1.keep m2 (nMM _ (by omega))) hn h2 lb2.2.2.2.2 q72.2.2 tb (by omega) (by omega) (by omega) (fun j j0 j1 i hi => lb.2.1.2.2.1 j i (by omega)) (fun l j l0 l1 j0 j1 i hi => tt l.toNat j j0 j1 i (by omega)) (by omega) (fun S3 m3 lan => ⟨rfl, ?_⟩)⟩
    have nMA : ∀ x, x ≤ 71 ∨ 80 ≤ x → ¬ MA (70 + 1) 4 x := fun x hx => by
      unfold MA
      omega
    have cp3 : CP S3 v u := cp2.keep m3 (nMA _ (by omega)) (nMA _ (by omega)) (nMA _ (by omega)) (nMA _ (by omega))
    have la3 := la2.keep m3 (fun x x0 x1 => nMA x (by omega))
    have lb3 := lb2.keep m3 (fun x x0 x1 => nMA x (by omega))
    have k3 : zK S3 70 = 8 ∧ zG S3 70 0 = 70 + 1 := by
      rw [m3.K, m3.G (nMA _ (by omega))]
      exact ⟨q72.1, q72.2.1⟩
    rw [la3.2.2.1, la3.2.2.2.1, lb3.2.2.2.1, cp3.a9]
    refine ⟨cp3.1, la3.1, fun _ => lb3.1, fun _ => la3.1, ?_⟩
    intro x8 h8
    have hx8 : 0 ≤ x8 ∧ x8 < p := by
      rw [h8]
      split <;> omega
    refine ⟨k3.1, ?_⟩
    rintro _ rfl
    have M4 := Md.zS S3 70 2 x8
    have cp4 : CP (zS S3 70 2 x8) v u := cp3.keep M4 (by omega) (by omega) (by omega) (by omega)
    have la4 := la3.keep M4 (fun x x0 x1 => by omega)
    have lb4 := lb3.keep M4 (fun x x0 x1 => by omega)
    rw [la4.2.2.1, lb4.2.2.1, cp4.a9, w32_id (by omega) (by omega)]
    refine ⟨cp4.1, la4.1, lb4.1, by rw [M4.K]; exact k3.1, ?_⟩
    rintro _ rfl
    have M5 := Md.zS (zS S3 70 2 x8) 70 1 (zG S (D + 5) a + zG S (D + 5) b)
    have f0 : zG (zS (zS S3 70 2 x8) 70 1 (zG S (D + 5) a + zG S (D + 5) b)) 70 0 = 70 + 1 := by rw [zG_zS_ne _ (Or.inr (by omega)), zG_zS_ne _ (Or.inr (by omega))]; exact k3.2
    have f1 : zG (zS (zS S3 70 2 x8) 70 1 (zG S (D + 5) a + zG S (D + 5) b)) 70 1 = zG S (D + 5) a + zG S (D + 5) b := zG_zS_at _ _ _ _
    have f2 : zG (zS (zS S3 70 2 x8) 70 1 (zG S (D + 5) a + zG S (D + 5) b)) 70 2 = x8 := by rw [zG_zS_ne _ (Or.inr (by omega)), zG_zS_at]
    generalize zS (zS S3 70 2 x8) 70 1 (zG S (D + 5) a + zG S (D + 5) b) = S5 at M5 f0 f1 f2 ⊢
    have lan5 := (lan.keep M4 (fun x x0 x1 => by omega) (by omega)).keep M5 (fun x x0 x1 => by omega) (by omega)
    have qn : QN S5 70 128 p (zG S (D + 5) a + zG S (D + 5) b) x8 (mulF p n (W b) (fun i j => tbl p n (cfF F n) (W a) i.toNat j)) := ⟨by rw [M5.K, M4.K]; exact k3.1, f0, f1, f2, lan5⟩
    have m05 : Md (fun x => 70 ≤ x ∧ x ≤ 140) S S5 := (m1.wide (fun x hx => by omega)).tr ((m2.wide (fun x hx => by unfold MM at hx; omega)).tr ((m3.wide (fun x hx => by unfold MA at hx; omega)).tr ((M4.wide (fun x hx => by omega)).tr (M5.wide (fun x hx => by omega)))))
    obtain ⟨cl5, md5, re5, mi5⟩ := st_q hD kn cl md re m05 qn.w (((q82.keep m3 (fun x x0 x1 => nMA x (by omega))).keep M4 (fun x x0 x1 => by omega)).keep M5 (fun x x0 x1 => by omega)) (((mw2.keep m3 (fun x x0 x1 => nMA x (by omega))).keep M4 (fun x x0 x1 => by omega)).keep M5 (fun x x0 x1 => by omega))
    have mt : ∀ l k, 78 < k → mulF p n (W b) (fun i j => tbl p n (cfF F n) (W a) i.toNat j) l k = 0 := fun l k hk => mulF_top (u := 30) (w := 48) (fun j j0 j1 i hi => lb.2.1.2.2.1 j i (by omega)) (fun l j l0 l1 j0 j1 i hi => tt l.toNat j j0 j1 i (by omega)) l k (by omega)
    have mz : ∀ l k, (l < 0 ∨ n ≤ l) → mulF p n (W b) (fun i j => tbl p n (cfF F n) (W a) i.toNat j) l k = 0 := fun l k hl => if_neg (by omega)
    refine ⟨cl5.1.1, s_storeT hD kn cl5 md5 re5 ht n0 qn hx8 (by omega) (fun j j0 j1 i hi => mt j i (by omega)) (fun j i => mulF_bd (by omega) j i) (fun j i hi => mulF_neg hi) mz (fun x S6 m6 mi6 st => ⟨_, rfl, _, rfl, mid_tr mi5 mi6, ?_⟩)⟩
    have o6 : ∀ x i, 485 ≤ x → zG S6 x i = zG S x i := fun x i hx => (m6.G (by omega) i).trans (m05.G (by omega) i)
    have g1 : zG S6 (D + 1) = zG S (D + 1) := funext fun i => o6 _ _ (by omega)
    have g3 : zG S6 (D + 3) = zG S (D + 3) := funext fun i => o6 _ _ (by omega)
    have g5 : zG S6 (D + 5) = zG S (D + 5) := funext fun i => o6 _ _ (by omega)
    have g6 : zG S6 (D + 6) = zG S (D + 6) := funext fun i => o6 _ _ (by omega)
    refine m_times (W := W) (C := cfF F n) (md5.1.md m6 (by omega)) ((o6 _ _ (by omega)).trans md.2.1) h2 ((o6 _ _ (by omega)).trans md.2.2.1) kn.2.1 (by rw [g1]; exact C1) C2 C3 C4 (fun s s0 s1 e0 e2 e => ?_) (fun w => ?_) (fun _ => ?_)
    · rw [g3] at e0 e2
      rw [g5, g6]
      obtain ⟨f1, f2, f3⟩ := hE s s0 s1 e0 e2 e
      exact ⟨(f1.keep m05 (by omega)).keep m6 (by omega), f2, f3⟩
    · rw [g3, g5, g6] at w
      exact absurd z w
    · rw [g5, g6, ← h8]
      refine stP_congr (fun l l0 l4 x => ?_) st
      have pz : ∀ b' x, 6 < b' → prT p n (W a) (W b) b' x = 0 := fun b' x hb' => by
        unfold prT
        rw [sm_zeros (fun j j0 j1 => if_neg (by omega))]
        exact Int.zero_emod p
      by_cases q : l < n
      · by_cases x0 : 0 ≤ x
        · exact times_eq (by omega) hn la.2.1.2.1 lb.2.1.2.1 l l0 q x x0
        · rw [mulF_neg (by omega)]
          refine (lwN_neg (fun b' y hy => ?_) _ l x (by omega)).symm
          unfold prT
          rw [sm_zeros (fun j j0 j1 => ?_)]
          · exact Int.zero_emod p
          · split
            · exact cnv_neg (by omega)
            · rfl
      · rw [mz l x (by omega)]
        exact (lwN_zero pz _ l x (by omega)).symm
  · exact ⟨_, rfl, id0.1, m_times md.1 md.2.1 h2 md.2.2.1 kn.2.1 C1 C2 C3 C4 hE (fun _ => ⟨rfl, id0⟩) (fun w => absurd w z)⟩
