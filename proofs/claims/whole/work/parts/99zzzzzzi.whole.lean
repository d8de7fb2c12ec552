/-! whole, equation. -/
theorem elW.uniq {S : Hp} {D s n p : Int} {W V : Int → Int → Int} (hn : n ≤ 4) (a : elW S D s n p W) (b : elW S D s n p V) : W = V := funext fun j => funext fun i => by
  by_cases q : 0 ≤ j ∧ j < 4
  · by_cases r : 0 ≤ i ∧ i < 31
    · rw [← a.1 j i q.1 q.2 r.1 r.2, b.1 j i q.1 q.2 r.1 r.2]
    · rw [a.2.2.1 j i (by omega), b.2.2.1 j i (by omega)]
  · rw [a.2.2.2 j i (by omega), b.2.2.2 j i (by omega)]
theorem cls_mx {S S' : Hp} {v u p n g : Int} {F Δ : Int → Int} (kn : KNO p n g F Δ) (cl : CLS S v u p n g F Δ) (m : Md (fun x => x = 1 ∨ (90 ≤ x ∧ x ≤ 238)) S S') (h1 : ∀ i, i ≠ 4 → i ≠ 8 → i ≠ 14 → i ≠ 15 → zG S' 1 i = zG S 1 i) (mw : MW S' 90) (xw : XW S' 141) : CLS S' v u p n g F Δ := by
  obtain ⟨cp, co, cu, pl, al⟩ := cl
  have vu := cp.2.2.2.2.1
  exact ⟨cp.same m h1 (by omega) (by omega) (by omega), co.keep m (co.2.2.2.2.1.keep m (fun x x0 x1 => by omega)) (co.2.2.2.2.2.1.keep m (fun x x0 x1 => by omega)) mw xw (co.2.2.2.2.2.2.2.2.1.keep m (fun x hx => by omega)) (co.2.2.2.2.2.2.2.2.2.1.keep m (by omega)) (fun x hx => by omega), cu.keep m (fun x x0 x1 => by omega), pl.keep kn.n4 m (fun x x0 x1 => by omega), al.keep m (fun x hx => by omega)⟩
theorem n_top {n : Int} (hn : 2 ≤ n ∧ n ≤ 4) : p2 n - 1 < p2 n ∧ 0 ≤ p2 n - 1 ∧ pcS (p2 n - 1) = n ∧ hiM n ≤ 172 ∧ 0 ≤ zSt (p2 n - 1) := by
  rcases (show n = 2 ∨ n = 3 ∨ n = 4 by omega) with rfl | rfl | rfl <;> decide
theorem s_isWhole {d : Nat} {S : Hp} {D v u p n g s : Int} {F Δ : Int → Int} {W : Int → Int → Int} {Q : Vl → Hp → Prop} (hD : 485 ≤ D) (kn : KNO p n g F Δ) (cl : CLS S v u p n g F Δ) (md : MDL S D p n g F Δ) (re : RES S D p n F) (hs : 0 ≤ s ∧ s < 6) (n0 : n ≠ 0) (h1 : zG S (D + 3) s = 1) (el : ELE S D p n s W) (H : ∀ S', Md (fun x => x = 1 ∨ (90 ≤ x ∧ x ≤ 238)) S S' → CLS S' v u p n g F Δ → MDL S' D p n g F Δ → RES S' D p n F → TO1 S' D p n F s → Q (0, zG S' 1 15) S') : Ev (d + 3) 155 [(2, 1), (0, s)] S Q := by
  have h2 := kn.1.two
  have hn := CLS.n4 kn n0
  have nt := n_top hn
  have vw := cl.vw
  have vu := cl.1.2.2.2.2.1
  apply w_Crc_isWhole_0
  refine ⟨cl.1.1, fun q => ?_, fun q => ?_⟩
  · have t1 : TO1 S D p n F s := by
      rcases re.2.2.2.2 with w | ⟨s', w1, w2, w3⟩
      · omega
      · have e : s' = s := by omega
        rw [e] at w3
        exact w3 h1
    refine ⟨cl.1.1, ?_, H S (Md.refl _ _) cl md re t1⟩
    obtain ⟨W', -, -, -, y⟩ := t1
    rcases y with z | z
    · exact Or.inr z.1
    · exact Or.inl z.1
  · have sw := cl.sw hs.1 hs.2
    rw [cl.1.a6, cl.1.p6 s hs.1 hs.2, sw.2.1]
    refine ⟨cl.1.1, ⟨cl.1.k68.1, hs.1, by rw [cl.1.k68.2]; exact hs.2⟩, sw.1, ?_⟩
    rintro _ rfl
    rw [cl.1.a11, cl.1.a1, cl.c0, cl.c1, vw.2.2.1]
    refine ⟨cl.1.1, cl.1.1, vw.1, cl.1.1, vw.1, cl.1.1, vw.1, cl.mw.1, s_use cl.mw (fun S1 m1 mw1 mu1 => ⟨rfl, ?_⟩)⟩
    have cp1 : CP S1 v u := cl.1.keep m1 (by omega) (by omega) (by omega) (by omega)
    have el1 := el.1.keep m1 (fun x x0 x1 => by omega)
    rw [cp1.a11, el1.2.1]
    have tt := tbl_top (p := p) (n := n) (D := 30) (C := cfF F n) (Z := W) (fun j j0 j1 i hi => cfF_hi j i hi) (fun j j0 j1 i hi => el.2.1.2.2.1 j i (by omega))
    refine ⟨cp1.1, el1.1, mw1.1, s_tabulate (D := 30) mw1 mu1 hn h2 (by omega) ((cl.cf n0).keep m1 (fun x x0 x1 => by omega) (by omega)) el1.2.2.2.2 (by omega) (by omega) (fun j j0 j1 i hi => el.2.1.2.2.1 j i (by omega)) (fun S2 m2 mw2 tb => ⟨rfl, ?_⟩)⟩
    have nMM : ∀ x, x ≤ 90 ∨ 140 < x → ¬ MM 90 x := fun x hx => by
      unfold MM
      omega
    have cp2 : CP S2 v u := cp1.keep m2 (nMM _ (by omega)) (nMM _ (by omega)) (nMM _ (by omega)) (nMM _ (by omega))
    have el2 := el1.keep m2 (fun x x0 x1 => nMM x (by omega))
    have cv2 : zK S2 v = 2 ∧ zG S2 v 0 = p ∧ zG S2 v 1 = n := by
      rw [m2.K, m1.K, m2.G (nMM _ (by omega)), m1.G (by omega), m2.G (nMM _ (by omega)), m1.G (by omega)]
      exact ⟨vw.1, cl.c0, cl.c1⟩
    have xw : XW S 141 := cl.2.1.2.2.2.2.2.2.2.1
    have xw2 : XW S2 141 := (xw.keep m1 (fun x x0 x1 => by omega)).keep m2 (fun x x0 x1 => nMM x (by omega))
    have xr : XR S2 (90 + 1) n p (tbE p n (cfF F n) W) := by
      refine ⟨mw2.2.2.2.2.1.1, mw2.2.2.2.2.1.2.1, fun i j i0 i1 j0 j1 => ⟨(mw2.2.2.2.2.1.2.2 (4 * i + j) (by omega) (by omega)).1, ?_, fun x hx => ?_⟩⟩
      · have e : tbE p n (cfF F n) W (4 * i + j) = tbl p n (cfF F n) W i.toNat j := funext fun x => by
          unfold tbE
          rw [if_pos (by omega), show (4 * i + j) / 4 = i by omega, show (4 * i + j) % 4 = j by omega]
        rw [e]
        exact tb i j i0 i1 j0 j1
      · unfold tbE
        rw [if_pos (by omega), show (4 * i + j) / 4 = i by omega, show (4 * i + j) % 4 = j by omega]
        exact tt i.toNat j j0 j1 x (by omega)
    rw [cp2.a11, cp2.a1, cp2.a12, cv2.2.1, cv2.2.2, mw2.2.1]
    refine ⟨cp2.1, cp2.1, mw2.1, cp2.1, cv2.1, cp2.1, cv2.1, xw2.1, s_workOut xw2 hn h2 xr (by omega) (fun S3 G m3 xw3 x1 x2 mn lns => ⟨rfl, ?_⟩)⟩
    have nMX : ∀ x, x < 141 ∨ 238 < x → ¬ (x = 141 ∨ MX 141 x) := fun x hx => by
      unfold MX
      omega
    have cp3 : CP S3 v u := cp2.keep m3 (nMX _ (by omega)) (nMX _ (by omega)) (nMX _ (by omega)) (nMX _ (by omega))
    have el3 := el2.keep m3 (fun x x0 x1 => nMX x (by omega))
    have e5 := el.2.2.1
    have e6 := el.2.2.2.1
    rw [el3.2.2.1, el3.2.2.2.1, cp3.a12]
    -- the equation's numbers, either way
    have gq : ∀ j, 1 ≤ j → j ≤ n → G (zSt (p2 n - 1) + (n - j)) = bkQ p (tbE p n (cfF F n) W) n.toNat j := fun j j0 j1 => funext fun x => by
      by_cases x0 : 0 ≤ x
      · exact mn_bk h2.1 hn mn j j0 j1 x x0
      · obtain ⟨t, li, -, -⟩ := (lns (p2 n - 1) nt.2.1 nt.1 (n - j) (by omega) (by omega)).1
        rw [li.2.2.2.2.2.2 x (by omega), bkQ_neg (by omega)]
    have fin : ∀ S4 x, Md (MX 141) S3 S4 → XW S4 141 → ((x = 1 ∧ (∀ j, 1 ≤ j → j ≤ n → okK p (zG S (D + 6) s) 199 (j * zG S (D + 5) s).toNat (bkQ p (tbE p n (cfF F n) W) n.toNat j)) ∧ ∀ j, 1 ≤ j → j ≤ n → LN S4 (adP 141 n (n - j)) (rmM (zSt (p2 n - 1) + (n - j))) p (dvK p (zG S (D + 6) s) 199 (j * zG S (D + 5) s).toNat (bkQ p (tbE p n (cfF F n) W) n.toNat j))) ∨ (x = 0 ∧ ¬ ∀ j, 1 ≤ j → j ≤ n → okK p (zG S (D + 6) s) 199 (j * zG S (D + 5) s).toNat (bkQ p (tbE p n (cfF F n) W) n.toNat j))) → ∃ x6, ((0, x) : Vl) = (0, x6) ∧ (zK S4 1 = 11 ∧ in01 x6) ∧ ∀ S7, S7 = zS S4 1 15 x6 → (zK S7 1 = 11) ∧ ∀ S8, S8 = zS S7 1 14 s → (zK S8 1 = 11) ∧ (in01 (zG S8 1 15)) ∧ Q (0, zG S8 1 15) S8 := fun S4 x m4 xw4 hx => by
      have nX4 : ∀ x, x < 145 ∨ 238 < x → ¬ MX 141 x := fun x hx => by
        unfold MX
        omega
      have i01 : in01 x := by
        rcases hx with w | w
        · exact Or.inr w.1
        · exact Or.inl w.1
      have k4 : zK S4 1 = 11 := by
        rw [m4.K]
        exact cp3.1
      refine ⟨x, rfl, ⟨k4, i01⟩, ?_⟩
      rintro _ rfl
      have M7 := Md.zS S4 1 15 x
      refine ⟨by rw [M7.K]; exact k4, ?_⟩
      rintro _ rfl
      have M8 := Md.zS (zS S4 1 15 x) 1 14 s
      have f15 : zG (zS (zS S4 1 15 x) 1 14 s) 1 15 = x := by rw [zG_zS_ne _ (Or.inr (by omega)), zG_zS_at]
      have f14 : zG (zS (zS S4 1 15 x) 1 14 s) 1 14 = s := zG_zS_at _ _ _ _
      have fo : ∀ i, i ≠ 14 → i ≠ 15 → zG (zS (zS S4 1 15 x) 1 14 s) 1 i = zG S4 1 i := fun i a b => by rw [zG_zS_ne _ (Or.inr a), zG_zS_ne _ (Or.inr b)]
      have m48 : Md (fun x => x = 1) S4 (zS (zS S4 1 15 x) 1 14 s) := M7.tr M8
      generalize zS (zS S4 1 15 x) 1 14 s = S8 at m48 f15 f14 fo ⊢
      have m34 : Md (fun x => 90 ≤ x ∧ x ≤ 238) S S4 := (m1.wide (fun x hx => by omega)).tr ((m2.wide (fun x hx => by unfold MM at hx; omega)).tr ((m3.wide (fun x hx => by unfold MX at hx; omega)).tr (m4.wide (fun x hx => by unfold MX at hx; omega))))
      have m08 : Md (fun x => x = 1 ∨ (90 ≤ x ∧ x ≤ 238)) S S8 := (m34.wide (fun x hx => by omega)).tr (m48.wide (fun x hx => by omega))
      have fs : ∀ i, i ≠ 14 → i ≠ 15 → zG S8 1 i = zG S 1 i := fun i a b => (fo i a b).trans (m34.G (by omega) i)
      have mw8 : MW S8 90 := ((mw2.keep m3 (fun x x0 x1 => nMX x (by omega))).keep m4 (fun x x0 x1 => nX4 x (by omega))).keep m48 (fun x x0 x1 => by omega)
      have xw8 : XW S8 141 := xw4.keep m48 (fun x x0 x1 => by omega)
      have cl8 := cls_mx kn cl m08 (fun i _ _ a b => fs i a b) mw8 xw8
      have t1 : TO1 S8 D p n F s := by
        refine ⟨W, el.2.1.keep m08 (by omega), ?_, ?_, ?_⟩
        · rw [m48.G (by omega), m4.G (nX4 _ (by omega))]
          exact x1
        · rw [m48.G (by omega), m4.G (nX4 _ (by omega))]
          exact x2
        · rw [f15, m08.G (a := D + 5) (by omega), m08.G (a := D + 6) (by omega)]
          rcases hx with w | w
          · refine Or.inl ⟨w.1, w.2.1, fun j j0 j1 => ?_⟩
            have ad : 141 ≤ adP 141 n (n - j) := by
              have := nt.2.2.2.2
              unfold adP
              omega
            exact (w.2.2 j j0 j1).keep m48 (by omega) (by omega)
          · exact Or.inr w
      obtain ⟨tp, sh, bk, im, tl⟩ := re
      have md8 := md.far m08 (fun x x0 => by omega)
      refine ⟨cl8.1.1, by rw [f15]; exact i01, H S8 m08 cl8 md8 ⟨tp.keep m08 (by omega) (by omega) (by omega) (m08.G (by omega) _), fun t t0 t1 => (sh t t0 t1).keep m08 (fun x x0 x1 => by omega) ⟨m08.G (by omega) _, m08.G (by omega) _, m08.G (by omega) _, m08.G (by omega) _, m08.G (by omega) _, fun i _ _ => m08.G (by omega) _, fun i _ _ => m08.G (by omega) _⟩, bk.keep m08 (fs _ (by omega) (by omega)) (fun x x0 x1 => by omega) (by omega) (by omega) (by omega) (m08.G (by omega) _), im.keep m08 (fs _ (by omega) (by omega)) (fun x x0 x1 => by omega) (by omega) (by omega) (fun i _ => m08.G (by omega) _), Or.inr ⟨s, f14, hs, fun _ => t1⟩⟩ t1⟩
    have hj : ∀ j, zG S (D + 5) s * j = j * zG S (D + 5) s := fun j => Int.mul_comm _ _
    refine ⟨cp3.1, el3.1, el3.1, xw3.1, s_divide (T := 199) (G := fun j => G (zSt (p2 n - 1) + (n - j))) xw3 x1 x2 hn h2 e6 e5 (by omega) (fun j j0 j1 => Or.inr (lns (p2 n - 1) nt.2.1 nt.1 (n - j) (by omega) (by omega)).1) (fun j j0 j1 x hx => (lns (p2 n - 1) nt.2.1 nt.1 (n - j) (by omega) (by omega)).2 x (by rw [nt.2.2.1]; omega)) (fun ok S4 m4 xw4 ls => fin S4 1 m4 xw4 (Or.inl ⟨rfl, fun j j0 j1 => ?_, fun j j0 j1 => ?_⟩)) (fun no S4 m4 xw4 => fin S4 0 m4 xw4 (Or.inr ⟨rfl, fun ok => no (fun j j0 j1 => ?_)⟩))⟩
    · have := ok j j0 j1
      (try dsimp only at this)
      rw [gq j j0 j1, hj] at this
      exact this
    · have := ls j j0 j1
      (try dsimp only at this)
      rw [gq j j0 j1, hj] at this
      exact this
    · have := ok j j0 j1
      (try dsimp only)
      rw [gq j j0 j1, hj]
      exact this
/-- the numbers of the curve, also where there is none -/
theorem md_cf {S : Hp} {D p n g : Int} {F Δ : Int → Int} (kn : KNO p n g F Δ) (md : MDL S D p n g F Δ) : ∃ C : Int → Int → Int, (∀ k, 0 ≤ k → k < 7 * n → zG S (D + 1) k = C (k / 7) (k % 7)) ∧ (∀ j e, 0 ≤ C j e ∧ C j e < p) ∧ (∀ j e, (e < 0 ∨ 6 < e) → C j e = 0) ∧ (∀ j e, (j < 0 ∨ n ≤ j) → C j e = 0) ∧ (n ≠ 0 → C = cfF F n) := by
  have h2 := kn.1.two
  have n4 := kn.n4
  by_cases n0 : n = 0
  · exact ⟨fun _ _ => 0, fun k k0 k1 => by omega, fun _ _ => ⟨Int.le_refl 0, by show (0 : Int) < p; omega⟩, fun _ _ _ => rfl, fun _ _ _ => rfl, fun w => absurd n0 w⟩
  · have mc := md.mc n0
    obtain ⟨c1, c2, c3, c4⟩ := cf_all (n := n) (p := p) (by omega) mc.2.2.2.2.2.2.2.1 (by omega)
    exact ⟨cfF F n, fun k k0 k1 => by rw [mc.2.2.2.2.2.2.1 k k0 (by omega)]; exact c1 k k0 k1, c2, c3, fun j e hj => if_neg (by omega), fun _ => rfl⟩
theorem md_el {S : Hp} {D p n g s : Int} {F Δ : Int → Int} (md : MDL S D p n g F Δ) (sh : SHE S D p n) : ∃ W, (rfE n s True (zG S (D + 3) s) = 0 → ELE S D p n s W) := by
  by_cases z : rfE n s True (zG S (D + 3) s) = 0
  · obtain ⟨-, -, -, -, W, el⟩ := rf_el sh z
    exact ⟨W, fun _ => el⟩
  · exact ⟨fun _ _ => 0, fun w => absurd w z⟩
theorem rfE_T {n s h : Int} {f : Prop} [Decidable f] (e : rfE n s f h = 0) : rfE n s True h = 0 := by
  obtain ⟨a, b, c, e0, e2⟩ := rfE_ok e
  unfold rfE
  rw [if_neg a, if_pos ⟨b.1, b.2, trivial⟩, if_neg e0, if_neg e2]
theorem rel_eq {S S' : Hp} {D v u p n g : Int} {F Δ : Int → Int} (hD : 485 ≤ D) (kn : KNO p n g F Δ) (cl : CLS S v u p n g F Δ) (md : MDL S D p n g F Δ) (re : RES S D p n F) (r : eqR D S S') : MID S S' D ∧ Rel S' D := rel_own hD kn cl md re r.1 (fun x hx => by omega) r.2.2 (fun i h5 h53 h58 h59 => r.2.1 i h58 h59)
theorem r_whole {d : Nat} {S : Hp} {D s : Int} (hD : 485 ≤ D) (R : Rel S D) : TW (d + 20) 126 264 [(0, s)] S D := by
  obtain ⟨v, u, p, n, g, F, Δ, kn, cl, md, re⟩ := R
  have id0 := rel_id kn cl md re
  have sh := re.2.1
  have h2 := kn.1.two
  have n4 := kn.n4
  unfold TW
  apply w_Crc_whole_0
  refine ⟨cl.1.1, s_refusal cl sh (f := True) ⟨fun _ => trivial, fun _ => by decide⟩ ⟨_, rfl, fun z => ?_, fun z => ?_⟩⟩
  · obtain ⟨hs, -, h1, n0, W, el⟩ := rf_el sh z
    refine ⟨cl.1.1, s_isWhole hD kn cl md re hs n0 h1 el (fun S1 m1 cl1 md1 re1 t1 => ⟨_, rfl, ?_⟩)⟩
    rintro _ rfl
    have mi : MID S S1 D := mid_md m1 cl.1.1 md.1.1 (by omega)
    obtain ⟨C, C1, C2, C3, C4, C5⟩ := md_cf kn md1
    have eC := C5 n0
    subst eC
    have o1 : ∀ x i, 485 ≤ x → zG S1 x i = zG S x i := fun x i hx => m1.G (by omega) i
    have g3 : zG S1 (D + 3) s = zG S (D + 3) s := o1 _ _ (by omega)
    obtain ⟨W', w1, -, -, w4⟩ := t1
    refine ⟨_, rfl, mi, m_whole (W := W') md1.1 md1.2.1 h2 md1.2.2.1 kn.2.1 C1 C2 C3 C4 (fun _ => ⟨w1, ?_, ?_⟩) (fun w => ?_) (fun _ no S2 r => ?_) (fun _ ok S2 r => ?_)⟩
    · rw [o1 _ _ (by omega)]
      exact el.2.2.1
    · rw [o1 _ _ (by omega)]
      exact el.2.2.2.1
    · rw [g3] at w
      exact absurd z w
    · rcases w4 with q | q
      · exact absurd q.2.1 no
      · rw [q.1, if_pos rfl]
        exact ⟨rfl, rel_eq hD kn cl1 md1 re1 r⟩
    · rcases w4 with q | q
      · rw [q.1, if_neg (by decide)]
        exact ⟨rfl, rel_eq hD kn cl1 md1 re1 r⟩
      · exact absurd ok q.2
  · obtain ⟨C, C1, C2, C3, C4, -⟩ := md_cf kn md
    exact ⟨_, rfl, id0.1, m_whole (W := fun _ _ => 0) md.1 md.2.1 h2 md.2.2.1 kn.2.1 C1 C2 C3 C4 (fun w => absurd w z) (fun _ => ⟨rfl, id0⟩) (fun w => absurd w z) (fun w => absurd w z)⟩
theorem r_equation {d : Nat} {S : Hp} {D s j i : Int} (hD : 485 ≤ D) (R : Rel S D) : TW (d + 20) 127 265 [(0, s), (0, j), (0, i)] S D := by
  obtain ⟨v, u, p, n, g, F, Δ, kn, cl, md, re⟩ := R
  have id0 := rel_id kn cl md re
  have sh := re.2.1
  have h2 := kn.1.two
  have n4 := kn.n4
  unfold TW
  apply w_Crc_equation_0
  rw [cl.1.a1, cl.c1]
  refine ⟨fun _ => ⟨cl.1.1, cl.vw.1⟩, ?_⟩
  rintro _ rfl
  refine ⟨cl.1.1, s_refusal cl sh (f := (1 ≤ j ∧ j ≤ n) ∧ 0 ≤ i ∧ i ≤ 199) ?_ ⟨_, rfl, fun z => ?_, fun z => ?_⟩⟩
  · by_cases a : (1 ≤ j ∧ j ≤ n) ∧ 0 ≤ i ∧ i ≤ 199
    · rw [if_neg (by omega)]
      exact ⟨fun _ => a, fun _ => by decide⟩
    · rw [if_pos (by omega)]
      exact ⟨fun q => absurd rfl q, fun q => absurd q a⟩
  · obtain ⟨hs, ⟨hj, hi⟩, h1, n0, W, el⟩ := rf_el sh z
    have hn := CLS.n4 kn n0
    refine ⟨cl.1.1, s_isWhole hD kn cl md re hs n0 h1 el (fun S1 m1 cl1 md1 re1 t1 => ⟨_, rfl, ?_⟩)⟩
    have mi : MID S S1 D := mid_md m1 cl.1.1 md.1.1 (by omega)
    obtain ⟨C, C1, C2, C3, C4, C5⟩ := md_cf kn md1
    have eC := C5 n0
    subst eC
    have o1 : ∀ x i, 485 ≤ x → zG S1 x i = zG S x i := fun x i hx => m1.G (by omega) i
    have g3 : zG S1 (D + 3) s = zG S (D + 3) s := o1 _ _ (by omega)
    obtain ⟨W', w1, w2, w3, w4⟩ := t1
    have hE : rfE n s True (zG S1 (D + 3) s) = 0 → elW S1 D s n p W' ∧ (0 ≤ zG S1 (D + 5) s ∧ zG S1 (D + 5) s ≤ 20) ∧ 0 ≤ zG S1 (D + 6) s ∧ zG S1 (D + 6) s < p := fun _ => by
      rw [o1 _ _ (by omega), o1 _ _ (by omega)]
      exact ⟨w1, el.2.2.1, el.2.2.2.1⟩
    refine ⟨fun q => ?_, fun q => ?_⟩
    · refine ⟨_, rfl, mi, m_equation (W := W') md1.1 md1.2.1 h2 md1.2.2.1 kn.2.1 C1 C2 C3 C4 hE (fun w => ?_) (fun _ no S2 r => ⟨rfl, rel_eq hD kn cl1 md1 re1 r⟩) (fun _ ok S2 r => ?_)⟩
      · rw [g3] at w
        exact absurd z w
      · rcases w4 with y | y
        · omega
        · exact absurd ok y.2
    · rw [cl1.1.a12, cl1.1.a1, cl1.c1, w32_id (by omega) (by omega)]
      rcases w4 with y | y
      · have xw : XW S1 141 := cl1.2.1.2.2.2.2.2.2.2.1
        have ln := y.2.2 j hj.1 hj.2
        refine ⟨cl1.1.1, cl1.1.1, cl1.vw.1, xw.1, s_ofPower xw w2 hn (by omega) ⟨_, rfl, ln.ln.1, n_number ln ⟨_, rfl, _, rfl, mi, ?_⟩⟩⟩
        refine m_equation (W := W') md1.1 md1.2.1 h2 md1.2.2.1 kn.2.1 C1 C2 C3 C4 hE (fun w => ?_) (fun _ no S2 r => ?_) (fun _ ok S2 r => ⟨rfl, rel_eq hD kn cl1 md1 re1 r⟩)
        · rw [g3] at w
          exact absurd z w
        · exact absurd y.2.1 no
      · omega
  · obtain ⟨C, C1, C2, C3, C4, -⟩ := md_cf kn md
    obtain ⟨W, hW⟩ := md_el (s := s) md sh
    exact ⟨_, rfl, id0.1, m_equation (W := W) md.1 md.2.1 h2 md.2.2.1 kn.2.1 C1 C2 C3 C4 (fun w => ⟨(hW w).2.1, (hW w).2.2.1, (hW w).2.2.2.1⟩) (fun _ => ⟨rfl, id0⟩) (fun w => absurd w z) (fun w => absurd w z)⟩
