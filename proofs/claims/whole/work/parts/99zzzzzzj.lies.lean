/-! lies. -/
theorem bs_ev {p c : Int} {O : Type} [I : Lean.Grind.CommRing O] {φ : (Int → Int) → O} (h : HM p φ) {f : Int → Int} {a : O} (ha : a = φ t1 + φ (nC (p - c))) : ∀ k : Nat, φ (bsH p c f k) = su k (fun i => φ (nC (f (k - 1 - i))) * a ^ i.toNat)
  | 0 => h.2.2.2.2.2.1
  | k + 1 => by
    have ih := bs_ev h (f := f) ha k
    have z : ∀ x, x < 0 → bsH p c f k x = 0 := fun x hx => bsH_z k x (Or.inl hx)
    have e : bsH p c f (k + 1) = fun x => ((fun x => ((fun x => bsH p c f k (x - 1)) x + (fun x => (p - c) * bsH p c f k x) x) % p) x + nC (f k) x) % p := funext fun x => by
      show (if x = 0 then ((bsH p c f k (x - 1) + (p - c) * bsH p c f k x) % p + f k) % p else (bsH p c f k (x - 1) + (p - c) * bsH p c f k x) % p) = _
      unfold nC
      by_cases q : x = 0
      · rw [if_pos q, if_pos q]
      · rw [if_neg q, if_neg q, Int.add_zero]
        exact (Int.emod_emod_of_dvd _ (Int.dvd_refl p)).symm
    rw [e, h.2.2.1 (fun x => (fun x => ((fun x => bsH p c f k (x - 1)) x + (fun x => (p - c) * bsH p c f k x) x) % p) x + nC (f k) x), h.1, h.2.2.1 (fun x => (fun x => bsH p c f k (x - 1)) x + (fun x => (p - c) * bsH p c f k x) x), h.1, h.shift z, h.scal z, su_first]
    rw [show (((k + 1 : Nat) : Int) - 1 - 0) = k by omega, show ((0 : Int)).toNat = 0 from rfl, Lean.Grind.Semiring.pow_zero]
    rw [su_congr (n := k) (f := fun i => φ (nC (f (((k + 1 : Nat) : Int) - 1 - (i + 1)))) * a ^ (i + 1).toNat) (g := fun i => a * (φ (nC (f (k - 1 - i))) * a ^ i.toNat)) (fun i i0 i1 => by
      (try dsimp only)
      rw [show ((k + 1 : Nat) : Int) - 1 - (i + 1) = k - 1 - i by omega, show (i + 1).toNat = i.toNat + 1 by omega, Lean.Grind.Semiring.pow_succ]
      grind), su_mul, ← ih, ha]
    grind
/-- read by powers: the same as moving -/
theorem bs_shf {p c T : Int} {P : Int → Int} (hp : 2 ≤ p) (hT : 0 ≤ T) (bP : ∀ x, 0 ≤ P x ∧ P x < p) (z0 : ∀ x, x < 0 → P x = 0) (z1 : ∀ x, T < x → P x = 0) (x : Int) : bsH p (p - c) (fun k => P (T - k)) (T + 1).toNat x = shf p c T P x := by
  by_cases x0 : 0 ≤ x
  · obtain ⟨O, I, φ, h⟩ := hm_ex hp
    have E : φ (bsH p (p - c) (fun k => P (T - k)) (T + 1).toNat) = φ (shf p c T P) := by
      rw [bs_ev h rfl, shf_ev h (a := φ t1 + φ (nC (p - (p - c)))) (by rw [show p - (p - c) = c by omega]) hT z0 z1]
      unfold evF
      exact su_congr fun i i0 i1 => by rw [show T - ((((T + 1).toNat : Nat) : Int) - 1 - i) = i by omega]
    exact h.eqv E (bsH_bd hp _) (fun x => mvN_bd (by omega) bP _ x) x x0
  · rw [bsH_z _ _ (Or.inl (by omega))]
    exact (mvN_neg z0 _ x (by omega)).symm
theorem shf_at0 {p c T : Int} {P : Int → Int} (hT : 1 ≤ T) : shf p c T P 0 = qr p c P T (-1) := by
  have go : ∀ k : Nat, mvN p c T (k + 1) P 0 = qr p c P T (-1) := fun k => by
    induction k with
    | zero =>
      show mvp p c T ((0 : Nat) : Int) P 0 = _
      unfold mvp
      rw [if_neg (by omega)]
      rfl
    | succ k ih =>
      show mvp p c T ((k + 1 : Nat) : Int) (mvN p c T (k + 1) P) 0 = _
      unfold mvp
      rw [if_pos (by omega)]
      exact ih
  unfold shf
  rw [show T.toNat = (T.toNat - 1) + 1 by omega]
  exact go _
theorem exN_fg {p n : Int} {dp dp' : Int → Int} {fig fig' : Int → Int → Int → Int} {Sp : Int → Int → Int} (hf : ∀ l i m, 0 ≤ l → l < n → 0 ≤ i → i < n → 0 ≤ m → m ≤ 20 → fig' l i m = fig l i m) (hd : ∀ l, 0 ≤ l → l < n → dp' l = dp l) : ∀ s : Nat, (s : Int) ≤ n → exN p n dp' fig' s Sp = exN p n dp fig s Sp
  | 0, _ => rfl
  | s + 1, hs => by
    have ih := exN_fg (p := p) (Sp := Sp) hf hd s (by omega)
    show exS p dp' fig' (exN p n dp' fig' s Sp) (n - 1 - s) = exS p dp fig (exN p n dp fig s Sp) (n - 1 - s)
    rw [ih]
    funext i x
    unfold exS
    by_cases q : 0 ≤ i ∧ i < n - 1 - s
    · rw [if_pos q, if_pos q, sm_congr (g := fun m => fig (n - 1 - s) i (m + 1) * shE dp (exN p n dp fig s Sp) (n - 1 - s) (x - (40 - (m + 1)))) (fun m m0 m1 => by
        (try dsimp only)
        unfold shE
        rw [hf _ _ _ (by omega) (by omega) q.1 (by omega) (by omega) (by omega), hd _ (by omega) (by omega)])]
    · rw [if_neg q, if_neg q]
theorem okE_fg {p n : Int} {dp dp' : Int → Int} {fig fig' : Int → Int → Int → Int} {Sp Sq : Int → Int → Int} (bd : ∀ l, 0 ≤ l → l < n → 0 ≤ dp l ∧ dp l ≤ 20) (dz : ∀ l i m, 0 ≤ l → l < n → 0 ≤ i → i < n → dp l < m → m ≤ 20 → fig l i m = 0) (hf : ∀ l i m, 0 ≤ l → l < n → 0 ≤ i → i < n → 0 ≤ m → m ≤ 20 → fig' l i m = fig l i m) (hd : ∀ l, 0 ≤ l → l < n → dp' l = dp l) (e : ∀ i x, 0 ≤ i → i < n → 0 ≤ x → x ≤ 39 → Sp i x = Sq i x) : okE p n dp' fig' Sp ↔ okE p n dp fig Sq := by
  have c := fun s hs i x i0 i1 x0 x1 => exN_cut (p := p) (fig := fig) (V := Sp) (V' := Sq) (W := 39) bd dz e s hs i x i0 i1 x0 x1
  unfold okE
  constructor
  · intro h l l0 l1 y y0 y1
    have b := bd l l0 l1
    rw [← c _ (by omega) l y l0 l1 y0 (by omega), ← exN_fg hf hd _ (by omega)]
    exact h l l0 l1 y y0 (by rw [hd l l0 l1]; exact y1)
  · intro h l l0 l1 y y0 y1
    have b := bd l l0 l1
    rw [hd l l0 l1] at y1
    rw [exN_fg hf hd _ (by omega), c _ (by omega) l y l0 l1 y0 (by omega)]
    exact h l l0 l1 y y0 y1
/-- the first ring -/
theorem exN_0 {p n : Int} {dp : Int → Int} {fig : Int → Int → Int → Int} {Sp : Int → Int → Int} (bS : ∀ i x, 0 ≤ Sp i x ∧ Sp i x < p) (hf : ∀ l i m, 0 ≤ l → l < n → 0 ≤ i → i < 4 → 0 ≤ m → m < 21 → fig l i m = fg0 l i m) (hn : n ≤ 4) : ∀ s : Nat, (s : Int) ≤ n → exN p n dp fig s Sp = Sp
  | 0, _ => rfl
  | s + 1, hs => by
    have ih := exN_0 (p := p) (dp := dp) bS hf hn s (by omega)
    show exS p dp fig (exN p n dp fig s Sp) (n - 1 - s) = Sp
    rw [ih]
    funext i x
    unfold exS
    by_cases q : 0 ≤ i ∧ i < n - 1 - s
    · rw [if_pos q, sm_zeros (fun m m0 m1 => by
        (try dsimp only)
        rw [hf _ _ _ (by omega) (by omega) q.1 (by omega) (by omega) (by omega)]
        unfold fg0
        rw [if_neg (by omega), Int.zero_mul]), Int.mul_zero, Int.add_zero, em_id (bS i x).1 (bS i x).2]
    · rw [if_neg q]
theorem low_0 {p n c M : Int} {dp : Int → Int} {fig : Int → Int → Int → Int} {W : Int → Int → Int} (hp : 2 ≤ p) (hn : 2 ≤ n ∧ n ≤ 4) (hM : 0 < M ∧ M ≤ 20) (bW : ∀ j i, 0 ≤ W j i ∧ W j i < p) (zW : ∀ j i, (i < 0 ∨ 30 < i) → W j i = 0) (nW : ∀ j i, (j < 0 ∨ n ≤ j) → W j i = 0) (low : LOW p M c W) (hf : ∀ l i m, 0 ≤ l → l < n → 0 ≤ i → i < 4 → 0 ≤ m → m < 21 → fig l i m = fg0 l i m) (hd : ∀ l, 0 ≤ l → l < n → dp l = 0) : ¬ okE p n dp fig (sbP p n c M W) := by
  intro ok
  refine low.2 (by omega) (rootAll_iff.mpr (fun j j0 j1 => ?_))
  by_cases q : j < n
  · have e := ok j j0 q (40 - M) (by omega) (by rw [hd j j0 q]; omega)
    rw [exN_0 (fun i x => by
      unfold sbP
      split
      · exact bsH_bd hp _ _
      · omega) hf hn.2 _ (by omega)] at e
    unfold sbP at e
    rw [if_pos ⟨j0, q⟩, show 40 - M - (40 - M) = (0 : Int) by omega, show (31 : Nat) = ((30 : Int) + 1).toNat from rfl, bs_shf (P := W j) hp (by omega) (bW j) (fun x hx => zW j x (Or.inl hx)) (fun x hx => zW j x (Or.inr hx)), shf_at0 (by omega)] at e
    rw [qr_T (T := 30) (fun i hi => zW j i (Or.inr hi)) (by omega)]
    exact e
  · exact qr_zero (fun i => nW j i (by omega)) _
theorem r_lies {d : Nat} {S : Hp} {D s : Int} (hD : 485 ≤ D) (R : Rel S D) : TW (d + 20) 128 267 [(0, s)] S D := by
  obtain ⟨v, u, p, n, g, F, Δ, kn, cl, md, re⟩ := R
  have id0 := rel_id kn cl md re
  have sh := re.2.1
  have h2 := kn.1.two
  have n4 := kn.n4
  unfold TW
  apply w_Crc_lies_0
  refine ⟨cl.1.1, s_refusal cl sh (f := True) ⟨fun _ => trivial, fun _ => by decide⟩ ⟨_, rfl, fun z => ?_, fun z => ?_⟩⟩
  · obtain ⟨hs, -, h1, n0, W, qn, ew, e5, e6, low⟩ := rf_el sh z
    have hn := CLS.n4 kn n0
    have sw := cl.sw hs.1 hs.2
    have hE : 0 ≤ s → s < 6 → zG S (D + 3) s ≠ 0 → zG S (D + 3) s ≠ 2 → n ≠ 0 → elW S D s n p W ∧ (0 ≤ zG S (D + 5) s ∧ zG S (D + 5) s ≤ 20) ∧ 0 ≤ zG S (D + 6) s ∧ zG S (D + 6) s < p := fun _ _ _ _ _ => ⟨ew, e5, e6⟩
    rw [cl.1.a6, cl.1.p6 s hs.1 hs.2, sw.2.1]
    refine ⟨cl.1.1, ⟨cl.1.k68.1, hs.1, by rw [cl.1.k68.2]; exact hs.2⟩, sw.1, ?_⟩
    rintro _ rfl
    rw [qn.2.2.1, qn.2.2.2.1]
    refine ⟨qn.1, fun q => ?_, fun q => ?_⟩
    · generalize hc : zG S (D + 6) s = c at *
      generalize hM : zG S (D + 5) s = M at *
      have c7 := kn.p7 e6.2
      rw [cl.1.a5, cl.1.a13, cl.1.a1, cl.1.p5 c e6.1 c7]
      refine ⟨cl.1.1, cl.1.1, cl.1.1, qn.1, ⟨cl.1.k67.1, e6.1, by rw [cl.1.k67.2]; exact c7⟩, cl.gw.1, s_ringC kn cl n0 e6 (fun S1 Lc fK dK m1 cl1 L0 pch clo rk => ⟨_, rfl, ?_⟩)⟩
      obtain ⟨mi1, md1, re1⟩ := cls_run hD kn cl md re m1
      have nR : ∀ x, (x < 90 ∨ (140 < x ∧ x < 239) ∨ 342 < x) → ¬ RGm x := fun x hx => by
        unfold RGm
        omega
      have el1 := qn.keep m1 (fun x x0 x1 => nR x (by omega))
      rw [cl1.1.a13, cl1.1.a1, el1.2.2.2.1]
      refine ⟨cl1.1.1, cl1.1.1, el1.1, cl1.gw.1, s_enterC kn cl1 n0 e6 (fun S3 m3 cl3 gu3 hu3 l3 => ⟨rfl, ?_⟩)⟩
      have o3 : ∀ x, (x < 239 ∨ 300 < x) → ¬ (x = 239 ∨ x = 240 ∨ MA (239 + 34) 4 x) := fun x hx => by
        unfold MA
        omega
      have rk3 := rk.keep kn.n4 m3 (fun x x0 x1 => o3 x (by omega))
      have el3 := el1.keep m3 (fun x x0 x1 => o3 x (by omega))
      have q7 : QW S3 70 128 := cl3.2.1.2.2.2.2.1
      rw [cl3.1.a9]
      refine ⟨cl3.1.1, q7.1, s_qtake q7 el3 (by omega) (fun j j0 j1 i hi => ew.2.2.1 j i (by omega)) (fun S4 m4 q4 => ⟨rfl, ?_⟩)⟩
      unfold MQ' at m4
      have cp4 : CP S4 v u := cl3.1.keep m4 (by omega) (by omega) (by omega) (by omega)
      have vu := cl.1.2.2.2.2.1
      have cv4 : zK S4 v = 2 ∧ zG S4 v 0 = p := by
        rw [m4.K, m4.G (by omega)]
        exact ⟨cl3.vw.1, cl3.c0⟩
      rw [cp4.a9, cp4.a1, cv4.2]
      refine ⟨cp4.1, cp4.1, cv4.1, q4.1, s_moveToPlace 30 q4 (by omega) ⟨by omega, by omega⟩ (fun j j0 j1 i hi => ew.2.2.1 j i (by omega)) (by omega) (fun S5 m5 q5 => ⟨rfl, ?_⟩)⟩
      unfold MQ' at m5
      have m35 : Md (fun x => 70 ≤ x ∧ x ≤ 79) S3 S5 := (m4.wide (fun x hx => by omega)).tr (m5.wide (fun x hx => by omega))
      have mi13 : MID S1 S3 D := mid_md m3 mi1.1 mi1.2.1 (o3 _ (by omega))
      have md3 := md1.far m3 (fun x x0 => o3 x (by omega))
      have re3 := re1.keep kn.n4 m3 (fun x hx => o3 x (by unfold REx at hx; omega)) (fun i hi => m3.G (o3 _ (by omega)) i)
      obtain ⟨cl5, md5, re5, mi35⟩ := st_q hD kn cl3 md3 re3 (m35.wide (fun x hx => by omega)) q5.w (cl3.2.1.2.2.2.2.2.1.keep m35 (fun x x0 x1 => by omega)) (cl3.mw.keep m35 (fun x x0 x1 => by omega))
      have mi5 := mid_tr (mid_tr mi1 mi13) mi35
      have gu5 := gu3.keep m35 (by omega)
      have rk5 := rk3.keep kn.n4 m35 (fun x x0 x1 => by omega)
      obtain ⟨-, P, cq, -⟩ := kn.2.2.2 n0
      obtain ⟨O, I, φ, E, J, ι, y, h, A⟩ := env_ex kn.1 hn (cfF (mvC p c F) n)
      have vk : ∀ k, 0 ≤ k → k ≤ Lc → RNV p n (cfF (mvC p c F) n) φ ι y k (fK k) (dK k) := fun k k0 k1 => by
        have := chain_rst h kn.1 hn A (by omega) pch k.toNat (by omega)
        rw [show ((k.toNat : Nat) : Int) = k by omega] at this
        exact this
      -- one question, on both sides
      have tie : ∀ k, 0 ≤ k → k ≤ Lc → ∀ (dp' : Int → Int) (fig' : Int → Int → Int → Int), (∀ l i m, 0 ≤ l → l < n → 0 ≤ i → i < n → 0 ≤ m → m ≤ 20 → fig' l i m = fK k l i m) → (∀ l, 0 ≤ l → l < n → dp' l = dK k l) → (okE p n dp' fig' (sprd n M (-1) (fun j => shf p c 30 (W j))) ↔ okE p n (dK k) (fK k) (sbP p n c M W)) := fun k k0 k1 dp' fig' hf hd => by
        have w := vk k k0 k1
        refine okE_fg (fun l l0 l1 => w.2.2.2.2.2.1.1 l l0 l1) (fun l i m l0 l1 i0 i1 m0 m1 => w.deep l0 l1 i0 i1 m0 m1) hf hd (fun i x i0 i1 x0 x1 => ?_)
        unfold sprd sbP
        (try dsimp only)
        rw [if_pos (show 0 ≤ i ∧ i < n from ⟨i0, i1⟩), show (31 : Nat) = ((30 : Int) + 1).toNat from rfl, bs_shf (P := W i) h2.1 (by omega) (ew.2.1 i) (fun x hx => ew.2.2.1 i x (Or.inl hx)) (fun x hx => ew.2.2.1 i x (Or.inr hx)), show x - (40 - M) = x - 40 + M by omega]
        by_cases w0 : 0 ≤ x - 40 + M
        · rw [if_pos ⟨i0, i1, by omega, w0⟩]
        · rw [if_neg (fun w => w0 w.2.2.2)]
          exact (mvN_neg (fun x hx => ew.2.2.1 i x (Or.inl hx)) _ _ (by omega)).symm
      have no0 : ¬ okE p n (dK 0) (fK 0) (sbP p n c M W) := low_0 h2.1 hn (by omega) ew.2.1 ew.2.2.1 ew.2.2.2 low pch.1 pch.2.1
      have nA0 : ∀ x, (x < 255 ∨ 273 < x) → ¬ (MA (239 + 16) 4 x ∨ MA (239 + 25) 4 x) := fun x hx => by
        unfold MA
        omega
      have mk : ∀ S6, Md (fun x => MA (239 + 16) 4 x ∨ MA (239 + 25) 4 x) S5 S6 → GW S6 239 90 → CLS S6 v u p n g F Δ ∧ MDL S6 D p n g F Δ ∧ RES S6 D p n F ∧ MID S5 S6 D := fun S6 m6 gw6 => ⟨cls_wk kn cl5 m6 (fun x hx => nA0 x (by omega)) gw6 (cl5.mw.keep m6 (fun x x0 x1 => nA0 x (by omega))) (cl5.hw.keep m6 (nA0 _ (by omega))) (cl5.al.keep m6 (fun x hx => nA0 x (by omega))), md5.far m6 (fun x x0 => nA0 x (by omega)), re5.keep kn.n4 m6 (fun x hx => nA0 x (by unfold REx at hx; omega)) (fun i hi => m6.G (nA0 _ (by omega)) i), mid_md m6 mi5.1 mi5.2.1 (nA0 _ (by omega))⟩
      -- the reference's answer
      have ans : ∀ S6 x, CLS S6 v u p n g F Δ → MDL S6 D p n g F Δ → RES S6 D p n F → Md (fun x => MA (239 + 16) 4 x ∨ MA (239 + 25) 4 x) S5 S6 → ((x = -3 ∧ ∀ k, 0 ≤ k → k ≤ Lc → ¬ okE p n (dK k) (fK k) (sbP p n c M W)) ∨ (0 ≤ x ∧ x ≤ Lc ∧ okE p n (dK x) (fK x) (sbP p n c M W) ∧ ∀ k, 0 ≤ k → k < x → ¬ okE p n (dK k) (fK k) (sbP p n c M W))) → Ev (d + 20) 267 [(2, D), (0, s)] S6 (fun r' S2 => r' = (0, x) ∧ MID S6 S2 D ∧ Rel S2 D) := fun S6 x cl6 md6 re6 m6 hx => by
        have nA : ∀ x, (x < 255 ∨ 273 < x) → ¬ (MA (239 + 16) 4 x ∨ MA (239 + 25) 4 x) := fun x hx => by
          unfold MA
          omega
        have o6 : ∀ x i, 485 ≤ x → zG S6 x i = zG S x i := fun x i hx => by
          rw [m6.G (nA _ (by omega)), m35.G (by omega), m3.G (o3 _ (by omega)), m1.G (nR _ (by omega))]
        have g3 : zG S6 (D + 3) s = zG S (D + 3) s := o6 _ _ (by omega)
        have g5 : zG S6 (D + 5) s = M := (o6 _ _ (by omega)).trans hM
        have g6 : zG S6 (D + 6) s = c := (o6 _ _ (by omega)).trans hc
        have el6 : elW S6 D s n p W := (((ew.keep m1 (nR _ (by omega))).keep m3 (o3 _ (by omega))).keep m35 (by omega)).keep m6 (nA _ (by omega))
        refine m_lies (W := W) (md6.mc n0) (fun _ _ _ _ _ => ⟨el6, by rw [g5]; exact e5, by rw [g6]; exact e6⟩) (fun w => ?_) (fun _ w => ?_) (fun _ _ S7 L fK' dK' o mc r y hy => ?_)
        · rw [g3] at w
          exact absurd z w
        · rw [g5] at w
          exact absurd w q
        · rw [g5, g6] at hy
          rw [g6] at r
          have e := ring_eq kn n0 L0 pch clo r
          have sm : ∀ k, 0 ≤ k → k ≤ Lc → (okE p n (dK' k) (fK' k) (sbP p n c M W) ↔ okE p n (dK k) (fK k) (sbP p n c M W)) := fun k k0 k1 => by
            have w := vk k k0 k1
            exact okE_fg (fun l l0 l1 => w.2.2.2.2.2.1.1 l l0 l1) (fun l i m l0 l1 i0 i1 m0 m1 => w.deep l0 l1 i0 i1 m0 m1) (fun l i m l0 l1 i0 i1 m0 m1 => (e.2 k k0 k1).1.1 l i m l0 l1 i0 (by omega) m0 m1) (fun l l0 l1 => (e.2 k k0 k1).1.2 l l0 l1) (fun i x _ _ _ _ => rfl)
          have xy : y = x := by
            rw [e.1] at hy
            rcases hx with ⟨x1, x2⟩ | ⟨x0, x1, x2, x3⟩
            · rcases hy with ⟨y1, -⟩ | ⟨y0, y1, y2, -⟩
              · omega
              · exact absurd ((sm y y0 y1).mp y2) (x2 y y0 y1)
            · rcases hy with ⟨-, y2⟩ | ⟨y0, y1, y2, y3⟩
              · exact absurd ((sm x x0 x1).mpr x2) (y2 x x0 x1)
              · by_cases l1 : y < x
                · exact absurd ((sm y y0 y1).mp y2) (x3 y y0 l1)
                · by_cases l2 : x < y
                  · exact absurd ((sm x x0 x1).mpr x2) (y3 x x0 l2)
                  · omega
          rw [xy]
          exact ⟨rfl, rel_op hD kn cl6 md6 re6 n0 o mc⟩
      refine loopU (P := fun k S' => At (d + 19 + 1) 128 c128_94 [(0, (2, 1)), (4, (2, 301 + 6 * c)), (5, (0, k))] [] S' (fun r S1 => ∃ x, r = (0, x) ∧ MID S S1 D ∧ Ev (d + 20) 267 [(2, D), (0, s)] S1 (fun r' S2 => r' = (0, x) ∧ MID S1 S2 D ∧ Rel S2 D))) (I := fun k S6 => 1 ≤ k ∧ Md (fun x => MA (239 + 16) 4 x ∨ MA (239 + 25) 4 x) S5 S6 ∧ GW S6 239 90 ∧ ∀ j, 0 ≤ j → j < k → ¬ okE p n (dK j) (fK j) (sbP p n c M W)) (max 1 (Lc + 1)) ?_ ?_ 1 S5 (by omega) ⟨by omega, Md.refl _ _, cl5.gw, fun j j0 j1 => by rw [show j = 0 by omega]; exact no0⟩
      · rintro k S6 hk ⟨k0, m6, gw6, no⟩ next
        have k1 : k ≤ Lc := by omega
        obtain ⟨cl6, md6, re6, mi6⟩ := mk S6 m6 gw6
        have nA := nA0
        have rk6 := rk5.keep kn.n4 m6 (fun x x0 x1 => nA x (by omega))
        have q6 := q5.keep m6 (fun x x0 x1 => nA x (by omega))
        have pw6 := cl6.pw e6.1 c7
        have w := vk k (by omega) k1
        apply w_Crc_lies_94
        rw [rk6.1, cl6.1.a9, cl6.1.a13, q6.2.1, q6.2.2.1]
        refine ⟨pw6.1, fun q => by omega, fun _ => ⟨cl6.1.1, cl6.1.1, q6.1, cl6.1.1, q6.1, gw6.1, s_spreadOut (D := 30) gw6 (gu5.keep m6 (nA _ (by omega))) hn h2 (by omega) (by omega) q6.2.2.2.2 (fun j j0 j1 x hx => mvN_top (fun i hi => ew.2.2.1 j i (Or.inr hi)) _ x (by omega) (by omega)) (by omega) (by omega) (fun S7 m7 gw7 sp7 => ⟨rfl, ?_⟩)⟩⟩
        have nB : ∀ x, (x < 264 ∨ 273 < x) → ¬ MA (239 + 25) 4 x := fun x hx => by
          unfold MA
          omega
        have m67 : Md (fun x => MA (239 + 16) 4 x ∨ MA (239 + 25) 4 x) S5 S7 := m6.tr (m7.wide (fun x hx => Or.inr hx))
        obtain ⟨cl7, md7, re7, mi7⟩ := mk S7 m67 gw7
        have rk7 := rk5.keep kn.n4 m67 (fun x x0 x1 => nA x (by omega))
        have rd := (rk7.2.1 k (by omega) k1).1
        rw [cl7.1.a13]
        refine ⟨cl7.1.1, gw7.1, s_express (W := 39) gw7 (gu5.keep m67 (nA _ (by omega))) hn h2 (cl7.pw e6.1 c7) (cl7.pr e6.1 c7) (by omega) (by omega) (fun l l0 l1 => ?_) (fun l i m' l0 l1 i0 i1 => rd.2.2.2.1 l i m' l0 (by omega) i0 (by omega)) sp7 (fun i i0 i1 x hx => ?_) (by omega) (fun ok S8 m8 gw8 _ => ⟨_, rfl, fun z => absurd z (by decide), fun _ => ?_⟩) (fun nok S8 m8 gw8 => ⟨_, rfl, fun _ => ?_, fun z => absurd rfl z⟩)⟩
        · rw [rd.2.1 l l0 l1]
          exact w.2.2.2.2.2.1.1 l l0 l1
        · unfold sprd
          rw [if_neg (by omega)]
        · have m8' : Md (fun x => MA (239 + 16) 4 x ∨ MA (239 + 25) 4 x) S5 S8 := m67.tr m8
          obtain ⟨cl8, md8, re8, mi8⟩ := mk S8 m8' gw8
          exact ⟨_, rfl, mid_tr mi5 mi8, ans S8 k cl8 md8 re8 m8' (Or.inr ⟨by omega, k1, (tie k (by omega) k1 _ _ (fun l i m' l0 l1 i0 i1 m0 m1 => rd.1 l i m' l0 l1 i0 (by omega) m0 m1) (fun l l0 l1 => rd.2.1 l l0 l1)).mp ok, no⟩)⟩
        · have m8' : Md (fun x => MA (239 + 16) 4 x ∨ MA (239 + 25) 4 x) S5 S8 := m67.tr m8
          rintro _ rfl
          rw [w32_id (by omega) (by omega)]
          refine next S8 ⟨by omega, m8', gw8, fun j j0 j1 => ?_⟩
          by_cases q : j = k
          · rw [q]
            exact fun ok => nok ((tie k (by omega) k1 _ _ (fun l i m' l0 l1 i0 i1 m0 m1 => rd.1 l i m' l0 l1 i0 (by omega) m0 m1) (fun l l0 l1 => rd.2.1 l l0 l1)).mpr ok)
          · exact no j j0 (by omega)
      · rintro S6 ⟨k0, m6, gw6, no⟩
        obtain ⟨cl6, md6, re6, mi6⟩ := mk S6 m6 gw6
        have rk6 := rk5.keep kn.n4 m6 (fun x x0 x1 => nA0 x (by omega))
        apply w_Crc_lies_94
        rw [rk6.1]
        exact ⟨(cl6.pw e6.1 c7).1, fun _ => ⟨_, rfl, mid_tr mi5 mi6, ans S6 _ cl6 md6 re6 m6 (Or.inl ⟨rfl, fun j j0 j1 => no j j0 (by omega)⟩)⟩, fun w => absurd (by omega) w⟩
    · have q' := Classical.not_not.mp q
      exact ⟨_, rfl, id0.1, m_lies (W := W) (md.mc n0) hE (fun w => absurd z w) (fun _ _ => ⟨rfl, id0⟩) (fun _ w => absurd q' w)⟩
  · by_cases n0 : n = 0
    · have e : rfE n s True (zG S (D + 3) s) = -2 := by
        unfold rfE
        rw [if_pos n0]
      rw [e]
      refine ⟨_, rfl, id0.1, ?_⟩
      apply w_Model_lies_0
      exact ⟨md.1.1, fun q => absurd (md.2.2.1.trans n0) q, fun _ => ⟨rfl, id0⟩⟩
    · refine ⟨_, rfl, id0.1, m_lies (W := fun _ _ => 0) (md.mc n0) (fun s0 s1 a b _ => absurd ?_ z) (fun _ => ⟨rfl, id0⟩) (fun w => absurd w z) (fun w => absurd w z)⟩
      unfold rfE
      rw [if_neg n0, if_pos ⟨s0, s1, trivial⟩, if_neg a, if_neg b]
