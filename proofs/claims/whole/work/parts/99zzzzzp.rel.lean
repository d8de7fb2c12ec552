/-! The class's object and the reference side by side: what the class's part is like. -/
/-- a curve as it lies in one of the class's objects -/
def CUR (S : Hp) (V p n g : Int) (F Δ : Int → Int) : Prop := zG S V 0 = p ∧ zG S V 1 = n ∧ (n ≠ 0 → zG S V 2 = g ∧ (∀ e, 0 ≤ e → e < 49 → zG S (V + 1) e = F e) ∧ LAN S (V + 2) 4 (fun _ => 7) p (cfF F n) ∧ LN S (V + 11) 64 p Δ ∧ ∀ c, 0 ≤ c → c < p → zG S (V + 13) c = rtN p c 199 200 Δ)
/-- what is known of the curve itself -/
def KNO (p n g : Int) (F Δ : Int → Int) : Prop := isPr p ∧ (n = 0 ∨ (2 ≤ n ∧ n ≤ 4)) ∧ (n = 0 → g = 0) ∧ (n ≠ 0 → (g = dgr F ∧ dg6 F) ∧ ∃ P, CVQ p n F P ∧ ∀ x, Δ x = dsM p n (trE n P) x)
/-- the places, and those of them whose rings are there -/
def PLC (S : Hp) (p n : Int) (F : Int → Int) : Prop := ∀ c, 0 ≤ c → c < 7 → PW S (301 + 6 * c) ∧ PR S (301 + 6 * c) ∧ zG S (301 + 6 * c) 0 = c ∧ in01 (zG S (301 + 6 * c) 1) ∧ (zG S (301 + 6 * c) 1 = 1 → n ≠ 0 ∧ c < p ∧ ∃ Lc fK dK, (0 ≤ Lc ∧ Lc ≤ 18) ∧ PCH p n (cfF (mvC p c F) n) fK dK Lc ∧ CLO p n (cfF (mvC p c F) n) fK dK Lc ∧ RK S (301 + 6 * c) n p (cfF (mvC p c F) n) Lc fK dK)
def CLS (S : Hp) (v u p n g : Int) (F Δ : Int → Int) : Prop := CP S v u ∧ CO S ∧ CUR S v p n g F Δ ∧ PLC S p n F ∧ ALB S 239
theorem CP.keep {M : Int → Prop} {S S' : Hp} {v u : Int} (h : CP S v u) (m : Md M S S') (h1 : ¬ M 1) (h2 : ¬ M 67) (h3 : ¬ M 68) (h4 : ¬ M 69) : CP S' v u := by
  obtain ⟨a1, a2, a3, a4, a5, a6, a7, a8, a9, a10, a11, a12, a13, a14, a15, a16, a17, a18, a19, a20⟩ := h
  have e : ∀ i, zG S' 1 i = zG S 1 i := fun i => m.G h1 i
  exact ⟨by rw [m.K]; exact a1, by rw [e]; exact a2, by rw [e]; exact a3, by rw [e]; exact a4, a5, by rw [e]; exact a6, by rw [e]; exact a7, by rw [e]; exact a8, by rw [e]; exact a9, by rw [e]; exact a10, by rw [e]; exact a11, by rw [e]; exact a12, by rw [e]; exact a13, by rw [e]; exact a14, by rw [m.K, m.L]; exact a15, by rw [m.K, m.L]; exact a16, by rw [m.K, m.L]; exact a17, fun c c0 c1 => by rw [m.G h2]; exact a18 c c0 c1, fun c c0 c1 => by rw [m.G h3]; exact a19 c c0 c1, fun c c0 c1 => by rw [m.G h4]; exact a20 c c0 c1⟩
/-- a number of the object's own that is no pointer -/
theorem CP.put {S : Hp} {v u i x : Int} (h : CP S v u) (hi : i = 4 ∨ i = 8 ∨ i = 14 ∨ i = 15) : CP (zS S 1 i x) v u := by
  obtain ⟨a1, a2, a3, a4, a5, a6, a7, a8, a9, a10, a11, a12, a13, a14, a15, a16, a17, a18, a19, a20⟩ := h
  have e : ∀ j, j ≠ 4 → j ≠ 8 → j ≠ 14 → j ≠ 15 → zG (zS S 1 i x) 1 j = zG S 1 j := fun j _ _ _ _ => zG_zS_ne _ (Or.inr (by omega))
  have m : Md (fun x => x = 1) S (zS S 1 i x) := Md.zS _ _ _ _
  exact ⟨by rw [m.K]; exact a1, by rw [e _ (by omega) (by omega) (by omega) (by omega)]; exact a2, by rw [e _ (by omega) (by omega) (by omega) (by omega)]; exact a3, by rw [e _ (by omega) (by omega) (by omega) (by omega)]; exact a4, a5, by rw [e _ (by omega) (by omega) (by omega) (by omega)]; exact a6, by rw [e _ (by omega) (by omega) (by omega) (by omega)]; exact a7, by rw [e _ (by omega) (by omega) (by omega) (by omega)]; exact a8, by rw [e _ (by omega) (by omega) (by omega) (by omega)]; exact a9, by rw [e _ (by omega) (by omega) (by omega) (by omega)]; exact a10, by rw [e _ (by omega) (by omega) (by omega) (by omega)]; exact a11, by rw [e _ (by omega) (by omega) (by omega) (by omega)]; exact a12, by rw [e _ (by omega) (by omega) (by omega) (by omega)]; exact a13, by rw [e _ (by omega) (by omega) (by omega) (by omega)]; exact a14, by rw [m.K, m.L]; exact a15, by rw [m.K, m.L]; exact a16, by rw [m.K, m.L]; exact a17, fun c c0 c1 => by rw [m.G (by omega)]; exact a18 c c0 c1, fun c c0 c1 => by rw [m.G (by omega)]; exact a19 c c0 c1, fun c c0 c1 => by rw [m.G (by omega)]; exact a20 c c0 c1⟩
theorem SW.keep {M : Int → Prop} {S S' : Hp} {h : Int} (w : SW S h) (m : Md M S S') (hM : ∀ x, h ≤ x → x ≤ h + 10 → ¬ M x) : SW S' h := by
  obtain ⟨a, b, c, d, e, f⟩ := w
  exact ⟨by rw [m.K]; exact a, by rw [m.G (hM _ (by omega) (by omega))]; exact b, c.keep m (fun x x0 x1 => hM x (by omega) (by omega)), by rw [m.G (hM _ (by omega) (by omega))]; exact d, by rw [m.K]; exact e, by rw [m.L]; exact f⟩
/-- shapes, where work rows alone were written -/
theorem CO.keep {M : Int → Prop} {S S' : Hp} (h : CO S) (m : Md M S S') (q7 : QW S' 70 128) (q8 : QW S' 80 128) (mw : MW S' 90) (xw : XW S' 141) (gw : GW S' 239 90) (hw : HW S' 240) (hM : ∀ x, ((2 ≤ x ∧ x ≤ 69) ∨ (301 ≤ x ∧ x ≤ 484 ∧ (343 ≤ x ∨ x % 6 = 1))) → ¬ M x) : CO S' := by
  obtain ⟨a1, a2, a3, a4, a5, a6, a7, a8, a9, a10, a11, a12, a13⟩ := h
  exact ⟨a1.keep m (fun i _ => m.G (hM _ (by omega)) i) (hM _ (by omega)), a2.keep m (fun x x0 x1 => hM x (by omega)), a3.keep m (fun x x0 x1 => hM x (by omega)), a4.keep m (fun x x0 x1 => hM x (by omega)), q7, q8, mw, xw, gw, hw, fun c c0 c1 => (a11 c c0 c1).keep m (hM _ (by omega)), fun s s0 s1 => (a12 s s0 s1).keep m (fun x x0 x1 => hM x (by omega)), fun k k0 k1 => (a13 k k0 k1).keep m (fun x x0 x1 => hM x (by omega))⟩
theorem CO.far {M : Int → Prop} {S S' : Hp} (h : CO S) (m : Md M S S') (hM : ∀ x, 2 ≤ x → x ≤ 484 → ¬ M x) : CO S' := h.keep m (h.2.2.2.2.1.keep m (fun x x0 x1 => hM x (by omega) (by omega))) (h.2.2.2.2.2.1.keep m (fun x x0 x1 => hM x (by omega) (by omega))) (h.2.2.2.2.2.2.1.keep m (fun x x0 x1 => hM x (by omega) (by omega))) (h.2.2.2.2.2.2.2.1.keep m (fun x x0 x1 => hM x (by omega) (by omega))) (h.2.2.2.2.2.2.2.2.1.keep m (fun x hx => hM x (by omega) (by omega))) (h.2.2.2.2.2.2.2.2.2.1.keep m (hM _ (by omega) (by omega))) (fun x hx => hM x (by omega) (by omega))
theorem CUR.keep {M : Int → Prop} {S S' : Hp} {V p n g : Int} {F Δ : Int → Int} (h : CUR S V p n g F Δ) (m : Md M S S') (hM : ∀ x, V ≤ x → x ≤ V + 13 → ¬ M x) : CUR S' V p n g F Δ := by
  obtain ⟨a, b, c⟩ := h
  refine ⟨by rw [m.G (hM _ (by omega) (by omega))]; exact a, by rw [m.G (hM _ (by omega) (by omega))]; exact b, fun n0 => ?_⟩
  obtain ⟨d, e, f, l, o⟩ := c n0
  exact ⟨by rw [m.G (hM _ (by omega) (by omega))]; exact d, fun i i0 i1 => by rw [m.G (hM _ (by omega) (by omega))]; exact e i i0 i1, f.keep m (fun x x0 x1 => hM x (by omega) (by omega)) (by omega), l.keep m (hM _ (by omega) (by omega)) (hM _ (by omega) (by omega)), fun i i0 i1 => by rw [m.G (hM _ (by omega) (by omega))]; exact o i i0 i1⟩
theorem RK.keep {M : Int → Prop} {S S' : Hp} {L n p Lc : Int} {C : Int → Int → Int} {fK : Int → Int → Int → Int → Int} {dK : Int → Int → Int} (n4 : 0 ≤ n ∧ n ≤ 4) (h : RK S L n p C Lc fK dK) (m : Md M S S') (hM : ∀ x, L ≤ x → x ≤ L + 5 → ¬ M x) : RK S' L n p C Lc fK dK := by
  obtain ⟨a, b, c, d⟩ := h
  refine ⟨by rw [m.G (hM _ (by omega) (by omega))]; exact a, fun k k0 k1 => ⟨(b k k0 k1).1.keep n4 m (hM _ (by omega) (by omega)) (hM _ (by omega) (by omega)), ?_, ?_⟩, fun i j l i0 i1 j0 j1 l0 l1 => by rw [m.G (hM _ (by omega) (by omega))]; exact c i j l i0 i1 j0 j1 l0 l1, fun x x0 x1 => by rw [m.G (hM _ (by omega) (by omega))]; exact d x x0 x1⟩
  · rw [m.G (hM _ (by omega) (by omega))]
    exact (b k k0 k1).2.1
  · rw [m.G (hM _ (by omega) (by omega))]
    exact (b k k0 k1).2.2
/-- one place, where nothing of it was written -/
theorem plc_one {M : Int → Prop} {S S' : Hp} {p n c : Int} {F : Int → Int} (n4 : 0 ≤ n ∧ n ≤ 4) (h : PLC S p n F) (c0 : 0 ≤ c) (c1 : c < 7) (m : Md M S S') (hM : ∀ x, 301 + 6 * c ≤ x → x ≤ 301 + 6 * c + 5 → ¬ M x) : PW S' (301 + 6 * c) ∧ PR S' (301 + 6 * c) ∧ zG S' (301 + 6 * c) 0 = c ∧ in01 (zG S' (301 + 6 * c) 1) ∧ (zG S' (301 + 6 * c) 1 = 1 → n ≠ 0 ∧ c < p ∧ ∃ Lc fK dK, (0 ≤ Lc ∧ Lc ≤ 18) ∧ PCH p n (cfF (mvC p c F) n) fK dK Lc ∧ CLO p n (cfF (mvC p c F) n) fK dK Lc ∧ RK S' (301 + 6 * c) n p (cfF (mvC p c F) n) Lc fK dK) := by
  obtain ⟨a1, a2, a3, a4, a5⟩ := h c c0 c1
  have e : ∀ i, zG S' (301 + 6 * c) i = zG S (301 + 6 * c) i := fun i => m.G (hM _ (by omega) (by omega)) i
  refine ⟨a1.keep m (hM _ (by omega) (by omega)), a2.keep m (hM _ (by omega) (by omega)), by rw [e]; exact a3, by rw [e]; exact a4, fun b => ?_⟩
  rw [e] at b
  obtain ⟨x, z, Lc, fK, dK, l, q, r, s⟩ := a5 b
  exact ⟨x, z, Lc, fK, dK, l, q, r, s.keep n4 m hM⟩
theorem PLC.keep {M : Int → Prop} {S S' : Hp} {p n : Int} {F : Int → Int} (n4 : 0 ≤ n ∧ n ≤ 4) (h : PLC S p n F) (m : Md M S S') (hM : ∀ x, 301 ≤ x → x ≤ 342 → ¬ M x) : PLC S' p n F := fun c c0 c1 => plc_one n4 h c0 c1 m (fun x x0 x1 => hM x (by omega) (by omega))
theorem KNO.n4 {p n g : Int} {F Δ : Int → Int} (k : KNO p n g F Δ) : 0 ≤ n ∧ n ≤ 4 := by
  have := k.2.1
  omega
theorem CLS.far {M : Int → Prop} {S S' : Hp} {v u p n g : Int} {F Δ : Int → Int} (k : KNO p n g F Δ) (h : CLS S v u p n g F Δ) (m : Md M S S') (hM : ∀ x, 1 ≤ x → x ≤ 484 → ¬ M x) : CLS S' v u p n g F Δ := by
  obtain ⟨a, b, c, d, e⟩ := h
  have vu := a.2.2.2.2.1
  exact ⟨a.keep m (hM _ (by omega) (by omega)) (hM _ (by omega) (by omega)) (hM _ (by omega) (by omega)) (hM _ (by omega) (by omega)), b.far m (fun x x0 x1 => hM x (by omega) (by omega)), c.keep m (fun x x0 x1 => hM x (by omega) (by omega)), d.keep k.n4 m (fun x x0 x1 => hM x (by omega) (by omega)), e.keep m (fun x hx => hM x (by omega) (by omega))⟩
theorem shf_zero {p c T : Int} (hp : 0 < p) {P : Int → Int} (h : ∀ i, P i = 0) (i : Int) : shf p c T P i = 0 := by
  unfold shf
  have qz : ∀ (R : Int → Int) (U : Int), (∀ i, R i = 0) → ∀ j, qr p c R U j = 0 := fun R U hR j => by
    have qd0 : ∀ k : Nat, qd p c R U k = 0 := fun k => by
      induction k with
      | zero => rfl
      | succ k ih =>
        show (R (U - k) + c * qd p c R U k) % p = 0
        rw [ih, hR, Int.mul_zero]
        exact Int.zero_emod p
    unfold qr
    exact qd0 _
  have go : ∀ (k : Nat) (i : Int), mvN p c T k P i = 0 := fun k => by
    induction k with
    | zero => exact fun i => h i
    | succ k ih =>
      intro i
      show mvp p c T k (mvN p c T k P) i = 0
      unfold mvp
      split
      · exact ih i
      · exact qz _ _ ih _
  exact go _ i
theorem mvC_all {p n c : Int} {F : Int → Int} (hp : 0 < p) : (fun j => shf p c 6 (cfF F n j)) = cfF (mvC p c F) n := funext fun l => by
  (try dsimp only)
  by_cases q : 0 ≤ l ∧ l < n
  · exact (mvC_shf hp q.1 q.2).symm
  · refine funext fun i => ?_
    have z0 : ∀ x, cfF F n l x = 0 := fun x => if_neg (fun z => q ⟨z.1, z.2.1⟩)
    rw [shf_zero hp z0]
    exact (if_neg (fun z => q ⟨z.1, z.2.1⟩)).symm
/-- what is written where rings grow -/
def RGm : Int → Prop := fun x => (90 ≤ x ∧ x ≤ 140) ∨ (239 ≤ x ∧ x ≤ 342)
theorem CLS.n4 {p n g : Int} {F Δ : Int → Int} (k : KNO p n g F Δ) (n0 : n ≠ 0) : 2 ≤ n ∧ n ≤ 4 := by
  have := k.2.1
  omega
theorem ad_v {v u c p : Int} (vu : (v = 22 ∧ u = 37) ∨ (v = 37 ∧ u = 22)) (hc : 0 ≤ c ∧ c < p) (h7 : p ≤ 7) : (v + 14 < 239 ∨ 239 + 61 < v) ∧ (v + 14 < 301 + 6 * c ∨ 301 + 6 * c + 5 < v) ∧ (v + 14 < 90 ∨ 90 + 50 < v) ∧ (301 + 6 * c + 5 < 239 ∨ 239 + 61 < 301 + 6 * c) ∧ ((90 : Int) + 50 < 239 ∨ (239 : Int) + 61 < 90) ∧ (301 + 6 * c + 5 < 90 ∨ 90 + 50 < 301 + 6 * c) ∧ c < 7 := by omega
theorem cls_ring {S S' : Hp} {v u p n g c Lc : Int} {F Δ : Int → Int} {fK : Int → Int → Int → Int → Int} {dK : Int → Int → Int} (cl : CLS S v u p n g F Δ) (n0 : n ≠ 0) (n4 : 0 ≤ n ∧ n ≤ 4) (hc : 0 ≤ c ∧ c < p) (h7 : c < 7) (L0 : 0 ≤ Lc ∧ Lc ≤ 18) (pch : PCH p n (cfF (mvC p c F) n) fK dK Lc) (clo : CLO p n (cfF (mvC p c F) n) fK dK Lc) (m : Md (MCl 239 90 (301 + 6 * c)) S S') (gw : GW S' 239 90) (mw : MW S' 90) (hw : HW S' (239 + 1)) (pw' : PW S' (301 + 6 * c)) (pr' : PR S' (301 + 6 * c)) (al' : ALB S' 239) (o : ∀ i, i ≠ 1 → i ≠ 2 → zG S' (301 + 6 * c) i = zG S (301 + 6 * c) i) (b1 : zG S' (301 + 6 * c) 1 = 1) (rk' : RK S' (301 + 6 * c) n p (cfF (mvC p c F) n) Lc fK dK) : CLS S' v u p n g F Δ := by
  obtain ⟨cp, co, cu, pl, al⟩ := cl
  have vu := cp.2.2.2.2.1
  have hc0 := (pl c hc.1 h7).2.2.1
  have nl : ∀ x, ((1 ≤ x ∧ x ≤ 89) ∨ (141 ≤ x ∧ x ≤ 238) ∨ (301 ≤ x ∧ (x < 301 + 6 * c ∨ 301 + 6 * c + 5 < x))) → ¬ MCl 239 90 (301 + 6 * c) x := fun x hx => by
    unfold MCl
    omega
  refine ⟨cp.keep m (nl _ (by omega)) (nl _ (by omega)) (nl _ (by omega)) (nl _ (by omega)), ?_, CUR.keep cu m (fun x x0 x1 => nl x (by omega)), fun e e0 e1 => ?_, al'⟩
  · clear cu pl al cp rk' al' pch clo
    obtain ⟨a1, a2, a3, a4, a5, a6, a7, a8, a9, a10, a11, a12, a13⟩ := co
    exact ⟨a1.keep m (fun i _ => m.G (nl _ (by omega)) i) (nl _ (by omega)), a2.keep m (fun x x0 x1 => nl x (by omega)), a3.keep m (fun x x0 x1 => nl x (by omega)), a4.keep m (fun x x0 x1 => nl x (by omega)), a5.keep m (fun x x0 x1 => nl x (by omega)), a6.keep m (fun x x0 x1 => nl x (by omega)), mw, a8.keep m (fun x x0 x1 => nl x (by omega)), gw, hw, fun e e0 e1 => by
      by_cases w : e = c
      · rw [w]
        exact pw'
      · exact (a11 e e0 e1).keep m (nl _ (by omega)), fun s s0 s1 => (a12 s s0 s1).keep m (fun x x0 x1 => nl x (by omega)), fun k k0 k1 => (a13 k k0 k1).keep m (fun x x0 x1 => nl x (by omega))⟩
  · by_cases w : e = c
    · rw [w]
      refine ⟨pw', pr', by rw [o _ (by omega) (by omega)]; exact hc0, Or.inr b1, fun _ => ⟨n0, hc.2, Lc, fK, dK, L0, pch, clo, rk'⟩⟩
    · exact plc_one (by omega) pl e0 e1 m (fun x x0 x1 => nl x (by omega))
/-- THE RINGS OVER c, as a call asks for them -/
theorem s_ringC {d : Nat} {S : Hp} {v u p n g c : Int} {F Δ : Int → Int} {Q : Vl → Hp → Prop} (kn : KNO p n g F Δ) (cl : CLS S v u p n g F Δ) (n0 : n ≠ 0) (hc : 0 ≤ c ∧ c < p) (H : ∀ S' Lc fK dK, Md RGm S S' → CLS S' v u p n g F Δ → (0 ≤ Lc ∧ Lc ≤ 18) → PCH p n (cfF (mvC p c F) n) fK dK Lc → CLO p n (cfF (mvC p c F) n) fK dK Lc → RK S' (301 + 6 * c) n p (cfF (mvC p c F) n) Lc fK dK → Q (2, 301 + 6 * c) S') : Ev (d + 5) 29 [(2, 239), (2, v), (2, 301 + 6 * c)] S Q := by
  obtain ⟨-, P, q, eΔ⟩ := kn.2.2.2 n0
  have hn := CLS.n4 kn n0
  have hp := kn.1
  have h2 := hp.two
  have cl' := cl
  have p0 : 0 < p := by omega
  obtain ⟨cp, co, cu, pl, al⟩ := cl
  have vu := cp.2.2.2.2.1
  have av := ad_v vu hc h2.2
  obtain ⟨pw, pr, hc0, b01, rk⟩ := pl c hc.1 av.2.2.2.2.2.2
  obtain ⟨O, I, φ, E, J, ι, y, h, A⟩ := env_ex hp hn (cfF (mvC p c F) n)
  have hM := q.mth c
  obtain ⟨Lc, fK, dK, L0, L18, pch, clo⟩ := chain_ex h hp hn A hM
  obtain ⟨cu0, cu1, cu2⟩ := cu
  obtain ⟨cg, cF, cC, cD, cO⟩ := cu2 n0
  have hV : VW S v := by
    rcases vu with w | w
    · rw [w.1]
      exact co.2.1
    · rw [w.1]
      exact co.2.2.1
  have two : zG S (v + 13) c < 2 → Lc = 0 := fun z => Classical.byContradiction (fun ne => by
    have := q.two (pch.pre (k := 1) (by omega))
    rw [cO c hc.1 hc.2, show Δ = dsM p n (trE n P) from funext eΔ] at z
    omega)
  refine s_closed h hp hn A co.2.2.2.2.2.2.2.2.1 co.2.2.2.2.2.2.1 co.2.2.2.2.2.2.2.2.2.1 hV cu0 cu1 cC (mvC_all p0) pw pr hc0 hc al av.1 av.2.1 av.2.2.1 av.2.2.2.1 av.2.2.2.2.1 av.2.2.2.2.2.1 hM ⟨L0, L18⟩ pch clo two (fun b => ?_) (fun b S' m gw mw hw pw' pr' al' o b1 rk' => ?_)
  · have b1 : zG S (301 + 6 * c) 1 = 1 := by
      rcases b01 with w | w
      · exact absurd w b
      · exact w
    obtain ⟨-, -, Lc', fK', dK', l', p', c', r'⟩ := rk b1
    exact H S Lc' fK' dK' (Md.refl _ _) cl' l' p' c' r'
  · have c7 := av.2.2.2.2.2.2
    have m' : Md RGm S S' := m.wide (fun x hx => by clear cu2 cO cF cC cD rk rk' pch clo q eΔ; unfold MCl at hx; unfold RGm; omega)
    exact H S' Lc fK dK m' (cls_ring cl' n0 kn.n4 hc av.2.2.2.2.2.2 ⟨L0, L18⟩ pch clo m gw mw hw pw' pr' al' o b1 rk') ⟨L0, L18⟩ pch clo rk'
