/-! Curve, fourth part: DISC and the orders worked out. -/
/-- DISC out of the minors -/
def dscF (p n : Int) (G : Int → Int → Int) : Int → Int := fun x => ((if n % 2 = 0 then 1 else -1) * G (zSt (p2 n - 1)) x) % p
def MVAX (V A X : Int) : Int → Prop := fun x => MV V x ∨ (A ≤ x ∧ x ≤ A + 50) ∨ (X ≤ x ∧ x ≤ X + 97)
set_option maxHeartbeats 2000000 in
theorem s_cworkOut {d : Nat} {V A X n p : Int} {S : Hp} {C : Int → Int → Int} {Q : Vl → Hp → Prop} (h : VW S V) (h0 : zG S V 0 = p) (h1 : zG S V 1 = n) (hp : 2 ≤ p ∧ p ≤ 7) (hn : 2 ≤ n ∧ n ≤ 4) (hC : LAN S (V + 2) 4 (fun _ => 7) p C) (hCd : ∀ i, 1 ≤ i → i ≤ n → ∀ x, (7 - n) * i < x → C (n - i) x = 0) (hA : MW S A) (hX : XW S X) (d1 : V + 14 < A ∨ A + 50 < V) (d2 : V + 14 < X ∨ X + 97 < V) (d3 : A + 50 < X ∨ X + 97 < A)
    (H : ∀ S' P G, Md (MVAX V A X) S S' → VW S' V → MW S' A → XW S' X → (∀ k, 0 ≤ k → k < 3 → zG S' V k = zG S V k) → (∀ e, zG S' (V + 1) e = zG S (V + 1) e) → LAN S' (V + 2) 4 (fun _ => 7) p C → NW p n C P → MN p n (fun e => P (e / 4 + e % 4)) G → LN S' (V + 11) 64 p (dscF p n G) → (∀ x, 36 < x → dscF p n G x = 0) → ((∃ i, dscF p n G i ≠ 0) → ∀ c, 0 ≤ c → c < p → zG S' (V + 13) c = rtN p c 199 200 (dscF p n G)) → Q (3, 0) S') : Ev (d + 3) 22 [(2, V), (2, A), (2, X)] S Q := by
  obtain ⟨a1, a2, a3, a4⟩ := p2_top hn
  obtain ⟨z1, z2, z3, z4, -⟩ := sz_st a1 a2
  apply w_Curve_workOut_0
  rw [h.2.2.1, h0, h1]
  refine ⟨h.1, h.1, h.1, hA.1, s_use (cf := V + 2) (n := n) (p := p) hA (fun S1 m1 w1 u1 => ⟨rfl, w1.1, ?_⟩)⟩
  have c1 := hC.keep m1 (fun x x1 x2 => by omega) (by omega)
  refine s_traces w1 u1 hn hp c1 (by omega) (fun S2 P m2 w2 hNW hPd hPl => ⟨rfl, w2.1, ?_⟩)
  have mm2 : Md (fun x => A ≤ x ∧ x ≤ A + 50) S S2 := (m1.wide (fun x hx => by omega)).tr (m2.wide (fun x hx => by unfold MM at hx; omega))
  have v2 : VW S2 V := h.keep mm2 (fun x x1 x2 => by omega)
  have x2 : XW S2 X := hX.keep mm2 (fun x x1 x2 => by omega)
  have k0 : ∀ k, zG S2 V k = zG S V k := fun k => mm2.G (by omega) k
  rw [w2.2.1, k0 1, k0 0, h0, h1]
  refine ⟨v2.1, v2.1, x2.1, ?_⟩
  have hxr : XR S2 (A + 1) n p (fun e => P (e / 4 + e % 4)) := ⟨w2.2.2.2.2.1.1, w2.2.2.2.2.1.2.1, fun i j i0 i1 j0 j1 => ⟨w2.2.2.2.2.1.ptr (by omega) (by omega), by (try dsimp only); rw [show (4 * i + j) / 4 + (4 * i + j) % 4 = i + j by omega]; exact hPl i j i0 i1 j0 j1, fun x hx => by (try dsimp only); rw [show (4 * i + j) / 4 + (4 * i + j) % 4 = i + j by omega]; exact hPd (i + j) x (by omega) (by omega) (by omega)⟩⟩
  refine s_workOut x2 hn hp hxr (by omega) (fun S3 G m3 x3 n3 p3 hMN hGl => ⟨rfl, ?_⟩)
  have hPd2 := hNW.deg (w := 7 - n) (by omega) hCd
  have hGd := hMN.deg (w := 7 - n) hn (by omega) (fun i j i0 i1 j0 j1 x hx => by (try dsimp only); rw [show (4 * i + j) / 4 + (4 * i + j) % 4 = i + j by omega]; exact hPd2 (i + j) (by omega) (by omega) x hx)
  have hG36 : ∀ x, 36 < x → G (zSt (p2 n - 1)) x = 0 := by
    intro x hx
    have := hGd (p2 n - 1) a1 (by omega) 0 (by omega) (by omega) x (by
      rcases (show n = 2 ∨ n = 3 ∨ n = 4 by omega) with rfl | rfl | rfl
      · rw [show rwS (p2 2 - 1) = 2 by decide]; omega
      · rw [show rwS (p2 3 - 1) = 6 by decide]; omega
      · rw [show rwS (p2 4 - 1) = 12 by decide]; omega)
    rwa [Int.add_zero] at this
  have hGL := (hGl (p2 n - 1) a1 (by omega) 0 (by omega) (by omega)).1
  rw [Int.add_zero] at hGL
  have hGb := hGL.bd
  have mm3 : Md (fun x => (A ≤ x ∧ x ≤ A + 50) ∨ (X ≤ x ∧ x ≤ X + 97)) S S3 := (mm2.trans m3).wide (fun x hx => by unfold MX at hx; omega)
  have v3 : VW S3 V := h.keep mm3 (fun x x1 x2 => by omega)
  have kk3 : ∀ k, zG S3 V k = zG S V k := fun k => mm3.G (by omega) k
  rw [v3.2.2.2.1]
  refine ⟨v3.1, v3.2.2.2.2.2.2.2.2.1.ln.1, n_zero (p := p) v3.2.2.2.2.2.2.2.2.1 (by omega) (fun S4 m4 l4 => ⟨rfl, ?_⟩)⟩
  have n4 : ∀ y, y ≠ V + 11 → y ≠ V + 12 → ¬ ML (V + 11) y := fun y h1 h2 => by unfold ML; omega
  have vset : ∀ {S5 : Hp}, Md (ML (V + 11)) S3 S5 → LW S5 (V + 11) 64 → VW S5 V := fun m6 l6 => ⟨by rw [m6.K]; exact v3.1, by rw [m6.G (n4 _ (by omega) (by omega))]; exact v3.2.1, by rw [m6.G (n4 _ (by omega) (by omega))]; exact v3.2.2.1, by rw [m6.G (n4 _ (by omega) (by omega))]; exact v3.2.2.2.1, by rw [m6.G (n4 _ (by omega) (by omega))]; exact v3.2.2.2.2.1, by rw [m6.G (n4 _ (by omega) (by omega))]; exact v3.2.2.2.2.2.1, v3.2.2.2.2.2.2.1.keep m6, v3.2.2.2.2.2.2.2.1.keep m6 (fun x x1 x2 => n4 x (by omega) (by omega)) (by omega), l6, v3.2.2.2.2.2.2.2.2.2.1.keep m6, v3.2.2.2.2.2.2.2.2.2.2.keep m6⟩
  have v4 := vset m4 l4.w
  have x4 : XW S4 X := x3.keep m4 (fun x x1 x2 => n4 x (by omega) (by omega))
  have g4 : ∀ k, zG S4 V k = zG S V k := fun k => by rw [m4.G (n4 _ (by omega) (by omega))]; exact kk3 k
  have q4 : zG S4 X 1 = n := by rw [m4.G (n4 _ (by omega) (by omega))]; exact n3
  refine ⟨v4.1, x4.1, s_ofPower x4 q4 hn (by omega) ⟨_, rfl, v4.1, by omega, ?_⟩⟩
  rw [g4 1, h1, tm_nn (by omega), v4.2.2.2.1]
  rintro _ rfl
  have hsg : (if ¬ n % 2 = 0 then (-1 : Int) else 1) = if n % 2 = 0 then 1 else -1 := by
    by_cases q : n % 2 = 0
    · rw [if_neg (fun z => z q), if_pos q]
    · rw [if_pos q, if_neg q]
  rw [hsg]
  have hGL4 : LN S4 (adP X n 0) (rmM (zSt (p2 n - 1))) p (G (zSt (p2 n - 1))) := by
    have := hGL.keep m4 (n4 _ (by omega) (by omega)) (n4 _ (by omega) (by omega))
    unfold adP
    rw [Int.add_zero]
    exact this
  obtain ⟨u, u1', u2', u3'⟩ := hGL4.deg hG36 (by omega)
  obtain ⟨t, t1, -, -⟩ := l4
  have hsx : ∀ x : Int, (if n % 2 = 0 then (1 : Int) else -1) * x = x ∨ (if n % 2 = 0 then (1 : Int) else -1) * x = -x := fun x => by
    split
    · exact Or.inl (Int.one_mul x)
    · exact Or.inr (by omega)
  refine ⟨t1.1.1, s_add (n := 64) t1 u1' (by unfold adP; omega) (fun i => by have := hGb i; have := hsx (G (zSt (p2 n - 1)) i); omega) (fun i => by omega) (by omega) (by omega) (fun S5 m5 l5 => ⟨rfl, ?_⟩)⟩
  have v5 := vset (m4.tr m5) ⟨_, _, l5⟩
  have g5 : ∀ k, zG S5 V k = zG S V k := fun k => by rw [m5.G (n4 _ (by omega) (by omega))]; exact g4 k
  rw [v5.2.2.2.1, g5 0, h0]
  refine ⟨v5.1, v5.1, l5.1.1, n_settle l5 (by omega) (fun S6 m6 l6 => ⟨rfl, ?_⟩)⟩
  have l6 : LN S6 (V + 11) 64 p (dscF p n G) := l6.congr fun x => by
    unfold dscF
    (try dsimp only)
    by_cases hx : x < 0
    · rw [if_pos hx, hGL.neg x hx, Int.mul_zero]
    · rw [if_neg hx, show x - 0 = x by omega, Int.zero_add]
  have m46 := (m4.tr m5).tr m6
  have v6 := vset m46 l6.w
  have g6 : ∀ k, zG S6 V k = zG S V k := fun k => by rw [m46.G (n4 _ (by omega) (by omega))]; exact kk3 k
  have a6 : MW S6 A := (w2.keep m3 (fun x x1 x2 => by unfold MX; omega)).keep m46 (fun x x1 x2 => n4 x (by omega) (by omega))
  have x6 : XW S6 X := x3.keep m46 (fun x x1 x2 => n4 x (by omega) (by omega))
  have mm6 : Md (MVAX V A X) S S6 := (mm3.trans m46).wide (fun x hx => by unfold ML at hx; unfold MVAX MV; omega)
  have c6 : LAN S6 (V + 2) 4 (fun _ => 7) p C := (hC.keep mm3 (fun x x1 x2 => by omega) (by omega)).keep m46 (fun x x1 x2 => n4 x (by omega) (by omega)) (by omega)
  have f6 : ∀ e, zG S6 (V + 1) e = zG S (V + 1) e := fun e => by rw [m46.G (n4 _ (by omega) (by omega)), mm3.G (by omega)]
  have hD36 : ∀ x, 36 < x → dscF p n G x = 0 := fun x hx => by
    unfold dscF
    rw [hG36 x hx, Int.mul_zero]
    exact Int.zero_emod p
  generalize hDD : dscF p n G = D at *
  refine loopU (P := fun c S' => At (d + 3) 22 c22_83 [(0, (2, V)), (1, (2, A)), (3, (0, c))] [] S' Q) (I := fun c S' => 0 ≤ c ∧ Md (fun x => x = V + 13 ∨ ML (A + 34) x) S6 S' ∧ LW S' (A + 34) 64 ∧ ((∃ i, D i ≠ 0) → ∀ e, 0 ≤ e → e < c → zG S' (V + 13) e = rtN p e 199 200 D)) p ?_ ?_ 0 S6 (by omega) ⟨by omega, Md.refl _ _, a6.2.2.2.2.2.1, fun _ e e0 e1 => by omega⟩
  · rintro c S7 hc ⟨c0, cm, cl, co⟩ hk
    have nn : ∀ y, y ≠ V + 13 → y ≠ A + 34 → y ≠ A + 35 → ¬ (y = V + 13 ∨ ML (A + 34) y) := fun y h1 h2 h3 => by unfold ML; omega
    have v7 : VW S7 V := v6.keep cm (fun x x1 x2 => nn x (by omega) (by omega) (by omega))
    have g7 : ∀ k, zG S7 V k = zG S V k := fun k => by rw [cm.G (nn _ (by omega) (by omega) (by omega))]; exact g6 k
    have ga : zG S7 A 1 = A + 34 := by rw [cm.G (nn _ (by omega) (by omega) (by omega))]; exact a6.2.2.1
    apply w_Curve_workOut_83
    rw [g7 0, h0, ga, v7.2.2.2.2.1]
    refine ⟨v7.1, fun hq => by omega, fun _ => ⟨v7.1, by rw [cm.K]; exact a6.1, v7.1, ?_⟩⟩
    refine s_rootsOfDisc (D := D) (T := 199) v7 (by rw [g7 0]; exact h0) hp ⟨c0, hc⟩ (l6.keep cm (nn _ (by omega) (by omega) (by omega)) (nn _ (by omega) (by omega) (by omega))) cl (by omega) (by omega) (fun S8 v m8 l8 b1 b2 e8 => ⟨_, rfl, ⟨by rw [m8.K]; exact v7.2.2.2.2.2.2.2.2.2.1.1, c0, by rw [m8.L, v7.2.2.2.2.2.2.2.2.2.1.2]; omega⟩, ?_⟩)
    rintro _ rfl _ rfl
    rw [w32_id (by omega) (by omega)]
    refine hk _ ⟨by omega, (cm.tr (m8.wide (fun x hx => Or.inr hx))).tr ((Md.zS _ _ _ _).wide (fun x hx => Or.inl hx)), l8.keep (Md.zS _ _ _ _) (by omega) (by omega), fun hnz e e0 e1 => ?_⟩
    by_cases q : e = c
    · rw [q, zG_zS_at]
      exact e8 hnz
    · rw [zG_zS_ne _ (Or.inr q), m8.G (by unfold ML; omega)]
      exact co hnz e e0 (by omega)
  · rintro S7 ⟨c0, cm, cl, co⟩
    have nn : ∀ y, y ≠ V + 13 → y ≠ A + 34 → y ≠ A + 35 → ¬ (y = V + 13 ∨ ML (A + 34) y) := fun y h1 h2 h3 => by unfold ML; omega
    have v7 : VW S7 V := v6.keep cm (fun x x1 x2 => nn x (by omega) (by omega) (by omega))
    have g7 : ∀ k, zG S7 V k = zG S V k := fun k => by rw [cm.G (nn _ (by omega) (by omega) (by omega))]; exact g6 k
    have a7 : MW S7 A := ⟨by rw [cm.K]; exact a6.1, by rw [cm.G (nn _ (by omega) (by omega) (by omega))]; exact a6.2.1, by rw [cm.G (nn _ (by omega) (by omega) (by omega))]; exact a6.2.2.1, by rw [cm.G (nn _ (by omega) (by omega) (by omega))]; exact a6.2.2.2.1, a6.2.2.2.2.1.keep cm (fun x x1 x2 => nn x (by omega) (by omega) (by omega)) (by omega), cl, a6.2.2.2.2.2.2.keep cm (fun x x1 x2 => nn x (by omega) (by omega) (by omega)) (by omega)⟩
    have x7 : XW S7 X := x6.keep cm (fun x x1 x2 => nn x (by omega) (by omega) (by omega))
    apply w_Curve_workOut_83
    rw [g7 0, h0]
    refine ⟨v7.1, fun _ => H S7 P G ?_ v7 a7 x7 (fun k _ _ => g7 k) (fun e => by rw [cm.G (nn _ (by omega) (by omega) (by omega))]; exact f6 e) (c6.keep cm (fun x x1 x2 => nn x (by omega) (by omega) (by omega)) (by omega)) hNW hMN ?_ ?_ ?_, fun hq => absurd (by omega) hq⟩
    · exact mm6.tr (cm.wide (fun x hx => by unfold ML at hx; unfold MVAX MV; omega))
    · rw [hDD]
      exact l6.keep cm (nn _ (by omega) (by omega) (by omega)) (nn _ (by omega) (by omega) (by omega))
    · rw [hDD]
      exact hD36
    · rw [hDD]
      exact co
