/-! basis. -/
theorem djN_max {f : Int → Int → Int} : ∀ e : Nat, (∀ x : Int, 0 ≤ x → x < e → f (x / 21) (x % 21) ≠ 0 → x % 21 ≤ djN f e) ∧ (djN f e = 0 ∨ ∃ x : Int, 0 ≤ x ∧ x < e ∧ f (x / 21) (x % 21) ≠ 0 ∧ x % 21 = djN f e)
  | 0 => ⟨fun x x0 x1 _ => by omega, Or.inl rfl⟩
  | e + 1 => by
    obtain ⟨a, b⟩ := djN_max (f := f) e
    have s : djN f (e + 1) = if f ((e : Int) / 21) ((e : Int) % 21) = 0 ∨ (e : Int) % 21 ≤ djN f e then djN f e else (e : Int) % 21 := rfl
    by_cases q : f ((e : Int) / 21) ((e : Int) % 21) = 0 ∨ (e : Int) % 21 ≤ djN f e
    · rw [s, if_pos q]
      refine ⟨fun x x0 x1 h => ?_, ?_⟩
      · by_cases xe : x = e
        · rw [xe] at h ⊢
          rcases q with q | q
          · exact absurd q h
          · exact q
        · exact a x x0 (by omega) h
      · rcases b with b | ⟨x, x0, x1, x2, x3⟩
        · exact Or.inl b
        · exact Or.inr ⟨x, x0, by omega, x2, x3⟩
    · rw [s, if_neg q]
      refine ⟨fun x x0 x1 h => ?_, Or.inr ⟨e, by omega, by omega, fun w => q (Or.inl w), rfl⟩⟩
      by_cases xe : x = e
      · rw [xe]
        exact Int.le_refl _
      · have := a x x0 (by omega) h
        omega
theorem djN_is {n j v : Int} {f : Int → Int → Int} (hj : 0 ≤ j ∧ j < n) (d : isDp f j v) (tr : ∀ i m, j < i → i < n → 0 ≤ m → m ≤ 20 → f i m = 0) : djN f (21 * n).toNat = v := by
  obtain ⟨a, b⟩ := djN_max (f := f) (21 * n).toNat
  obtain ⟨d0, d1, d2, d3⟩ := d
  have bd := djN_bd (f := f) (21 * n).toNat
  have le : djN f (21 * n).toNat ≤ v := by
    rcases b with b | ⟨x, x0, x1, x2, x3⟩
    · omega
    · by_cases q : djN f (21 * n).toNat ≤ v
      · exact q
      · exfalso
        by_cases r : x / 21 ≤ j
        · exact x2 (d2 (x % 21) (by omega) (by omega) (x / 21) (by omega) r)
        · exact x2 (tr (x / 21) (x % 21) (by omega) (by omega) (by omega) (by omega))
  by_cases q : v = 0
  · omega
  · obtain ⟨i, i0, i1, i2⟩ := d3 (by omega)
    have := a (21 * i + v) (by omega) (by omega) (by rw [show (21 * i + v) / 21 = i by omega, show (21 * i + v) % 21 = v by omega]; exact i2)
    omega
theorem bsH_congr {p c : Int} {f g : Int → Int} : ∀ k : Nat, (∀ m : Int, 0 ≤ m → m < k → f m = g m) → bsH p c f k = bsH p c g k
  | 0, _ => rfl
  | k + 1, h => by
    have ih := bsH_congr (p := p) (c := c) k (fun m m0 m1 => h m m0 (by omega))
    funext x
    show (if x = 0 then ((bsH p c f k (x - 1) + (p - c) * bsH p c f k x) % p + f k) % p else (bsH p c f k (x - 1) + (p - c) * bsH p c f k x) % p) = (if x = 0 then ((bsH p c g k (x - 1) + (p - c) * bsH p c g k x) % p + g k) % p else (bsH p c g k (x - 1) + (p - c) * bsH p c g k x) % p)
    rw [ih, h k (by omega) (by omega)]
/-- the class's element of a basis is the reference's -/
theorem bs_line {p c v n j i x : Int} {f P : Int → Int} (hp : 2 ≤ p) (hc : 0 ≤ c ∧ c < p) (hv : 0 ≤ v ∧ v ≤ 20) (bf : ∀ m, 0 ≤ m → m ≤ 20 → 0 ≤ f m ∧ f m < p) (hP : ∀ e, P e = if 0 ≤ e ∧ e ≤ v then f (v - e) else 0) : shf p (p - c) 20 P x = bsH p c f (v + 1).toNat x := by
  have bP : ∀ e, 0 ≤ P e ∧ P e < p := fun e => by
    rw [hP]
    split
    · exact bf _ (by omega) (by omega)
    · omega
  have zP : ∀ e, v < e → P e = 0 := fun e he => by rw [hP, if_neg (by omega)]
  have nP : ∀ e, e < 0 → P e = 0 := fun e he => by rw [hP, if_neg (by omega)]
  rw [shf_T (T := v) (by omega) bP zP (by omega), ← bs_shf hp hv.1 bP nP zP, show p - (p - c) = c by omega]
  rw [bsH_congr (f := fun k => P (v - k)) (g := f) _ (fun m m0 m1 => by
    (try dsimp only)
    rw [hP, if_pos (by omega), show v - (v - m) = m by omega])]
theorem r_basis {d : Nat} {S : Hp} {D s c k j : Int} (hD : 485 ≤ D) (R : Rel S D) : TW (d + 20) 119 253 [(0, s), (0, c), (0, k), (0, j)] S D := by
  obtain ⟨v, u, p, n, g, F, Δ, kn, cl, md, re⟩ := R
  have id0 := rel_id kn cl md re
  have h2 := kn.1.two
  have n4 := kn.n4
  unfold TW
  apply w_Crc_basis_0
  rw [cl.1.a1, cl.c1]
  refine ⟨cl.1.1, cl.vw.1, fun n0 => s_isShelf ⟨_, rfl, fun z => ?_, fun z => ⟨cl.1.1, ?_⟩⟩, fun n0 => ?_⟩
  · have z' := i0 z
    exact ⟨_, rfl, id0.1, m_basis (md.mc n0) (fun w => absurd w n0) (fun _ _ => ⟨rfl, id0⟩) (fun _ s0 => absurd s0 z')⟩
  · have hs : 0 ≤ s ∧ s < 6 := i1 z
    have hn := CLS.n4 kn n0
    refine s_isRing kn cl n0 (fun hb => ⟨_, rfl, fun _ => ?_, fun z => absurd rfl z⟩) (fun hc k0 S1 Lc fK dK m1 cl1 L0 pch clo rk => ⟨_, rfl, fun z2 => ?_, fun z2 => ?_⟩)
    · refine ⟨_, rfl, id0.1, m_basis (md.mc n0) (fun w => absurd w n0) (fun _ _ => ⟨rfl, id0⟩) (fun _ _ c0 S2 L fK dK o mc r => ⟨fun _ => ⟨rfl, rel_op hD kn cl md re n0 o mc⟩, fun w => by omega⟩)⟩
    · obtain ⟨mi1, md1, re1⟩ := cls_run hD kn cl md re m1
      have z2' := i0 z2
      refine ⟨_, rfl, mi1, m_basis (md1.mc n0) (fun w => absurd w n0) (fun _ w => absurd ⟨hs, hc⟩ w) (fun _ _ _ S2 L fK' dK' o mc r => ⟨fun _ => ⟨rfl, rel_op hD kn cl1 md1 re1 n0 o mc⟩, fun w => ?_⟩)⟩
      rw [(ring_eq kn n0 L0 pch clo r).1] at w
      omega
    · have k1 : k ≤ Lc := i1 z2
      obtain ⟨mi1, md1, re1⟩ := cls_run hD kn cl md re m1
      have c7 := kn.p7 hc.2
      refine ⟨cl1.1.1, s_isPow cl1 ⟨_, rfl, fun z3 => ?_, fun z3 => ?_⟩⟩
      · have hj : 0 ≤ j ∧ j < n := i1 z3
        have rd := (rk.2.1 k k0 k1).1
        have q7 : QW S1 70 128 := cl1.2.1.2.2.2.2.1
        have q8 : QW S1 80 128 := cl1.2.1.2.2.2.2.2.1
        have pw := cl1.pw hc.1 c7
        rw [cl1.1.a5, cl1.1.a9, cl1.1.p5 c hc.1 c7, q7.2.1]
        refine ⟨cl1.1.1, cl1.1.1, ⟨cl1.1.k67.1, hc.1, by rw [cl1.1.k67.2]; exact c7⟩, cl1.1.1, q7.1, pw.1, s_unfold pw (cl1.pr hc.1 c7) ⟨k0, by omega⟩ ⟨hj.1, by omega⟩ h2 (fun i m i0 i1 => rd.2.2.2.1 j i m hj.1 (by omega) i0 i1) q7.2.2 (by omega) (by omega) (fun S2 w dp m2 lan => ⟨_, rfl, ?_⟩)⟩
        have nMA : ∀ x, x ≤ 71 ∨ 80 ≤ x → ¬ MA (70 + 1) 4 x := fun x hx => by
          unfold MA
          omega
        have k2 : zK S2 70 = 8 := by
          rw [m2.K]
          exact q7.1
        refine ⟨k2, ?_⟩
        rintro _ rfl
        have M3 := Md.zS S2 70 1 w
        have cp2 : CP S2 v u := cl1.1.keep m2 (nMA _ (by omega)) (nMA _ (by omega)) (nMA _ (by omega)) (nMA _ (by omega))
        have cp3 : CP (zS S2 70 1 w) v u := cp2.keep M3 (by omega) (by omega) (by omega) (by omega)
        rw [cp3.a9]
        refine ⟨cp3.1, by rw [M3.K]; exact k2, ?_⟩
        rintro _ rfl
        have M4 := Md.zS (zS S2 70 1 w) 70 2 c
        have f0 : zG (zS (zS S2 70 1 w) 70 2 c) 70 0 = 70 + 1 := by
          rw [zG_zS_ne _ (Or.inr (by omega)), zG_zS_ne _ (Or.inr (by omega)), m2.G (nMA _ (by omega))]
          exact q7.2.1
        have f1 : zG (zS (zS S2 70 1 w) 70 2 c) 70 1 = w := by rw [zG_zS_ne _ (Or.inr (by omega)), zG_zS_at]
        have f2 : zG (zS (zS S2 70 1 w) 70 2 c) 70 2 = c := zG_zS_at _ _ _ _
        generalize zS (zS S2 70 1 w) 70 2 c = S4 at M4 f0 f1 f2 ⊢
        have m14 : Md (fun x => 70 ≤ x ∧ x ≤ 79) S1 S4 := (m2.wide (fun x hx => by unfold MA at hx; omega)).tr ((M3.wide (fun x hx => by omega)).tr (M4.wide (fun x hx => by omega)))
        have lan4 := (lan.keep M3 (fun x x0 x1 => by omega) (by omega)).keep M4 (fun x x0 x1 => by omega) (by omega)
        have qn : QN S4 70 128 p w c (fun i e => if 0 ≤ i ∧ i ≤ j ∧ 0 ≤ e ∧ e ≤ w then figS S1 (301 + 6 * c) k j i (w - e) else 0) := ⟨by rw [m14.K]; exact q7.1, f0, f1, f2, lan4⟩
        have w20 : 0 ≤ w ∧ w ≤ 20 := ⟨dp.1, dp.2.1⟩
        have bq : ∀ i m, 0 ≤ i → i < 4 → 0 ≤ figS S1 (301 + 6 * c) k j i m ∧ figS S1 (301 + 6 * c) k j i m < p := fun i m i0 i1 => ⟨(figS_bd _ _ _ _ _ _).1, rd.2.2.2.1 j i m hj.1 (by omega) i0 i1⟩
        have top : ∀ i e, 20 < e → (if 0 ≤ i ∧ i ≤ j ∧ 0 ≤ e ∧ e ≤ w then figS S1 (301 + 6 * c) k j i (w - e) else 0) = 0 := fun i e he => if_neg (by omega)
        generalize hU : (fun i e => if 0 ≤ i ∧ i ≤ j ∧ 0 ≤ e ∧ e ≤ w then figS S1 (301 + 6 * c) k j i (w - e) else 0) = U at *
        have Ue : ∀ i e, U i e = if 0 ≤ i ∧ i ≤ j ∧ 0 ≤ e ∧ e ≤ w then figS S1 (301 + 6 * c) k j i (w - e) else 0 := fun i e => by rw [← hU]
        have bU : ∀ i e, 0 ≤ U i e ∧ U i e < p := fun i e => by
          rw [Ue]
          split
          · exact bq _ _ (by omega) (by omega)
          · omega
        have tU : ∀ i e, 20 < e → U i e = 0 := fun i e he => by rw [Ue, if_neg (by omega)]
        have nU : ∀ i e, e < 0 → U i e = 0 := fun i e he => by rw [Ue, if_neg (by omega)]
        have vu := cl.1.2.2.2.2.1
        refine loopU (P := fun i S' => At (d + 19 + 1) 119 c119_77 [(0, (2, 1)), (1, (0, s)), (2, (0, c)), (5, (0, i))] [] S' (fun r S1 => ∃ x, r = (0, x) ∧ MID S S1 D ∧ Ev (d + 20) 253 [(2, D), (0, s), (0, c), (0, k), (0, j)] S1 (fun r' S2 => r' = (0, x) ∧ MID S1 S2 D ∧ Rel S2 D))) (I := fun i S' => 0 ≤ i ∧ Md (fun x => 70 ≤ x ∧ x ≤ 79) S1 S' ∧ QN S' 70 128 p w c (fun l x => if l < i then shf p (p - c) 20 (U l) x else U l x)) 4 ?_ ?_ 0 S4 (by omega) ⟨by omega, m14, qn.congr (fun l l0 l1 x => by rw [if_neg (by omega)])⟩
        · rintro i S5 hi ⟨h0, m5, q5⟩ next
          have cp5 : CP S5 v u := cl1.1.keep m5 (by omega) (by omega) (by omega) (by omega)
          have cv5 : zK S5 v = 2 ∧ zG S5 v 0 = p := by
            rw [m5.K, m5.G (by omega)]
            exact ⟨cl1.vw.1, cl1.c0⟩
          have la := q5.2.2.2.2
          have ln := la.at h0 hi
          rw [show (fun x => if i < i then shf p (p - c) 20 (U i) x else U i x) = U i from funext fun x => if_neg (by omega)] at ln
          apply w_Crc_basis_77
          rw [cp5.a9, cp5.a1, q5.2.1, cv5.2, la.ptr h0 hi, w32_id (by omega) (by omega)]
          refine ⟨fun w => by omega, fun _ => ⟨cp5.1, q5.1, ⟨la.1, h0, by rw [la.2.1]; exact hi⟩, cp5.1, cv5.1, cp5.1, cv5.1, ln.ln.1, n_shift 20 ln (by omega) ⟨by omega, by omega⟩ (fun e he => tU i e he) (by omega) (fun S6 m6 l6 => ⟨rfl, ?_⟩)⟩⟩
          rintro _ rfl
          rw [w32_id (by omega) (by omega)]
          refine next S6 ⟨by omega, m5.tr (m6.wide (fun x hx => by unfold ML at hx; omega)), q5.line h0 hi m6 l6 (fun l l0 l1 x => ?_)⟩
          by_cases e : l = i
          · rw [if_pos e, if_pos (show l < i + 1 by omega), e]
          · rw [if_neg e]
            by_cases q : l < i
            · rw [if_pos q, if_pos (by omega)]
            · rw [if_neg q, if_neg (by omega)]
        · rintro S5 ⟨-, m5, q5⟩
          have q5' : QN S5 70 128 p w c (fun l => if 0 ≤ l ∧ l < n then shf p (p - c) 20 (U l) else fun _ => 0) := q5.congr (fun l l0 l1 x => by
            rw [if_pos l1]
            by_cases q : l < n
            · rw [if_pos ⟨l0, q⟩]
            · rw [if_neg (fun w => q w.2)]
              exact shf_zero (by omega) (fun e => by rw [Ue, if_neg (by omega)]) x)
          obtain ⟨cl5, md5, re5, mi5⟩ := st_q hD kn cl1 md1 re1 (m5.wide (fun x hx => by omega)) q5'.w (q8.keep m5 (fun x x0 x1 => by omega)) (cl1.mw.keep m5 (fun x x0 x1 => by omega))
          apply w_Crc_basis_77
          refine ⟨fun _ => ⟨cl5.1.1, s_storeB hD kn cl5 md5 re5 hs n0 q5' hc (by omega) (fun l l0 l1 x hx => ?_) (fun l x => ?_) (fun l x hx => ?_) (fun l x hl => ?_) (fun x S6 m6 mi6 st => ⟨_, rfl, _, rfl, mid_tr (mid_tr mi1 mi5) mi6, ?_⟩)⟩, fun w => absurd (Int.le_refl _) w⟩
          · by_cases q : 0 ≤ l ∧ l < n
            · rw [if_pos q]
              exact mvN_top (fun e he => tU l e he) _ x (by omega) (by omega)
            · rw [if_neg q]
          · by_cases q : 0 ≤ l ∧ l < n
            · rw [if_pos q]
              exact mvN_bd (by omega) (bU l) _ x
            · rw [if_neg q]
              exact ⟨Int.le_refl 0, by show (0 : Int) < p; omega⟩
          · by_cases q : 0 ≤ l ∧ l < n
            · rw [if_pos q]
              exact mvN_neg (nU l) _ x hx
            · rw [if_neg q]
          · rw [if_neg (by omega)]
          · have mc6 : MC S6 D p n F := (md5.far m6 (fun x x0 => by omega)).mc n0
            refine m_basis mc6 (fun w => absurd w n0) (fun _ w => absurd ⟨hs, hc⟩ w) (fun _ _ _ S7 L fK' dK' o mc r => ⟨fun w => ?_, fun _ _ => ?_⟩)
            · have e := ring_eq kn n0 L0 pch clo r
              rw [e.1] at w
              exact absurd ⟨⟨k0, k1⟩, hj⟩ w
            · have e := ring_eq kn n0 L0 pch clo r
              obtain ⟨-, PP, cq, -⟩ := kn.2.2.2 n0
              obtain ⟨O, I, φ, E, J, ι, y, h, A⟩ := env_ex kn.1 hn (cfF (mvC p c F) n)
              have vk := chain_rst h kn.1 hn A (by omega) pch k.toNat (by omega)
              rw [show ((k.toNat : Nat) : Int) = k by omega] at vk
              have ff : ∀ i m, 0 ≤ i → i < 4 → 0 ≤ m → m ≤ 20 → fK' k j i m = figS S1 (301 + 6 * c) k j i m := fun i m i0 i1 m0 m1 => by
                rw [(e.2 k k0 k1).1.1 j i m hj.1 hj.2 i0 i1 m0 m1, rd.1 j i m hj.1 hj.2 i0 i1 m0 m1]
              have tr : ∀ i m, j < i → i < n → 0 ≤ m → m ≤ 20 → fK' k j i m = 0 := fun i m ij hin m0 m1 => by
                rw [(e.2 k k0 k1).1.1 j i m hj.1 hj.2 (by omega) (by omega) m0 m1]
                exact vk.2.2.2.2.2.2.1 j i m hj.1 hj.2 ij (by omega) m0 m1
              have dv : djN (fK' k j) (21 * n).toNat = w := djN_is hj ⟨dp.1, dp.2.1, fun m m0 m1 i i0 i1 => by rw [ff i m i0 (by omega) (by omega) m1]; exact dp.2.2.1 m m0 m1 i i0 i1, fun w1 => by
                obtain ⟨i, i0, i1, i2⟩ := dp.2.2.2 w1
                exact ⟨i, i0, i1, by rw [ff i w i0 (by omega) (by omega) w20.2]; exact i2⟩⟩ tr
              rw [dv]
              refine stP_congr (fun l l0 l4 x => ?_) (st S7 o mc)
              unfold bsW
              by_cases q : 0 ≤ l ∧ l < n
              · rw [if_pos q, if_pos q]
                refine bs_line (n := n) (j := j) (i := l) h2.1 hc w20 (fun m m0 m1 => ?_) (fun e' => ?_)
                · rw [ff l m l0 l4 m0 m1]
                  exact bq l m l0 l4
                · rw [Ue]
                  by_cases q2 : 0 ≤ e' ∧ e' ≤ w
                  · rw [if_pos q2]
                    by_cases q3 : l ≤ j
                    · rw [if_pos ⟨l0, q3, q2⟩, ff l _ l0 l4 (by omega) (by omega)]
                    · rw [if_neg (fun w => q3 w.2.1), tr l _ (by omega) q.2 (by omega) (by omega)]
                  · rw [if_neg q2, if_neg (fun w => q2 w.2.2)]
              · rw [if_neg q, if_neg q]
      · have z3' := i2 z3
        refine ⟨_, rfl, mi1, m_basis (md1.mc n0) (fun w => absurd w n0) (fun _ w => absurd ⟨hs, hc⟩ w) (fun _ _ _ S2 L fK' dK' o mc r => ⟨fun _ => ⟨rfl, rel_op hD kn cl1 md1 re1 n0 o mc⟩, fun _ w => absurd w z3'⟩)⟩
  · have z' := Classical.not_not.mp n0
    refine ⟨_, rfl, id0.1, ?_⟩
    apply w_Model_basis_0
    exact ⟨md.1.1, fun q => absurd (md.2.2.1.trans z') q, fun _ => ⟨rfl, id0⟩⟩
