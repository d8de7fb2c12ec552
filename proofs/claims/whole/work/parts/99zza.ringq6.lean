/-! The model: the class of a line, branches. -/
theorem lnE_bd {p v : Int} (h2 : 2 ≤ p) (hv : 0 ≤ v ∧ v < p) (i x : Int) : 0 ≤ lnE p v i x ∧ lnE p v i x < p := by
  unfold lnE
  split
  · omega
  · split
    · split <;> omega
    · omega
theorem lnE_z {p v i x : Int} (hx : x < 0 ∨ 75 < x) : lnE p v i x = 0 := by
  unfold lnE
  rw [if_neg (by omega), if_neg (by omega)]
theorem m_classOfLine {d : Nat} {D p n c L v : Int} {S : Hp} {F : Int → Int} {fK : Int → Int → Int → Int → Int} {dK : Int → Int → Int} {Q : Vl → Hp → Prop} (mc : MC S D p n F) (n0 : n ≠ 0) (hc : 0 ≤ c ∧ c < p) (r : RG S D c p n (cfF (mvC p c F) n) L fK dK) (hv : 0 ≤ v ∧ v < p) (H : ∀ S', Md (fun x => x = D + 34 ∨ x = D + 35) S S' → Q (0, lnC p n (fK L) (dK L) v) S') : Ev (d + 3) 243 [(2, D), (0, v)] S Q := by
  have hn : 2 ≤ n ∧ n ≤ 4 := by have := mc.2.2.2.2.1; omega
  have h2 := isPr_b mc.2.2.1
  have L0 := r.2.2.1
  obtain ⟨k9, hr, -⟩ := RG.m mc n0 hc r ⟨L0, Int.le_refl L⟩
  have rb := r.b ⟨L0, Int.le_refl L⟩
  have ok := RG.ln mc n0 hc r ⟨L0, Int.le_refl L⟩ hv
  have h := mc.1
  have lb : ∀ i x, 0 ≤ lnE p v i x ∧ lnE p v i x < p := lnE_bd h2.1 hv
  apply w_Model_classOfLine_0
  rw [h.x_lau.1]
  refine ⟨h.1, h.1, m_zeroB (w := 96) (n := 7) (p := p) h.x_lau.2.1 (h.x_lau.2.2.trans (by decide)) (by omega) (by omega) (by omega) (by omega) (fun S1 m1 b1 => ⟨rfl, ?_⟩)⟩
  have w1 : DW S1 D := h.md m1 (by omega)
  rw [w1.x_lau.1, w1.x_lau.2.1, w1.x_lau.2.2]
  refine ⟨w1.1, ⟨rfl, by omega, by omega⟩, ?_⟩
  rintro _ rfl
  have w2 : DW (zS S1 (D + 34) 136 1) D := w1.zSr (by omega)
  rw [zG_zS_ne _ (Or.inl (by omega)), (m1.G (a := D) (by omega) 0).trans mc.2.1, w2.x_lau.1, w2.x_lau.2.1, w2.x_lau.2.2, w32_id (x := p - v) (by omega) (by omega)]
  refine ⟨w2.1, fun _ => w2.1, ?_⟩
  rintro _ rfl
  refine ⟨⟨rfl, by omega, by omega⟩, ?_⟩
  rintro _ rfl
  generalize hx : (if ¬ v = 0 then p - v else 0) = x3
  have w3 : DW (zS (zS S1 (D + 34) 136 1) (D + 34) 40 x3) D := w2.zSr (by omega)
  have M3 : Md (fun x => x = D + 34) S (zS (zS S1 (D + 34) 136 1) (D + 34) 40 x3) := (m1.tr (Md.zS _ _ _ _)).tr (Md.zS _ _ _ _)
  have b3 : BR (zS (zS S1 (D + 34) 136 1) (D + 34) 40 x3) (D + 34) 96 7 p (lnE p v) := by
    refine ⟨b1.1, b1.2.1, fun b i b0 b7 i0 i9 => ?_, fun b i hi => lnE_z (by omega), lb⟩
    rw [zG_zS, zG_zS]
    unfold lnE
    by_cases q : 96 * b + i = 40
    · rw [if_pos ⟨rfl, q⟩, if_neg (by omega), if_pos (by omega), ← hx]
      by_cases vz : v = 0
      · rw [if_neg (fun z => z vz), if_pos vz]
      · rw [if_pos vz, if_neg vz]
    · rw [if_neg (fun z => q z.2), if_neg (show ¬ (b = 0 ∧ i = 40) by omega)]
      by_cases q' : 96 * b + i = 136
      · rw [if_pos ⟨rfl, q'⟩, if_pos (by omega)]
      · rw [if_neg (fun z => q' z.2), if_neg (by omega)]
        exact b1.2.2.1 b i b0 b7 i0 i9
  generalize zS (zS S1 (D + 34) 136 1) (D + 34) 40 x3 = S3 at w3 M3 b3
  rw [(M3.G (a := D) (by omega) 47).trans r.2.1]
  refine ⟨w3.1, w3.1, m_isIn (Sp := lnE p v) w3 ((M3.G (by omega) 0).trans mc.2.1) h2 ((M3.G (by omega) 1).trans mc.2.2.2.1) hn (by omega) (rb.1.keep M3 (by omega) (by omega)) hr b3 (fun i x _ _ hx => lnE_z (Or.inr hx)) (fun hb => absurd ok hb) (fun _ S4 m4 c4 => ⟨_, rfl, ?_⟩)⟩
  have M4 : Md (fun x => x = D + 34 ∨ x = D + 35) S S4 := (M3.wide (fun x hx => Or.inl hx)).tr m4
  have w4 : DW S4 D := h.md M4 (by omega)
  have HH := H S4 M4
  have p4 : zG S4 D 0 = p := (M4.G (by omega) 0).trans mc.2.1
  rw [(M4.G (a := D) (by omega) 1).trans mc.2.2.2.1, w32_id (x := n - 1) (by omega) (by omega)]
  refine ⟨w4.1, ?_⟩
  rintro _ rfl
  have sb : ∀ l, 0 ≤ shN p n (dK L) (fK L) (lnE p v) l 0 ∧ shN p n (dK L) (fK L) (lnE p v) l 0 < p := fun l => shN_bd h2.1 lb l 0
  refine loopD (α := Int) (P := fun l e => At (d + 3) 243 c243_56 [(0, (2, D)), (2, (0, e)), (3, (0, l))] [] S4 Q) (I := fun l e => l < n ∧ e = cdF p (fun l => shN p n (dK L) (fK L) (lnE p v) l 0) (n - 1 - l).toNat (l + 1)) 0 ?_ ?_ (n - 1) 0 (by omega) ⟨by omega, by rw [show (n - 1 - (n - 1)).toNat = 0 by omega]; rfl⟩
  · rintro l e l0 ⟨l1, he⟩ hk
    have eb := cdF_bd h2 sb (n - 1 - l).toNat (l + 1)
    have pb := pwI_bd h2 (n - 1 - l).toNat (by omega)
    rw [← he] at eb
    have s0 := sb l
    have q4 := c4.2.2.1 l 0 l0 (by omega) (by omega) (by omega)
    rw [show 96 * l + 0 = 96 * l by omega] at q4
    have e9 : 0 ≤ e * p ∧ e * p ≤ 2401 * 7 := ⟨Int.mul_nonneg eb.1 (by omega), Int.mul_le_mul (by omega) (by omega) (by omega) (by omega)⟩
    apply w_Model_classOfLine_56
    rw [p4, w4.x_coord.1, w4.x_coord.2.1, w4.x_coord.2.2, w32_id (x := 96 * l) (by omega) (by omega), q4, w32_id (x := e * p) (by omega) (by omega), w32_id (x := e * p + shN p n (dK L) (fK L) (lnE p v) l 0) (by omega) (by omega), w32_id (x := l + -1) (by omega) (by omega)]
    refine ⟨fun z => by omega, fun _ => ⟨w4.1, w4.1, ⟨rfl, by omega, by omega⟩, ?_⟩⟩
    rintro _ rfl _ rfl
    refine hk _ ⟨by omega, ?_⟩
    rw [show (n - 1 - (l - 1)).toNat = (n - 1 - l).toNat + 1 by omega, show l - 1 + 1 = l by omega]
    show _ = shN p n (dK L) (fK L) (lnE p v) l 0 + p * cdF p (fun l => shN p n (dK L) (fK L) (lnE p v) l 0) (n - 1 - l).toNat (l + 1)
    rw [← he, Int.mul_comm e p]
    omega
  · rintro e ⟨-, he⟩
    apply w_Model_classOfLine_56
    refine ⟨fun _ => ?_, fun z => by omega⟩
    rw [he, show (n - 1 - (0 - 1)).toNat = n.toNat by omega]
    exact HH
/-- a, times b to the power n -/
def mpC (p n : Int) (T : Int → Int) (b a : Int) : Nat → Int
  | 0 => a
  | k + 1 => pcC p n T (mpC p n T b a k) b
theorem mpC_congr {p n : Int} {T T' : Int → Int} (hn : 2 ≤ n ∧ n ≤ 4) (hT : ∀ i j l, 0 ≤ i → i < n → 0 ≤ j → j < n → 0 ≤ l → l < n → T (16 * i + 4 * j + l) = T' (16 * i + 4 * j + l)) (b a : Int) : ∀ (k : Nat), mpC p n T b a k = mpC p n T' b a k
  | 0 => rfl
  | k + 1 => by
    show pcC p n T (mpC p n T b a k) b = pcC p n T' (mpC p n T' b a k) b
    rw [mpC_congr hn hT b a k, pcC_congr hn hT]
def brF (p n : Int) (T : Int → Int) (b a : Int) : Int := if mpC p n T b a n.toNat = 0 ∧ fpC p n T a = a then 1 else 0
theorem m_branches {d : Nat} {D p n c u : Int} {S : Hp} {F : Int → Int} {Q : Vl → Hp → Prop} (h : MC S D p n F) (H0 : n = 0 → Q (0, -2) S) (H1 : n ≠ 0 → ¬ (0 ≤ c ∧ c < p) → Q (0, -1) S) (H2 : n ≠ 0 → 0 ≤ c ∧ c < p → ∀ S' L fK dK, opR D S S' → MC S' D p n F → RG S' D c p n (cfF (mvC p c F) n) L fK dK → Q (0, if 0 ≤ u ∧ u < p then ctL p n (brF p n (tb1 p n (cfF (mvC p c F) n) (fK L) (dK L) 0) (lnC p n (fK L) (dK L) u)) else -1) S') : Ev (d + 6) 244 [(2, D), (0, c), (0, u)] S Q := by
  apply w_Model_branches_0
  refine ⟨h.1.1, m_wrongRing h (fun n0 => ⟨_, rfl, fun z => by omega, fun _ => H0 n0⟩) (fun n0 hc => ⟨_, rfl, fun z => by omega, fun _ => H1 n0 hc⟩) (fun n0 hc S1 L fK dK o mc v r => ⟨fun z => absurd ⟨Int.le_refl 0, r.2.2.1⟩ z, fun _ => ⟨_, rfl, fun _ => ⟨mc.1.1, m_isNumber mc.1.1 mc.2.1 (isPr_b mc.2.2.1) ⟨_, rfl, fun y => ⟨mc.1.1, mc.1.1, ?_⟩, fun y => ?_⟩⟩, fun y => absurd rfl y⟩⟩)⟩
  · have hu := i1 y
    have hn : 2 ≤ n ∧ n ≤ 4 := by have := mc.2.2.2.2.1; omega
    have h2 := isPr_b mc.2.2.1
    have pb := pwI_bd h2 n.toNat (by omega)
    have L0 := r.2.2.1
    rw [r.2.1]
    refine m_tables mc n0 hc v r ⟨L0, Int.le_refl L⟩ (fun S2 o2 mc2 r2 e53 tt tb => ⟨rfl, mc2.1.1, ?_⟩)
    refine m_classOfLine mc2 n0 hc r2 hu (fun S3 m3 => ⟨_, rfl, ?_⟩)
    have w3 : DW S3 D := mc2.1.md m3 (by omega)
    have o3 : ∀ i, zG S3 D i = zG S2 D i := fun i => m3.G (by omega) i
    have mc3 : MC S3 D p n F := mc2.keep m3 w3 (by omega) (by omega) (by omega) (fun i _ => o3 i)
    have tt3 : ∀ i j l, 0 ≤ i → i < n → 0 ≤ j → j < n → 0 ≤ l → l < n → zG S3 (D + 36) (16 * i + 4 * j + l) = tb1 p n (cfF (mvC p c F) n) (fK L) (dK L) 0 (16 * i + 4 * j + l) := fun i j l i0 i1 j0 j1 l0 l1 => by
      rw [m3.G (by omega)]
      exact tt i j l i0 i1 j0 j1 l0 l1
    have tb3 : TB S3 D n := fun i j l i0 i1 j0 j1 l0 l1 => by
      rw [m3.G (by omega), m3.G (by omega)]
      exact tb i j l i0 i1 j0 j1 l0 l1
    have HH := H2 n0 hc S3 L fK dK ((o.tr o2).tr ⟨m3.wide (fun x hx => by unfold opM; omega), fun i _ _ _ => o3 i⟩) mc3 (r2.keep m3 (by omega) (by omega) (fun i _ => o3 i))
    have sb : ∀ l, 0 ≤ shN p n (dK L) (fK L) (lnE p u) l 0 ∧ shN p n (dK L) (fK L) (lnE p u) l 0 < p := fun l => shN_bd h2.1 (lnE_bd h2.1 hu) l 0
    have lb : 0 ≤ lnC p n (fK L) (dK L) u ∧ lnC p n (fK L) (dK L) u < pwI p n.toNat := cdF_bd h2 sb n.toNat 0
    generalize lnC p n (fK L) (dK L) u = b at HH lb
    rw [if_pos hu, show brF p n (tb1 p n (cfF (mvC p c F) n) (fK L) (dK L) 0) b = brF p n (zG S3 (D + 36)) b from funext fun a => by unfold brF; rw [mpC_congr hn tt3, fpC_congr hn tt3]] at HH
    have e3 : zG S3 D 53 = pwI p n.toNat := (o3 53).trans e53
    refine loopU (α := Int) (P := fun a e => At (d + 6) 244 c244_44 [(0, (2, D)), (4, (0, b)), (5, (0, e)), (6, (0, a))] [] S3 Q) (I := fun a e => 0 ≤ a ∧ e = sm a.toNat (brF p n (zG S3 (D + 36)) b) ∧ 0 ≤ e ∧ e ≤ a) (pwI p n.toNat) ?_ ?_ 0 0 (by omega) ⟨by omega, rfl, by omega, by omega⟩
    · rintro a e ha ⟨a0, he, e0, e1⟩ hk2
      have fin : ∀ q, q = brF p n (zG S3 (D + 36)) b a → At (d + 6) 244 c244_112 [(0, (2, D)), (4, (0, b)), (6, (0, a))] [(0, q), (0, e)] S3 Q := fun q hq => by
        have bb : 0 ≤ brF p n (zG S3 (D + 36)) b a ∧ brF p n (zG S3 (D + 36)) b a ≤ 1 := by
          unfold brF
          split <;> omega
        apply w_Model_branches_112
        rw [w32_id (by omega) (by omega), w32_id (by omega) (by omega)]
        rintro _ rfl _ rfl
        refine hk2 _ ⟨by omega, ?_, by omega, by omega⟩
        rw [show (a + 1).toNat = a.toNat + 1 by omega, sm_succ, show ((a.toNat : Nat) : Int) = a by omega, he, hq]
      unfold brF at fin
      apply w_Model_branches_44
      rw [e3]
      refine ⟨mc3.1.1, fun z => by omega, fun _ => ?_⟩
      refine loopU (α := Int) (P := fun i x => At (d + 6) 244 c244_60 [(0, (2, D)), (4, (0, b)), (5, (0, e)), (6, (0, a)), (7, (0, x)), (8, (0, i))] [] S3 Q) (I := fun i x => 0 ≤ i ∧ x = mpC p n (zG S3 (D + 36)) b a i.toNat ∧ 0 ≤ x ∧ x < pwI p n.toNat) n ?_ ?_ 0 a (by omega) ⟨by omega, rfl, a0, ha⟩
      · rintro i x hi ⟨i0, hx, x0, x1⟩ hk3
        have xb := pcC_bd (a := x) (b := b) (T := zG S3 (D + 36)) h2 hn
        apply w_Model_branches_60
        rw [mc3.2.2.2.1, mc3.1.x_first.1]
        refine ⟨mc3.1.1, fun z => by omega, fun _ => ⟨mc3.1.1, mc3.1.1, m_product mc3.1.1 mc3.2.1 h2 mc3.2.2.2.1 hn (by omega) (by omega) mc3.1.x_first.2.1 mc3.1.x_first.2.2 (fun i j l i0 i1 j0 j1 l0 l1 => (tb3 i j l i0 i1 j0 j1 l0 l1).1) ⟨_, rfl, ?_⟩⟩⟩
        rintro _ rfl
        rw [w32_id (by omega) (by omega)]
        refine hk3 _ ⟨by omega, ?_, xb.1, xb.2⟩
        rw [show (i + 1).toNat = i.toNat + 1 by omega, hx]
        rfl
      · rintro x ⟨-, hx, x0, x1⟩
        apply w_Model_branches_60
        rw [mc3.2.2.2.1]
        refine ⟨mc3.1.1, fun _ => ⟨fun q => ?_, fun q => ⟨mc3.1.1, m_powerClass mc3.1 mc3.2.1 h2 mc3.2.2.2.1 hn (by omega) tb3 ⟨_, rfl, fun q' => ?_, fun q' => ?_⟩⟩⟩, fun z => absurd (Int.le_refl n) z⟩
        · apply w_Model_branches_111
          refine fin 0 (if_neg (fun z => q ?_)).symm
          rw [hx]
          exact z.1
        · apply w_Model_branches_111
          exact fin 0 (if_neg (fun z => q' z.2)).symm
        · refine fin 1 (if_pos ⟨?_, Decidable.not_not.mp q'⟩).symm
          rw [← hx]
          exact Decidable.not_not.mp q
    · rintro e ⟨-, he, e0, e1⟩
      apply w_Model_branches_44
      rw [e3]
      refine ⟨mc3.1.1, fun _ => ⟨mc3.1.1, m_logOf mc3.1.1 mc3.2.1 h2 (by omega) ⟨_, rfl, ?_⟩⟩, fun z => absurd (Int.le_refl _) z⟩
      rw [he]
      exact HH
  · have := H2 n0 hc S1 L fK dK o mc r
    rw [if_neg (i2 y)] at this
    exact this
