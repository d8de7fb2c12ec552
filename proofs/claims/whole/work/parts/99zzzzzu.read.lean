/-! Calls that only read: inverse, front, disc, order, multiplicity, singular, count, at, as, place, find. -/
theorem bXor_neg (a b : Int) : decide (bXor a b < 0) = (decide ((Int32.ofInt a).toInt < 0) ^^ decide ((Int32.ofInt b).toInt < 0)) := by
  unfold bXor
  rw [← Int32.toInt_toBitVec, ← Int32.toInt_toBitVec, ← Int32.toInt_toBitVec, ← BitVec.msb_eq_toInt, ← BitVec.msb_eq_toInt, ← BitVec.msb_eq_toInt, Int32.toBitVec_xor, BitVec.msb_xor]
theorem i32_id {a : Int} (h0 : -2147483648 ≤ a) (h1 : a < 2147483648) : (Int32.ofInt a).toInt = a := by
  have := w32_id h0 h1
  rw [Int32.toInt_ofInt]
  exact this
theorem lXor_neg (a b : Int) : decide (lXor a b < 0) = (decide ((Int64.ofInt a).toInt < 0) ^^ decide ((Int64.ofInt b).toInt < 0)) := by
  unfold lXor
  rw [← Int64.toInt_toBitVec, ← Int64.toInt_toBitVec, ← Int64.toInt_toBitVec, ← BitVec.msb_eq_toInt, ← BitVec.msb_eq_toInt, ← BitVec.msb_eq_toInt, Int64.toBitVec_xor, BitVec.msb_xor]
theorem i64_id {a : Int} (h0 : -9223372036854775808 ≤ a) (h1 : a < 9223372036854775808) : (Int64.ofInt a).toInt = a := by
  have := w64_id h0 h1
  rw [Int64.toInt_ofInt]
  exact this
theorem s_floorMod {d : Nat} {S : Hp} {a p : Int} {Q : Vl → Hp → Prop} (hp : 2 ≤ p ∧ p ≤ 7) (ha : -2147483648 ≤ a ∧ a < 2147483648) (H : Q (0, a % p) S) : Ev d 287 [(0, a), (0, p)] S Q := by
  apply w_Math_floorMod_0
  refine ⟨by omega, ?_⟩
  rintro _ rfl
  have x := bXor_neg a p
  rw [i32_id ha.1 ha.2, i32_id (by omega) (by omega), decide_eq_false (show ¬ p < 0 by omega), Bool.xor_false] at x
  have f := tm_fix (x := a) (p := p) (by omega)
  have t1 := tm_lt (x := a) (p := p) (by omega)
  have t2 := tm_gt (x := a) (p := p) (by omega)
  by_cases q : a < 0
  · have n : bXor a p < 0 := by
      rw [decide_eq_true q] at x
      exact of_decide_eq_true x
    have s : a.tmod p ≤ 0 := by
      have t := Int.tmod_nonneg p (show 0 ≤ -a by omega)
      rw [Int.neg_tmod] at t
      omega
    refine ⟨fun z => ?_, fun z => ?_⟩
    · have z0 : a.tmod p = 0 := by omega
      rw [if_pos (by omega)] at f
      rw [f]
      exact H
    · rw [if_neg (by omega)] at f
      rw [w32_id (by omega) (by omega), f]
      exact H
  · have n : ¬ bXor a p < 0 := by
      rw [decide_eq_false q] at x
      exact of_decide_eq_false x
    have s : 0 ≤ a.tmod p := Int.tmod_nonneg p (by omega)
    rw [if_pos s] at f
    refine ⟨fun z => ?_, fun z => absurd (Or.inl (by omega)) z⟩
    rw [f]
    exact H
theorem s_floorModL {d : Nat} {S : Hp} {a p : Int} {Q : Vl → Hp → Prop} (hp : 2 ≤ p ∧ p ≤ 7) (ha : -9223372036854775808 ≤ a ∧ a < 9223372036854775808) (H : Q (1, a % p) S) : Ev d 288 [(1, a), (1, p)] S Q := by
  apply w_Math_floorMod_JJJ_0
  refine ⟨by omega, ?_⟩
  rintro _ rfl
  have x := lXor_neg a p
  rw [i64_id ha.1 ha.2, i64_id (by omega) (by omega), decide_eq_false (show ¬ p < 0 by omega), Bool.xor_false] at x
  have f := tm_fix (x := a) (p := p) (by omega)
  have t1 := tm_lt (x := a) (p := p) (by omega)
  have t2 := tm_gt (x := a) (p := p) (by omega)
  have c0 := lCmp0 (x := lXor a p)
  have c1 := lCmp_eq (x := a.tmod p) (y := 0)
  by_cases q : a < 0
  · have n : lXor a p < 0 := by
      rw [decide_eq_true q] at x
      exact of_decide_eq_true x
    have s : a.tmod p ≤ 0 := by
      have t := Int.tmod_nonneg p (show 0 ≤ -a by omega)
      rw [Int.neg_tmod] at t
      omega
    refine ⟨fun z => ?_, fun z => ?_⟩
    · have z0 : a.tmod p = 0 := by
        rcases z with z | z
        · have := c0.mp z
          omega
        · exact c1.mp z
      rw [if_pos (by omega)] at f
      rw [f]
      exact H
    · have z0 : a.tmod p ≠ 0 := fun w => z (Or.inr (c1.mpr w))
      rw [if_neg (by omega)] at f
      rw [w64_id (by omega) (by omega), f]
      exact H
  · have n : ¬ lXor a p < 0 := by
      rw [decide_eq_false q] at x
      exact of_decide_eq_false x
    have s : 0 ≤ a.tmod p := Int.tmod_nonneg p (by omega)
    rw [if_pos s] at f
    refine ⟨fun z => ?_, fun z => absurd (Or.inl (c0.mpr (by omega))) z⟩
    rw [f]
    exact H
theorem CO.cur {M : Int → Prop} {S S' : Hp} (h : CO S) (m : Md M S S') (hM : ∀ x, 2 ≤ x → x ≤ 484 → x ≠ 36 → x ≠ 51 → x ≠ 66 → ¬ M x) : CO S' := by
  obtain ⟨a1, a2, a3, a4, a5, a6, a7, a8, a9, a10, a11, a12, a13⟩ := h
  exact ⟨a1.keep m (fun i _ => m.G (hM _ (by omega) (by omega) (by omega) (by omega) (by omega)) i) (hM _ (by omega) (by omega) (by omega) (by omega) (by omega)), a2.keep m (fun x x0 x1 => hM x (by omega) (by omega) (by omega) (by omega) (by omega)), a3.keep m (fun x x0 x1 => hM x (by omega) (by omega) (by omega) (by omega) (by omega)), a4.keep m (fun x x0 x1 => hM x (by omega) (by omega) (by omega) (by omega) (by omega)), a5.keep m (fun x x0 x1 => hM x (by omega) (by omega) (by omega) (by omega) (by omega)), a6.keep m (fun x x0 x1 => hM x (by omega) (by omega) (by omega) (by omega) (by omega)), a7.keep m (fun x x0 x1 => hM x (by omega) (by omega) (by omega) (by omega) (by omega)), a8.keep m (fun x x0 x1 => hM x (by omega) (by omega) (by omega) (by omega) (by omega)), a9.keep m (fun x hx => hM x (by omega) (by omega) (by omega) (by omega) (by omega)), a10.keep m (hM _ (by omega) (by omega) (by omega) (by omega) (by omega)), fun c c0 c1 => (a11 c c0 c1).keep m (hM _ (by omega) (by omega) (by omega) (by omega) (by omega)), fun s s0 s1 => (a12 s s0 s1).keep m (fun x x0 x1 => hM x (by omega) (by omega) (by omega) (by omega) (by omega)), fun k k0 k1 => (a13 k k0 k1).keep m (fun x x0 x1 => hM x (by omega) (by omega) (by omega) (by omega) (by omega))⟩
/-- the curve's row for moving is nobody's concern -/
theorem cls_moved {S S' : Hp} {D v u p n g : Int} {F Δ : Int → Int} (hD : 485 ≤ D) (kn : KNO p n g F Δ) (cl : CLS S v u p n g F Δ) (md : MDL S D p n g F Δ) (re : RES S D p n F) (m : Md (fun x => x = v + 14) S S') : MID S S' D ∧ CLS S' v u p n g F Δ ∧ MDL S' D p n g F Δ ∧ RES S' D p n F := by
  obtain ⟨cp, co, cu, pl, al⟩ := cl
  have vu := cp.2.2.2.2.1
  refine ⟨mid_md m cp.1 md.1.1 (by omega), ⟨cp.keep m (by omega) (by omega) (by omega) (by omega), co.cur m (fun x x0 x1 x2 x3 x4 => by omega), cu.keep m (fun x x0 x1 => by omega), pl.keep kn.n4 m (fun x x0 x1 => by omega), al.keep m (fun x hx => by omega)⟩, md.far m (fun x x0 => by omega), re.keep kn.n4 m (fun x hx => ?_) (fun i hi => m.G (by omega) i)⟩
  unfold REx at hx
  omega
/-- after the reference wrote rows of its own that nobody reads -/
theorem rel_own {M : Int → Prop} {S S' : Hp} {D v u p n g : Int} {F Δ : Int → Int} (hD : 485 ≤ D) (kn : KNO p n g F Δ) (cl : CLS S v u p n g F Δ) (md : MDL S D p n g F Δ) (re : RES S D p n F) (m : Md M S S') (hM : ∀ x, M x → x = D ∨ (D + 14 ≤ x ∧ x ≤ D + 42 ∧ x ≠ D + 32 ∧ x ≠ D + 33)) (dw : DW S' D) (hf : ∀ i, i ≠ 5 → i ≠ 53 → i ≠ 58 → i ≠ 59 → zG S' D i = zG S D i) : MID S S' D ∧ Rel S' D := by
  have nM : ∀ x, (x < D ∨ (D < x ∧ x < D + 14) ∨ D + 42 < x ∨ x = D + 32 ∨ x = D + 33) → ¬ M x := fun x hx z => by
    have := hM x z
    omega
  have o : ∀ i, i = 0 ∨ i = 1 ∨ i = 2 ∨ i = 47 ∨ i = 48 → zG S' D i = zG S D i := fun i hi => hf i (by omega) (by omega) (by omega) (by omega)
  refine ⟨mid_md m cl.1.1 md.1.1 (nM _ (by omega)), v, u, p, n, g, F, Δ, kn, cl.far kn m (fun x x0 x1 => nM x (by omega)), ?_, re.keep kn.n4 m (fun x hx => nM x (by unfold REx at hx; omega)) (fun i hi => hf i (by omega) (by omega) (by omega) (by omega))⟩
  obtain ⟨a, b, c, e, t, f⟩ := md
  refine ⟨dw, by rw [o 0 (by omega)]; exact b, by rw [o 1 (by omega)]; exact c, by rw [o 2 (by omega)]; exact e, fun K j i x K0 K1 j0 ji i1 x0 x1 => by rw [m.G (nM _ (by omega))]; exact t K j i x K0 K1 j0 ji i1 x0 x1, fun n0 => ?_⟩
  obtain ⟨mc, dd⟩ := f n0
  exact ⟨mc.keep m dw (nM _ (by omega)) (nM _ (by omega)) (nM _ (by omega)) (fun i hi => o i (by omega)), fun x x0 x1 => by rw [m.G (nM _ (by omega))]; exact dd x x0 x1⟩
theorem r_inverse {d : Nat} {S : Hp} {D c : Int} (hv : -2147483648 ≤ c ∧ c < 2147483648) (R : Rel S D) : TW (d + 20) 98 170 [(0, c)] S D := by
  obtain ⟨v, u, p, n, g, F, Δ, kn, cl, md, re⟩ := R
  have id0 := rel_id kn cl md re
  have h2 := kn.1.two
  unfold TW
  apply w_Crc_inverse_0
  rw [cl.1.a1, cl.c0]
  refine ⟨cl.1.1, cl.vw.1, s_floorMod h2 hv ⟨_, rfl, fun z => ?_, fun z => ?_⟩⟩
  · rw [cl.1.a1, cl.c0]
    refine ⟨cl.1.1, cl.vw.1, s_inverted kn.1 (by have := em_ge (x := c) (p := p) (by omega); omega) (em_lt (by omega)) (fun w w0 w1 w2 => ⟨_, rfl, _, rfl, id0.1, m_inverse md.1.1 md.2.1 kn.1 (fun q => absurd q z) (fun w' _ a0 a1 a2 => ?_)⟩)⟩
    refine ⟨?_, id0⟩
    have : w' = w := by
      have e : (c % p * w' * w) % p = (c % p * w * w') % p := by rw [Int.mul_assoc, Int.mul_assoc, Int.mul_comm w' w]
      rw [Int.mul_emod, a2, Int.mul_emod (c % p * w) w', w2] at e
      have p1 : (1 : Int) % p = 1 := em_id (by omega) (by omega)
      rw [show (1 : Int) * (w % p) = w % p by omega, show (1 : Int) * (w' % p) = w' % p by omega, Int.emod_emod_of_dvd _ (Int.dvd_refl p), Int.emod_emod_of_dvd _ (Int.dvd_refl p), em_id (by omega) w1, em_id (by omega) a1] at e
      exact e.symm
    rw [this]
  · exact ⟨_, rfl, id0.1, m_inverse md.1.1 md.2.1 kn.1 (fun _ => ⟨rfl, id0⟩) (fun w q => absurd (Classical.not_not.mp z) q)⟩
theorem r_front {d : Nat} {S : Hp} {D i j : Int} (R : Rel S D) : TW (d + 20) 103 202 [(0, i), (0, j)] S D := by
  obtain ⟨v, u, p, n, g, F, Δ, kn, cl, md, re⟩ := R
  have id0 := rel_id kn cl md re
  unfold TW
  apply w_Crc_front_0
  rw [cl.1.a1, cl.c1]
  have vw := cl.vw
  refine ⟨cl.1.1, vw.1, fun n0 => ⟨fun z => ?_, ?_⟩, fun n0 => ⟨_, rfl, id0.1, m_front md.1 md.2.2.1 (fun _ => ⟨rfl, id0⟩) (fun q => absurd (Classical.not_not.mp n0) q) (fun q => absurd (Classical.not_not.mp n0) q)⟩⟩
  · rw [w32_id (x := 7 * j) (by omega) (by omega), w32_id (x := i + 7 * j) (by omega) (by omega), vw.2.1]
    have r := vw.2.2.2.2.2.2.1
    exact ⟨cl.1.1, vw.1, r.1, by omega, by rw [r.2]; omega⟩
  · rintro x1 hx
    by_cases q : i < 0 ∨ 6 < i ∨ j < 0 ∨ ¬ j ≤ 6
    · rw [if_pos q] at hx
      rw [hx]
      exact ⟨_, rfl, id0.1, m_front md.1 md.2.2.1 (fun z => absurd z n0) (fun _ _ => ⟨rfl, id0⟩) (fun _ a0 a1 a2 a3 => by omega)⟩
    · rw [if_neg q, w32_id (x := 7 * j) (by omega) (by omega), w32_id (x := i + 7 * j) (by omega) (by omega), vw.2.1, (cl.2.2.1.2.2 n0).2.1 _ (by omega) (by omega)] at hx
      refine ⟨_, rfl, id0.1, m_front md.1 md.2.2.1 (fun z => absurd z n0) (fun _ w => absurd ⟨by omega, by omega, by omega, by omega⟩ w) (fun _ a0 a1 a2 a3 => ?_)⟩
      rw [(md.mc n0).2.2.2.2.2.2.1 _ (by omega) (by omega), hx, show 7 * j + i = i + 7 * j by omega]
      exact ⟨rfl, id0⟩
theorem r_disc {d : Nat} {S : Hp} {D i : Int} (R : Rel S D) : TW (d + 20) 104 203 [(0, i)] S D := by
  obtain ⟨v, u, p, n, g, F, Δ, kn, cl, md, re⟩ := R
  have id0 := rel_id kn cl md re
  unfold TW
  apply w_Crc_disc_0
  rw [cl.1.a1, cl.c1]
  have vw := cl.vw
  refine ⟨cl.1.1, vw.1, fun n0 => ⟨fun z => ?_, fun z => ?_⟩, fun n0 => ⟨_, rfl, id0.1, m_disc md.1 md.2.2.1 (fun _ => ⟨rfl, id0⟩) (fun q => absurd (Classical.not_not.mp n0) q) (fun q => absurd (Classical.not_not.mp n0) q)⟩⟩
  · exact ⟨_, rfl, id0.1, m_disc md.1 md.2.2.1 (fun z => absurd z n0) (fun _ _ => ⟨rfl, id0⟩) (fun _ a0 a1 => by omega)⟩
  · have ln := (cl.2.2.1.2.2 n0).2.2.2.1
    rw [vw.2.2.2.1]
    refine ⟨cl.1.1, vw.1, ln.ln.1, n_number ln ⟨_, rfl, ?_⟩⟩
    refine ⟨_, rfl, id0.1, m_disc md.1 md.2.2.1 (fun z => absurd z n0) (fun _ w => absurd ⟨by omega, by omega⟩ w) (fun _ a0 a1 => ?_)⟩
    rw [(md.2.2.2.2.2 n0).2 i (by omega) (by omega)]
    exact ⟨rfl, id0⟩
theorem r_order {d : Nat} {S : Hp} {D c : Int} (hD : 485 ≤ D) (R : Rel S D) : TW (d + 20) 105 206 [(0, c)] S D := by
  obtain ⟨v, u, p, n, g, F, Δ, kn, cl, md, re⟩ := R
  have id0 := rel_id kn cl md re
  have h2 := kn.1.two
  have hi : ∀ {x : Int}, x < 0 ∨ 200 ≤ x → n ≠ 0 → Δ x = 0 := fun {x} hx n0 => by
    obtain ⟨-, P, q, e⟩ := kn.2.2.2 n0
    rw [e]
    exact q.2.2.2.2.2.2.1 x (by omega)
  have bd : ∀ x, n ≠ 0 → 0 ≤ Δ x ∧ Δ x < p := fun x n0 => by
    obtain ⟨-, P, q, e⟩ := kn.2.2.2 n0
    rw [e]
    exact dsM_bd h2.1 x
  unfold TW
  apply w_Crc_order_0
  rw [cl.1.a1, cl.c1]
  have vw := cl.vw
  have r := vw.2.2.2.2.2.2.2.2.2.1
  by_cases n0 : n = 0
  · refine ⟨cl.1.1, vw.1, fun q => absurd n0 q, fun _ => ⟨_, rfl, id0.1, ?_⟩⟩
    apply w_Model_order_0
    exact ⟨md.1.1, fun q => absurd (md.2.2.1.trans n0) q, fun _ => ⟨rfl, id0⟩⟩
  · have run : ∀ x, (c < 0 ∨ p ≤ c → x = -1) → (0 ≤ c ∧ c < p → x = rtN p c 199 200 Δ) → Ev (d + 20) 206 [(2, D), (0, c)] S (fun r' S2 => r' = (0, x) ∧ MID S S2 D ∧ Rel S2 D) := fun x h1 h3 => by
      refine m_order (G := Δ) md.1 md.2.2.1 md.2.1 h2 (fun x x0 x1 => (md.2.2.2.2.2 n0).2 x x0 x1) (fun x hx => hi hx n0) (fun x => bd x n0) (fun z => absurd z n0) (fun _ w => ⟨by rw [h1 (by omega)], id0⟩) (fun _ a0 a1 S' m => ⟨by rw [h3 ⟨a0, a1⟩], rel_own hD kn cl md re m (fun x hx => by omega) (md.1.md m (by omega)) (fun i _ _ _ _ => m.G (by omega) i)⟩)
    refine ⟨cl.1.1, vw.1, fun _ => ⟨cl.1.1, s_isNum cl ⟨_, rfl, fun z => ?_, ?_⟩⟩, fun q => absurd n0 q⟩
    · rw [cl.1.a1, vw.2.2.2.2.1]
      have hc := i1 z
      exact ⟨cl.1.1, vw.1, r.1, hc.1, by rw [r.2]; exact kn.p7 hc.2⟩
    · rintro x3 hx
      refine ⟨_, rfl, id0.1, run x3 (fun hc => ?_) (fun hc => ?_)⟩
      · rw [if_pos (if_neg (by omega))] at hx
        exact hx
      · rw [if_neg (by rw [if_pos hc]; decide), cl.1.a1, vw.2.2.2.2.1, (cl.2.2.1.2.2 n0).2.2.2.2 c hc.1 hc.2] at hx
        exact hx
theorem r_multiplicity {d : Nat} {S : Hp} {D c e : Int} (hD : 485 ≤ D) (R : Rel S D) : TW (d + 20) 106 210 [(0, c), (0, e)] S D := by
  obtain ⟨v, u, p, n, g, F, Δ, kn, cl, md, re⟩ := R
  have id0 := rel_id kn cl md re
  have h2 := kn.1.two
  unfold TW
  apply w_Crc_multiplicity_0
  rw [cl.1.a1, cl.c1]
  have vw := cl.vw
  by_cases n0 : n = 0
  · refine ⟨cl.1.1, vw.1, fun q => absurd n0 q, fun _ => ⟨_, rfl, id0.1, ?_⟩⟩
    apply w_Model_multiplicity_0
    exact ⟨md.1.1, fun q => absurd (md.2.2.1.trans n0) q, fun _ => ⟨rfl, id0⟩⟩
  · have mc := md.mc n0
    have bF := mc.2.2.2.2.2.2.2.1
    refine ⟨cl.1.1, vw.1, fun _ => ⟨cl.1.1, s_isNum cl ⟨_, rfl, fun z => ?_, fun z => ⟨cl.1.1, s_isNum cl ⟨_, rfl, fun z2 => ?_, fun z2 => ?_⟩⟩⟩⟩, fun q => absurd n0 q⟩
    · exact ⟨_, rfl, id0.1, m_multiplicity md.1 md.2.1 md.2.2.1 h2 mc.2.2.2.2.2.2.1 bF (fun z => absurd z n0) (fun _ _ => ⟨rfl, id0⟩) (fun _ q => absurd q.1 (i0 z))⟩
    · exact ⟨_, rfl, id0.1, m_multiplicity md.1 md.2.1 md.2.2.1 h2 mc.2.2.2.2.2.2.1 bF (fun z => absurd z n0) (fun _ _ => ⟨rfl, id0⟩) (fun _ q => absurd q.2 (i0 z2))⟩
    · have hc := i1 z
      have he := i1 z2
      rw [cl.1.a1]
      refine ⟨cl.1.1, vw.1, s_lowestAt vw cl.c0 h2 hc he (cl.2.2.1.2.2 n0).2.1 bF (fun S1 m _ => ⟨_, rfl, ?_⟩)⟩
      obtain ⟨mi, cl1, md1, re1⟩ := cls_moved hD kn cl md re m
      refine ⟨_, rfl, mi, m_multiplicity md1.1 md1.2.1 md1.2.2.1 h2 (md1.mc n0).2.2.2.2.2.2.1 bF (fun z => absurd z n0) (fun _ w => absurd ⟨hc, he⟩ w) (fun _ _ S2 m2 dw => ⟨rfl, rel_own hD kn cl1 md1 re1 m2 (fun x hx => by omega) dw (fun i _ _ _ _ => m2.G (by omega) i)⟩)⟩
theorem r_singular {d : Nat} {S : Hp} {D c : Int} (hD : 485 ≤ D) (R : Rel S D) : TW (d + 20) 107 211 [(0, c)] S D := by
  obtain ⟨v, u, p, n, g, F, Δ, kn, cl, md, re⟩ := R
  have id0 := rel_id kn cl md re
  have h2 := kn.1.two
  unfold TW
  apply w_Crc_singular_0
  rw [cl.1.a1, cl.c1]
  have vw := cl.vw
  by_cases n0 : n = 0
  · refine ⟨cl.1.1, vw.1, fun q => absurd n0 q, fun _ => ⟨_, rfl, id0.1, ?_⟩⟩
    apply w_Model_singular_0
    exact ⟨md.1.1, fun q => absurd (md.2.2.1.trans n0) q, fun _ => ⟨rfl, id0⟩⟩
  · have mc := md.mc n0
    have bF := mc.2.2.2.2.2.2.2.1
    refine ⟨cl.1.1, vw.1, fun _ => ⟨cl.1.1, s_isNum cl ⟨_, rfl, fun z => ?_, fun z => ?_⟩⟩, fun q => absurd n0 q⟩
    · have hc := i1 z
      refine loopU2 (α := Int) (P := fun e set S' => At (d + 20) 107 c107_27 [(0, (2, 1)), (1, (0, c)), (2, (0, set)), (3, (0, e))] [] S' (fun r S1 => ∃ x, r = (0, x) ∧ MID S S1 D ∧ Ev (d + 20) 211 [(2, D), (0, c)] S1 (fun r' S2 => r' = (0, x) ∧ MID S1 S2 D ∧ Rel S2 D))) (I := fun e set S' => 0 ≤ e ∧ set = bsN (fun e => if lowV p c e F < 2 then 0 else 1) e.toNat ∧ Md (fun x => x = v + 14) S S') p ?_ ?_ 0 0 S (by omega) ⟨by omega, rfl, Md.refl _ _⟩
      · rintro e set S1 e1 ⟨e0, hs, m1⟩ next
        obtain ⟨-, cl1, -, -⟩ := cls_moved hD kn cl md re m1
        have nn : ((e.toNat : Nat) : Int) = e := by omega
        have step : ∀ S2 set', Md (fun x => x = v + 14) S S2 → set' = bsN (fun e => if lowV p c e F < 2 then 0 else 1) (e + 1).toNat → At (d + 20) 107 c107_57 [(0, (2, 1)), (1, (0, c)), (2, (0, set')), (3, (0, e))] [] S2 (fun r S1 => ∃ x, r = (0, x) ∧ MID S S1 D ∧ Ev (d + 20) 211 [(2, D), (0, c)] S1 (fun r' S2 => r' = (0, x) ∧ MID S1 S2 D ∧ Rel S2 D)) := fun S2 set' m2 hs' => by
          apply w_Crc_singular_57
          rintro _ rfl
          rw [w32_id (by omega) (by omega)]
          exact next set' S2 ⟨by omega, hs', m2⟩
        apply w_Crc_singular_27
        rw [cl1.1.a1, cl1.c0]
        refine ⟨cl1.1.1, cl1.vw.1, fun q => by omega, fun _ => ⟨cl1.1.1, cl1.vw.1, s_lowestAt cl1.vw cl1.c0 h2 hc ⟨e0, e1⟩ (cl1.2.2.1.2.2 n0).2.1 bF (fun S2 m2 _ => ⟨_, rfl, fun q => ?_, fun q => ?_⟩)⟩⟩
        · refine step S2 set (m1.tr m2) ?_
          rw [hs, show (e + 1).toNat = e.toNat + 1 by omega]
          exact (bsN_skip (by (try dsimp only); rw [nn, if_pos q])).symm
        · rintro _ rfl
          refine step S2 _ (m1.tr m2) ?_
          rw [hs, show (e + 1).toNat = e.toNat + 1 by omega, bsN_at (by (try dsimp only); rw [nn, if_neg q]; decide), nn]
      · rintro set S1 ⟨-, hs, m1⟩
        obtain ⟨mi, cl1, md1, re1⟩ := cls_moved hD kn cl md re m1
        apply w_Crc_singular_27
        rw [cl1.1.a1, cl1.c0]
        refine ⟨cl1.1.1, cl1.vw.1, fun _ => ?_, fun z => absurd (Int.le_refl _) z⟩
        refine ⟨_, rfl, mi, m_singular md1.1 md1.2.1 md1.2.2.1 h2 (md1.mc n0).2.2.2.2.2.2.1 bF (fun z => absurd z n0) (fun _ w => absurd hc w) (fun _ _ S2 m2 dw => ?_)⟩
        rw [hs]
        exact ⟨rfl, rel_own hD kn cl1 md1 re1 m2 (fun x hx => by omega) dw (fun i _ _ _ _ => m2.G (by omega) i)⟩
    · exact ⟨_, rfl, id0.1, m_singular md.1 md.2.1 md.2.2.1 h2 mc.2.2.2.2.2.2.1 bF (fun z => absurd z n0) (fun _ _ => ⟨rfl, id0⟩) (fun _ q => absurd q (i2 z))⟩
