/-! Calls about rings: last, depth, digit, lost, classes. -/
theorem CP.a1 {S : Hp} {v u : Int} (h : CP S v u) : zG S 1 1 = v := h.2.2.1
theorem CP.a5 {S : Hp} {v u : Int} (h : CP S v u) : zG S 1 5 = 67 := h.2.2.2.2.2.2.1
theorem CP.a6 {S : Hp} {v u : Int} (h : CP S v u) : zG S 1 6 = 68 := h.2.2.2.2.2.2.2.1
theorem CP.a7 {S : Hp} {v u : Int} (h : CP S v u) : zG S 1 7 = 69 := h.2.2.2.2.2.2.2.2.1
theorem CP.a9 {S : Hp} {v u : Int} (h : CP S v u) : zG S 1 9 = 70 := h.2.2.2.2.2.2.2.2.2.1
theorem CP.a10 {S : Hp} {v u : Int} (h : CP S v u) : zG S 1 10 = 80 := h.2.2.2.2.2.2.2.2.2.2.1
theorem CP.a11 {S : Hp} {v u : Int} (h : CP S v u) : zG S 1 11 = 90 := h.2.2.2.2.2.2.2.2.2.2.2.1
theorem CP.a12 {S : Hp} {v u : Int} (h : CP S v u) : zG S 1 12 = 141 := h.2.2.2.2.2.2.2.2.2.2.2.2.1
theorem CP.a13 {S : Hp} {v u : Int} (h : CP S v u) : zG S 1 13 = 239 := h.2.2.2.2.2.2.2.2.2.2.2.2.2.1
theorem CP.k67 {S : Hp} {v u : Int} (h : CP S v u) : zK S 67 = 105 ∧ zL S 67 = 7 := h.2.2.2.2.2.2.2.2.2.2.2.2.2.2.1
theorem CP.k68 {S : Hp} {v u : Int} (h : CP S v u) : zK S 68 = 106 ∧ zL S 68 = 6 := h.2.2.2.2.2.2.2.2.2.2.2.2.2.2.2.1
theorem CP.k69 {S : Hp} {v u : Int} (h : CP S v u) : zK S 69 = 107 ∧ zL S 69 = 7 := h.2.2.2.2.2.2.2.2.2.2.2.2.2.2.2.2.1
theorem CP.p5 {S : Hp} {v u : Int} (h : CP S v u) : ∀ c, 0 ≤ c → c < 7 → zG S 67 c = 301 + 6 * c := h.2.2.2.2.2.2.2.2.2.2.2.2.2.2.2.2.2.1
theorem CP.p6 {S : Hp} {v u : Int} (h : CP S v u) : ∀ s, 0 ≤ s → s < 6 → zG S 68 s = 343 + 12 * s := h.2.2.2.2.2.2.2.2.2.2.2.2.2.2.2.2.2.2.1
theorem CP.p7 {S : Hp} {v u : Int} (h : CP S v u) : ∀ k, 0 ≤ k → k < 7 → zG S 69 k = 415 + 10 * k := h.2.2.2.2.2.2.2.2.2.2.2.2.2.2.2.2.2.2.2
theorem CLS.vw {S : Hp} {v u p n g : Int} {F Δ : Int → Int} (cl : CLS S v u p n g F Δ) : VW S v := by
  rcases cl.1.2.2.2.2.1 with w | w
  · rw [w.1]
    exact cl.2.1.2.1
  · rw [w.1]
    exact cl.2.1.2.2.1
theorem CLS.c0 {S : Hp} {v u p n g : Int} {F Δ : Int → Int} (cl : CLS S v u p n g F Δ) : zG S v 0 = p := cl.2.2.1.1
theorem CLS.c1 {S : Hp} {v u p n g : Int} {F Δ : Int → Int} (cl : CLS S v u p n g F Δ) : zG S v 1 = n := cl.2.2.1.2.1
theorem CLS.gw {S : Hp} {v u p n g : Int} {F Δ : Int → Int} (cl : CLS S v u p n g F Δ) : GW S 239 90 := cl.2.1.2.2.2.2.2.2.2.2.1
theorem CLS.pw {S : Hp} {v u p n g : Int} {F Δ : Int → Int} (cl : CLS S v u p n g F Δ) {c : Int} (c0 : 0 ≤ c) (c1 : c < 7) : PW S (301 + 6 * c) := (cl.2.2.2.1 c c0 c1).1
theorem CLS.pr {S : Hp} {v u p n g : Int} {F Δ : Int → Int} (cl : CLS S v u p n g F Δ) {c : Int} (c0 : 0 ≤ c) (c1 : c < 7) : PR S (301 + 6 * c) := (cl.2.2.2.1 c c0 c1).2.1
theorem MDL.mc {S : Hp} {D p n g : Int} {F Δ : Int → Int} (md : MDL S D p n g F Δ) (n0 : n ≠ 0) : MC S D p n F := (md.2.2.2.2.2 n0).1
theorem KNO.p7 {p n g c : Int} {F Δ : Int → Int} (kn : KNO p n g F Δ) (hc : c < p) : c < 7 := by
  have := kn.1.two
  omega
/-- nothing was run as yet -/
theorem rel_id {S : Hp} {D v u p n g : Int} {F Δ : Int → Int} (kn : KNO p n g F Δ) (cl : CLS S v u p n g F Δ) (md : MDL S D p n g F Δ) (re : RES S D p n F) : MID S S D ∧ Rel S D := ⟨mid_md (Md.refl (fun _ => False) S) cl.1.1 md.1.1 (fun z => z), v, u, p, n, g, F, Δ, kn, cl, md, re⟩
theorem s_isNum {d : Nat} {S : Hp} {v u p n g c : Int} {F Δ : Int → Int} {Q : Vl → Hp → Prop} (cl : CLS S v u p n g F Δ) (H : Q (0, if 0 ≤ c ∧ c < p then 1 else 0) S) : Ev d 143 [(2, 1), (0, c)] S Q := by
  apply w_Crc_isNumber_0
  rw [cl.1.a1, cl.c0]
  refine ⟨fun _ => ⟨cl.1.1, cl.vw.1⟩, ?_⟩
  rintro _ rfl
  have e : (if (c < 0 ∨ p ≤ c) then (0 : Int) else 1) = if 0 ≤ c ∧ c < p then 1 else 0 := by
    by_cases q : 0 ≤ c ∧ c < p
    · rw [if_pos q, if_neg (by omega)]
    · rw [if_neg q, if_pos (by omega)]
  rw [e]
  exact ⟨in01_if _, H⟩
theorem s_isPow {d : Nat} {S : Hp} {v u p n g c : Int} {F Δ : Int → Int} {Q : Vl → Hp → Prop} (cl : CLS S v u p n g F Δ) (H : Q (0, if 0 ≤ c ∧ c < n then 1 else 0) S) : Ev d 144 [(2, 1), (0, c)] S Q := by
  apply w_Crc_isPower_0
  rw [cl.1.a1, cl.c1]
  refine ⟨fun _ => ⟨cl.1.1, cl.vw.1⟩, ?_⟩
  rintro _ rfl
  have e : (if (c < 0 ∨ n ≤ c) then (0 : Int) else 1) = if 0 ≤ c ∧ c < n then 1 else 0 := by
    by_cases q : 0 ≤ c ∧ c < n
    · rw [if_pos q, if_neg (by omega)]
    · rw [if_neg q, if_pos (by omega)]
  rw [e]
  exact ⟨in01_if _, H⟩
theorem s_isShelf {d : Nat} {S : Hp} {s : Int} {Q : Vl → Hp → Prop} (H : Q (0, if 0 ≤ s ∧ s < 6 then 1 else 0) S) : Ev d 146 [(0, s)] S Q := by
  apply w_Crc_isShelf_0
  rintro _ rfl
  have e : (if (s < 0 ∨ 6 ≤ s) then (0 : Int) else 1) = if 0 ≤ s ∧ s < 6 then 1 else 0 := by
    by_cases q : 0 ≤ s ∧ s < 6
    · rw [if_pos q, if_neg (by omega)]
    · rw [if_neg q, if_pos (by omega)]
  rw [e]
  exact ⟨in01_if _, H⟩
theorem s_isRing {d : Nat} {S : Hp} {v u p n g c k : Int} {F Δ : Int → Int} {Q : Vl → Hp → Prop} (kn : KNO p n g F Δ) (cl : CLS S v u p n g F Δ) (n0 : n ≠ 0) (H0 : ¬ ((0 ≤ c ∧ c < p) ∧ 0 ≤ k) → Q (0, 0) S) (H1 : 0 ≤ c ∧ c < p → 0 ≤ k → ∀ S' Lc fK dK, Md RGm S S' → CLS S' v u p n g F Δ → (0 ≤ Lc ∧ Lc ≤ 18) → PCH p n (cfF (mvC p c F) n) fK dK Lc → CLO p n (cfF (mvC p c F) n) fK dK Lc → RK S' (301 + 6 * c) n p (cfF (mvC p c F) n) Lc fK dK → Q (0, if k ≤ Lc then 1 else 0) S') : Ev (d + 6) 145 [(2, 1), (0, c), (0, k)] S Q := by
  apply w_Crc_isRing_0
  refine ⟨cl.1.1, s_isNum cl ⟨_, rfl, fun z => ⟨Or.inl rfl, H0 (fun w => ?_)⟩, fun z => ?_⟩⟩
  · rcases z with z | z
    · exact i0 z w.1
    · omega
  · have hc : 0 ≤ c ∧ c < p := i1 (fun w => z (Or.inl w))
    have k0 : 0 ≤ k := by omega
    have c7 := kn.p7 hc.2
    rw [cl.1.a5, cl.1.a13, cl.1.a1, cl.1.p5 c hc.1 c7]
    refine ⟨cl.1.1, cl.1.1, cl.1.1, ⟨cl.1.k67.1, hc.1, by rw [cl.1.k67.2]; exact c7⟩, cl.gw.1, s_ringC kn cl n0 hc (fun S' Lc fK dK m cl' L0 pch clo rk => ⟨_, rfl, (cl'.pw hc.1 c7).1, ?_⟩)⟩
    have h := H1 hc k0 S' Lc fK dK m cl' L0 pch clo rk
    rw [rk.1]
    refine ⟨fun w => ?_, fun w => ?_⟩
    · rw [if_neg (by omega)] at h
      exact ⟨Or.inl rfl, h⟩
    · rw [if_pos (by omega)] at h
      exact ⟨Or.inr rfl, h⟩
theorem m0_wr {d : Nat} {S : Hp} {D c k : Int} {Q : Vl → Hp → Prop} (hK : zK S D = 12) (hN : zG S D 1 = 0) (H : Q (0, -2) S) : Ev (d + 1) 232 [(2, D), (0, c), (0, k)] S Q := by
  apply w_Model_wrongRing_0
  exact ⟨hK, fun z => absurd hN z, fun _ => H⟩
theorem r_last {d : Nat} {S : Hp} {D c : Int} (hD : 485 ≤ D) (R : Rel S D) : TW (d + 20) 108 234 [(0, c)] S D := by
  obtain ⟨v, u, p, n, g, F, Δ, kn, cl, md, re⟩ := R
  have id0 := rel_id kn cl md re
  unfold TW
  apply w_Crc_last_0
  rw [cl.1.a1, cl.c1]
  refine ⟨cl.1.1, cl.vw.1, fun n0 => ⟨cl.1.1, s_isNum cl ⟨_, rfl, fun z => ?_, fun z => ?_⟩⟩, fun n0 => ⟨_, rfl, id0.1, ?_⟩⟩
  · refine ⟨_, rfl, id0.1, m_last (md.mc n0) (fun z => absurd z n0) (fun _ _ => ⟨rfl, id0⟩) (fun _ hc => absurd hc (i0 z))⟩
  · have hc : 0 ≤ c ∧ c < p := i1 z
    have c7 := kn.p7 hc.2
    rw [cl.1.a5, cl.1.a13, cl.1.a1, cl.1.p5 c hc.1 c7]
    refine ⟨cl.1.1, cl.1.1, cl.1.1, ⟨cl.1.k67.1, hc.1, by rw [cl.1.k67.2]; exact c7⟩, cl.gw.1, s_ringC kn cl n0 hc (fun S1 Lc fK dK m cl1 L0 pch clo rk => ⟨_, rfl, (cl1.pw hc.1 c7).1, ?_⟩)⟩
    obtain ⟨mi, md1, re1⟩ := cls_run hD kn cl md re m
    rw [rk.1]
    refine ⟨_, rfl, mi, m_last (md1.mc n0) (fun z => absurd z n0) (fun _ w => absurd hc w) (fun _ _ S2 L fK' dK' o mc r => ?_)⟩
    rw [(ring_eq kn n0 L0 pch clo r).1]
    exact ⟨rfl, rel_op hD kn cl1 md1 re1 n0 o mc⟩
  · apply w_Model_last_0
    refine ⟨md.1.1, m0_wr md.1.1 (md.2.2.1.trans (Classical.not_not.mp n0)) ⟨_, rfl, fun z => absurd z (by decide), ?_⟩⟩
    rintro _ rfl
    rw [if_neg (by decide)]
    exact ⟨rfl, id0⟩
theorem r_depth {d : Nat} {S : Hp} {D c k j : Int} (hD : 485 ≤ D) (R : Rel S D) : TW (d + 20) 110 236 [(0, c), (0, k), (0, j)] S D := by
  obtain ⟨v, u, p, n, g, F, Δ, kn, cl, md, re⟩ := R
  have id0 := rel_id kn cl md re
  unfold TW
  apply w_Crc_depth_0
  rw [cl.1.a1, cl.c1]
  refine ⟨cl.1.1, cl.vw.1, fun n0 => ⟨cl.1.1, s_isRing kn cl n0 (fun hb => ⟨_, rfl, fun _ => ?_, fun z => absurd rfl z⟩) (fun hc k0 S1 Lc fK dK m cl1 L0 pch clo rk => ⟨_, rfl, fun z => ?_, fun z => ?_⟩)⟩, fun n0 => ⟨_, rfl, id0.1, ?_⟩⟩
  · refine ⟨_, rfl, id0.1, m_depth (md.mc n0) (fun z => absurd z n0) (fun _ _ => ⟨rfl, id0⟩) (fun _ hc S2 L fK dK o mc r => ?_)⟩
    rw [if_neg (by omega)]
    exact ⟨rfl, rel_op hD kn cl md re n0 o mc⟩
  · obtain ⟨mi, md1, re1⟩ := cls_run hD kn cl md re m
    refine ⟨_, rfl, mi, m_depth (md1.mc n0) (fun z => absurd z n0) (fun _ w => absurd hc w) (fun _ _ S2 L fK' dK' o mc r => ?_)⟩
    have := i0 z
    rw [(ring_eq kn n0 L0 pch clo r).1, if_neg (by omega)]
    exact ⟨rfl, rel_op hD kn cl1 md1 re1 n0 o mc⟩
  · have k1 := i1 z
    obtain ⟨mi, md1, re1⟩ := cls_run hD kn cl md re m
    have c7 := kn.p7 hc.2
    refine ⟨cl1.1.1, s_isPow cl1 ⟨_, rfl, fun z2 => ?_, fun z2 => ?_⟩⟩
    · refine ⟨_, rfl, mi, m_depth (md1.mc n0) (fun z => absurd z n0) (fun _ w => absurd hc w) (fun _ _ S2 L fK' dK' o mc r => ?_)⟩
      rw [if_neg (fun w => i0 z2 w.2)]
      exact ⟨rfl, rel_op hD kn cl1 md1 re1 n0 o mc⟩
    · have hj := i1 z2
      have n4 := kn.n4
      rw [cl1.1.a5, cl1.1.p5 c hc.1 c7]
      refine ⟨cl1.1.1, ⟨cl1.1.k67.1, hc.1, by rw [cl1.1.k67.2]; exact c7⟩, (cl1.pw hc.1 c7).1, s_deep (cl1.pw hc.1 c7) ⟨k0, by omega⟩ ⟨hj.1, by omega⟩ ⟨_, rfl, ?_⟩⟩
      refine ⟨_, rfl, mi, m_depth (md1.mc n0) (fun z => absurd z n0) (fun _ w => absurd hc w) (fun _ _ S2 L fK' dK' o mc r => ?_)⟩
      have e := ring_eq kn n0 L0 pch clo r
      rw [e.1, if_pos ⟨⟨k0, k1⟩, hj⟩, (e.2 k k0 k1).1.2 j hj.1 hj.2, (rk.2.1 k k0 k1).1.2.1 j hj.1 hj.2]
      exact ⟨rfl, rel_op hD kn cl1 md1 re1 n0 o mc⟩
  · apply w_Model_depth_0
    exact ⟨md.1.1, m0_wr md.1.1 (md.2.2.1.trans (Classical.not_not.mp n0)) ⟨_, rfl, fun z => absurd z (by decide), fun _ => ⟨rfl, id0⟩⟩⟩
theorem r_digit {d : Nat} {S : Hp} {D c k j i m : Int} (hD : 485 ≤ D) (R : Rel S D) : TW (d + 20) 111 237 [(0, c), (0, k), (0, j), (0, i), (0, m)] S D := by
  obtain ⟨v, u, p, n, g, F, Δ, kn, cl, md, re⟩ := R
  have id0 := rel_id kn cl md re
  unfold TW
  apply w_Crc_digit_0
  rw [cl.1.a1, cl.c1]
  refine ⟨cl.1.1, cl.vw.1, fun n0 => ⟨cl.1.1, s_isRing kn cl n0 (fun hb => ⟨_, rfl, fun _ => ?_, fun z => absurd rfl z⟩) (fun hc k0 S1 Lc fK dK mm cl1 L0 pch clo rk => ⟨_, rfl, fun z => ?_, fun z => ?_⟩)⟩, fun n0 => ⟨_, rfl, id0.1, ?_⟩⟩
  · refine ⟨_, rfl, id0.1, m_digit (md.mc n0) (fun z => absurd z n0) (fun _ _ => ⟨rfl, id0⟩) (fun _ hc S2 L fK dK o mc r => ?_)⟩
    rw [if_neg (by omega)]
    exact ⟨rfl, rel_op hD kn cl md re n0 o mc⟩
  · obtain ⟨mi, md1, re1⟩ := cls_run hD kn cl md re mm
    refine ⟨_, rfl, mi, m_digit (md1.mc n0) (fun z => absurd z n0) (fun _ w => absurd hc w) (fun _ _ S2 L fK' dK' o mc r => ?_)⟩
    have := i0 z
    rw [(ring_eq kn n0 L0 pch clo r).1, if_neg (by omega)]
    exact ⟨rfl, rel_op hD kn cl1 md1 re1 n0 o mc⟩
  · have k1 := i1 z
    obtain ⟨mi, md1, re1⟩ := cls_run hD kn cl md re mm
    have c7 := kn.p7 hc.2
    have no : ¬ ((0 ≤ j ∧ j < n) ∧ (0 ≤ i ∧ i < n) ∧ 0 ≤ m ∧ m ≤ 20) → Ev (d + 20) 237 [(2, D), (0, c), (0, k), (0, j), (0, i), (0, m)] S1 (fun r' S2 => r' = (0, -1) ∧ MID S1 S2 D ∧ Rel S2 D) := fun w => by
      refine m_digit (md1.mc n0) (fun z => absurd z n0) (fun _ w => absurd hc w) (fun _ _ S2 L fK' dK' o mc r => ?_)
      rw [if_neg (fun q => w q.2)]
      exact ⟨rfl, rel_op hD kn cl1 md1 re1 n0 o mc⟩
    refine ⟨cl1.1.1, s_isPow cl1 ⟨_, rfl, fun z2 => ⟨_, rfl, mi, no (fun w => i0 z2 w.1)⟩, fun z2 => ⟨cl1.1.1, s_isPow cl1 ⟨_, rfl, fun z3 => ⟨_, rfl, mi, no (fun w => ?_)⟩, fun z3 => ?_⟩⟩⟩⟩
    · rcases z3 with z3 | z3
      · exact i0 z3 w.2.1
      · omega
    · have hj := i1 z2
      have hi : 0 ≤ i ∧ i < n := i1 (fun w => z3 (Or.inl w))
      have n4 := kn.n4
      rw [cl1.1.a5, cl1.1.p5 c hc.1 c7]
      refine ⟨cl1.1.1, ⟨cl1.1.k67.1, hc.1, by rw [cl1.1.k67.2]; exact c7⟩, (cl1.pw hc.1 c7).1, s_figure (cl1.pw hc.1 c7) (cl1.pr hc.1 c7) ⟨k0, by omega⟩ ⟨hj.1, by omega⟩ ⟨hi.1, by omega⟩ ⟨_, rfl, ?_⟩⟩
      refine ⟨_, rfl, mi, m_digit (md1.mc n0) (fun z => absurd z n0) (fun _ w => absurd hc w) (fun _ _ S2 L fK' dK' o mc r => ?_)⟩
      have e := ring_eq kn n0 L0 pch clo r
      have a := (e.2 k k0 k1).1.1 j i m hj.1 hj.2 hi.1 (by omega) (by omega) (by omega)
      have b := (rk.2.1 k k0 k1).1.1 j i m hj.1 hj.2 hi.1 (by omega) (by omega) (by omega)
      rw [e.1, if_pos ⟨⟨k0, k1⟩, hj, hi, by omega, by omega⟩, a, b]
      exact ⟨rfl, rel_op hD kn cl1 md1 re1 n0 o mc⟩
  · apply w_Model_digit_0
    exact ⟨md.1.1, m0_wr md.1.1 (md.2.2.1.trans (Classical.not_not.mp n0)) ⟨_, rfl, fun z => absurd z (by decide), fun _ => ⟨rfl, id0⟩⟩⟩
/-- four depths together -/
theorem ls_four {n : Int} {f dp : Int → Int} (hn : 2 ≤ n ∧ n ≤ 4) (h0 : ∀ l, 0 ≤ l → l < n → f l = dp l) (h1 : ∀ l, n ≤ l → l < 4 → f l = 0) : f 0 + f 1 + f 2 + f 3 = lsF n dp := by
  unfold lsF
  have e : sm n.toNat dp = sm 4 f := by
    rw [sm_more (n := n.toNat) (m := 4) (by omega) (fun i i0 i1 => h1 i (by omega) (by omega))]
    exact (sm_congr fun i i0 i1 => h0 i i0 (by omega)).symm
  rw [e]
  show f 0 + f 1 + f 2 + f 3 = 0 + f 0 + f 1 + f 2 + f 3
  omega
theorem RD1.ls {S : Hp} {L n p k : Int} {fk : Int → Int → Int → Int} {dk : Int → Int} (hn : 2 ≤ n ∧ n ≤ 4) (r : RD1 S L n p k fk dk) : zG S (L + 2) (k * 4) + zG S (L + 2) (k * 4 + 1) + zG S (L + 2) (k * 4 + 2) + zG S (L + 2) (k * 4 + 3) = lsF n dk := by
  have := ls_four (f := fun l => zG S (L + 2) (k * 4 + l)) hn r.2.1 r.2.2.1
  (try dsimp only at this)
  rw [show k * 4 + 0 = k * 4 by omega] at this
  exact this
/-- depths of a chain are small -/
theorem rd1_b {S : Hp} {p n c k Lc L : Int} {C : Int → Int → Int} {fK : Int → Int → Int → Int → Int} {dK : Int → Int → Int} (hL : 0 ≤ Lc ∧ Lc ≤ 18) (pch : PCH p n C fK dK Lc) (k0 : 0 ≤ k) (k1 : k ≤ Lc) (r : RD1 S L n p k (fK k) (dK k)) : ∀ j, 0 ≤ j → j < 4 → 0 ≤ zG S (L + 2) (k * 4 + j) ∧ zG S (L + 2) (k * 4 + j) < 1000 := fun j j0 j1 => by
  by_cases q : j < n
  · have b := pch.dp k.toNat (by omega) j j0 q
    rw [show ((k.toNat : Nat) : Int) = k by omega] at b
    rw [r.2.1 j j0 q]
    omega
  · rw [r.2.2.1 j (by omega) j1]
    omega
theorem lsF_congr {n : Int} {f f' : Int → Int} (h : ∀ l, 0 ≤ l → l < n → f' l = f l) : lsF n f' = lsF n f := by
  unfold lsF
  exact sm_congr fun i i0 i1 => h i i0 (by omega)
theorem r_lost {d : Nat} {S : Hp} {D c k : Int} (hD : 485 ≤ D) (R : Rel S D) : TW (d + 20) 112 238 [(0, c), (0, k)] S D := by
  obtain ⟨v, u, p, n, g, F, Δ, kn, cl, md, re⟩ := R
  have id0 := rel_id kn cl md re
  unfold TW
  apply w_Crc_lost_0
  rw [cl.1.a1, cl.c1]
  refine ⟨cl.1.1, cl.vw.1, fun n0 => ⟨cl.1.1, s_isRing kn cl n0 (fun hb => ⟨_, rfl, fun _ => ?_, fun z => absurd rfl z⟩) (fun hc k0 S1 Lc fK dK m cl1 L0 pch clo rk => ⟨_, rfl, fun z => ?_, fun z => ?_⟩)⟩, fun n0 => ⟨_, rfl, id0.1, ?_⟩⟩
  · refine ⟨_, rfl, id0.1, m_lost (md.mc n0) (fun z => absurd z n0) (fun _ _ => ⟨rfl, id0⟩) (fun _ hc S2 L fK dK o mc r => ?_)⟩
    rw [if_neg (by omega)]
    exact ⟨rfl, rel_op hD kn cl md re n0 o mc⟩
  · obtain ⟨mi, md1, re1⟩ := cls_run hD kn cl md re m
    refine ⟨_, rfl, mi, m_lost (md1.mc n0) (fun z => absurd z n0) (fun _ w => absurd hc w) (fun _ _ S2 L fK' dK' o mc r => ?_)⟩
    have := i0 z
    rw [(ring_eq kn n0 L0 pch clo r).1, if_neg (by omega)]
    exact ⟨rfl, rel_op hD kn cl1 md1 re1 n0 o mc⟩
  · have k1 := i1 z
    obtain ⟨mi, md1, re1⟩ := cls_run hD kn cl md re m
    have c7 := kn.p7 hc.2
    have hn := CLS.n4 kn n0
    have rd := (rk.2.1 k k0 k1).1
    rw [cl1.1.a5, cl1.1.p5 c hc.1 c7]
    refine ⟨cl1.1.1, ⟨cl1.1.k67.1, hc.1, by rw [cl1.1.k67.2]; exact c7⟩, (cl1.pw hc.1 c7).1, s_allDepths (cl1.pw hc.1 c7) ⟨k0, by omega⟩ (rd1_b (c := c) L0 pch k0 k1 rd) ⟨_, rfl, ?_⟩⟩
    rw [rd.ls hn]
    refine ⟨_, rfl, mi, m_lost (md1.mc n0) (fun z => absurd z n0) (fun _ w => absurd hc w) (fun _ _ S2 L fK' dK' o mc r => ?_)⟩
    have e := ring_eq kn n0 L0 pch clo r
    rw [e.1, if_pos ⟨k0, k1⟩, lsF_congr (e.2 k k0 k1).1.2]
    exact ⟨rfl, rel_op hD kn cl1 md1 re1 n0 o mc⟩
  · apply w_Model_lost_0
    exact ⟨md.1.1, m0_wr md.1.1 (md.2.2.1.trans (Classical.not_not.mp n0)) ⟨_, rfl, fun z => absurd z (by decide), fun _ => ⟨rfl, id0⟩⟩⟩
theorem r_classes {d : Nat} {S : Hp} {D c k w : Int} (hD : 485 ≤ D) (R : Rel S D) : TW (d + 20) 113 241 [(0, c), (0, k), (0, w)] S D := by
  obtain ⟨v, u, p, n, g, F, Δ, kn, cl, md, re⟩ := R
  have id0 := rel_id kn cl md re
  unfold TW
  apply w_Crc_classes_0
  rw [cl.1.a1, cl.c1]
  refine ⟨cl.1.1, cl.vw.1, fun n0 => ⟨cl.1.1, s_isRing kn cl n0 (fun hb => ⟨_, rfl, fun _ => ?_, fun z => absurd (Or.inl rfl) z⟩) (fun hc k0 S1 Lc fK dK m cl1 L0 pch clo rk => ⟨_, rfl, fun z => ?_, fun z => ?_⟩)⟩, fun n0 => ⟨_, rfl, id0.1, ?_⟩⟩
  · refine ⟨_, rfl, id0.1, m_classes (md.mc n0) (fun z => absurd z n0) (fun _ _ => ⟨rfl, id0⟩) (fun _ hc S2 L fK dK o mc r => ?_)⟩
    rw [if_neg (by omega)]
    exact ⟨rfl, rel_op hD kn cl md re n0 o mc⟩
  · obtain ⟨mi, md1, re1⟩ := cls_run hD kn cl md re m
    refine ⟨_, rfl, mi, m_classes (md1.mc n0) (fun z => absurd z n0) (fun _ w => absurd hc w) (fun _ _ S2 L fK' dK' o mc r => ?_)⟩
    have e := (ring_eq kn n0 L0 pch clo r).1
    rw [if_neg (fun q => by
      rcases z with z | z
      · have := i0 z
        omega
      · omega)]
    exact ⟨rfl, rel_op hD kn cl1 md1 re1 n0 o mc⟩
  · have k1 : k ≤ Lc := i1 (fun q => z (Or.inl q))
    obtain ⟨mi, md1, re1⟩ := cls_run hD kn cl md re m
    have c7 := kn.p7 hc.2
    have hn := CLS.n4 kn n0
    have pw1 := cl1.pw hc.1 c7
    rw [cl1.1.a5, cl1.1.p5 c hc.1 c7, pw1.2.2.2.1, pw1.2.2.2.2.1]
    have sh : zK S1 1 = 11 ∧ (zK S1 67 = 105 ∧ 0 ≤ c ∧ c < zL S1 67) ∧ zK S1 (301 + 6 * c) = 7 := ⟨cl1.1.1, ⟨cl1.1.k67.1, hc.1, by rw [cl1.1.k67.2]; exact c7⟩, pw1.1⟩
    have r3 := pw1.2.2.2.2.2.2.2.2.1
    have r4 := pw1.2.2.2.2.2.2.2.2.2.1
    refine ⟨fun _ => ⟨sh.1, sh.2.1, sh.2.2, r4.1, k0, by rw [r4.2]; omega⟩, fun _ => ⟨sh.1, sh.2.1, sh.2.2, r3.1, k0, by rw [r3.2]; omega⟩, ?_⟩
    rintro x3 hx3
    refine ⟨_, rfl, mi, m_classes (md1.mc n0) (fun z => absurd z n0) (fun _ w => absurd hc w) (fun _ _ S2 L fK' dK' o mc r => ?_)⟩
    have e := ring_eq kn n0 L0 pch clo r
    have w01 : w = 0 ∨ w = 1 := by omega
    have rd2 := (rk.2.1 k k0 k1).2
    have cc : clF p n w (tb1 p n (cfF (mvC p c F) n) (fK' k) (dK' k) 0) = clF p n w (tb1 p n (cfF (mvC p c F) n) (fK k) (dK k) 0) := funext fun a => clF_congr hn (fun i j l i0 i1 j0 j1 l0 l1 => (e.2 k k0 k1).2 0 i j l (by omega) i0 i1 j0 j1 l0 l1) a
    rw [e.1, if_pos ⟨⟨k0, k1⟩, by omega, by omega⟩, cc]
    refine ⟨?_, rel_op hD kn cl1 md1 re1 n0 o mc⟩
    rw [hx3]
    rcases w01 with q | q
    · rw [q, if_neg (by decide), rd2.1]
    · rw [q, if_pos (by decide), rd2.2]
  · apply w_Model_classes_0
    exact ⟨md.1.1, m0_wr md.1.1 (md.2.2.1.trans (Classical.not_not.mp n0)) ⟨_, rfl, fun z => absurd z (by decide), fun _ => ⟨rfl, id0⟩⟩⟩
