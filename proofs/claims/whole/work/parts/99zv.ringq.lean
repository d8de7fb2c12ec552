/-! The model: what calls ask of rings. -/
theorem gbF_01 (g : Int) : 0 ≤ gbF g ∧ gbF g ≤ 1 := by
  unfold gbF
  split <;> omega
theorem PCH.dp {p n : Int} {C : Int → Int → Int} {fK : Int → Int → Int → Int → Int} {dK : Int → Int → Int} {L : Int} (h : PCH p n C fK dK L) : ∀ (k : Nat), (k : Int) ≤ L → ∀ l, 0 ≤ l → l < n → 0 ≤ dK k l ∧ dK k l ≤ k
  | 0, _, l, l0, l1 => by
    have := h.2.1 l l0 l1
    show 0 ≤ dK 0 l ∧ dK 0 l ≤ 0
    omega
  | k + 1, hk, l, l0, l1 => by
    have ih := h.dp k (by omega) l l0 l1
    obtain ⟨top, g, -, -, n1⟩ := h.2.2 k (by omega) (by omega)
    have e := (n1 l l0 l1).1
    have := gbF_01 (g l)
    rw [show ((k + 1 : Nat) : Int) = (k : Int) + 1 by omega]
    omega
/-- the model's curve, and its rings where they are known -/
def MC (S : Hp) (D p n : Int) (F : Int → Int) : Prop := DW S D ∧ zG S D 0 = p ∧ isPr p ∧ zG S D 1 = n ∧ (n = 0 ∨ (2 ≤ n ∧ n ≤ 4)) ∧ TRI S D ∧ (∀ e, 0 ≤ e → e < 49 → zG S (D + 1) e = F e) ∧ (∀ e, 0 ≤ F e ∧ F e < p) ∧ (n ≠ 0 → ∀ c, 0 ≤ c → c < p → MTH p n (cfF (mvC p c F) n)) ∧ (n ≠ 0 → ∀ c, 0 ≤ c → c < p → zG S D 48 = c → ∃ L fK dK, RG S D c p n (cfF (mvC p c F) n) L fK dK)
def opR (D : Int) (S S' : Hp) : Prop := Md (opM D) S S' ∧ ∀ i, i ≠ 47 → i ≠ 48 → i ≠ 53 → zG S' D i = zG S D i
theorem opR.refl {D : Int} {S : Hp} : opR D S S := ⟨Md.refl _ _, fun _ _ _ _ => rfl⟩
theorem opR.tr {D : Int} {S T U : Hp} (h : opR D S T) (h' : opR D T U) : opR D S U := ⟨h.1.tr h'.1, fun i i1 i2 i3 => (h'.2 i i1 i2 i3).trans (h.2 i i1 i2 i3)⟩
theorem isPr_b {p : Int} (h : isPr p) : 2 ≤ p ∧ p ≤ 7 := by omega
theorem m_opensM {d : Nat} {D p n c : Int} {S : Hp} {F : Int → Int} {Q : Vl → Hp → Prop} (h : MC S D p n F) (n0 : n ≠ 0) (hc : 0 ≤ c ∧ c < p) (H : ∀ S' L fK dK, opR D S S' → MC S' D p n F → (∀ e, 0 ≤ e → e < 49 → zG S' (D + 31) e = mvC p c F e) → RG S' D c p n (cfF (mvC p c F) n) L fK dK → Q (3, 0) S') : Ev (d + 4) 231 [(2, D), (0, c)] S Q := by
  obtain ⟨h1, h2, h3, h4, h5, h6, h7, h8, h9, h10⟩ := h
  refine m_opens h1 h2 (isPr_b h3) h4 (by omega) hc h6 h7 h8 (h9 n0 c hc.1 hc.2) (h10 n0 c hc.1 hc.2) (fun S' L fK dK m w T o v r => H S' L fK dK ⟨m, o⟩ ⟨w, (o 0 (by omega) (by omega) (by omega)).trans h2, h3, (o 1 (by omega) (by omega) (by omega)).trans h4, h5, T, fun e e0 e1 => (m.G (by unfold opM; omega) e).trans (h7 e e0 e1), h8, h9, fun _ c' c0 c1 e => ?_⟩ v r)
  have : c' = c := e.symm.trans r.1
  rw [this]
  exact ⟨L, fK, dK, r⟩
theorem m_wrongRing {d : Nat} {D p n c k : Int} {S : Hp} {F : Int → Int} {Q : Vl → Hp → Prop} (h : MC S D p n F) (H0 : n = 0 → Q (0, -2) S) (H1 : n ≠ 0 → ¬ (0 ≤ c ∧ c < p) → Q (0, -1) S) (H2 : n ≠ 0 → 0 ≤ c ∧ c < p → ∀ S' L fK dK, opR D S S' → MC S' D p n F → (∀ e, 0 ≤ e → e < 49 → zG S' (D + 31) e = mvC p c F e) → RG S' D c p n (cfF (mvC p c F) n) L fK dK → (¬ (0 ≤ k ∧ k ≤ L) → Q (0, -1) S') ∧ (0 ≤ k ∧ k ≤ L → Q (0, 0) S')) : Ev (d + 5) 232 [(2, D), (0, c), (0, k)] S Q := by
  have hh := h
  obtain ⟨h1, h2, h3, h4, h5, h6, h7, h8, h9, h10⟩ := h
  apply w_Model_wrongRing_0
  rw [h4]
  refine ⟨h1.1, fun n0 => ⟨h1.1, m_isNumber h1.1 h2 (isPr_b h3) ⟨_, rfl, fun hz => ⟨h1.1, ?_⟩, fun hz => H1 n0 (i2 hz)⟩⟩, fun n0 => H0 (by omega)⟩
  have hc := i1 hz
  refine m_opensM hh n0 hc (fun S' L fK dK o mc v r => ⟨rfl, mc.1.1, ?_⟩)
  have H2 := H2 n0 hc S' L fK dK o mc v r
  rw [r.2.1]
  refine m_in ⟨_, rfl, ?_⟩
  rintro _ rfl
  by_cases q : 0 ≤ k ∧ k ≤ L
  · rw [if_pos q, if_neg (by omega)]
    exact H2.2 q
  · rw [if_neg q, if_pos rfl]
    exact H2.1 q
def lsF (n : Int) (dp : Int → Int) : Int := sm n.toNat dp
theorem m_lostOf {d : Nat} {D p n k : Int} {S : Hp} {fig : Int → Int → Int → Int} {dp : Int → Int} {Q : Vl → Hp → Prop} (h : DW S D) (hN : zG S D 1 = n) (hn : 2 ≤ n ∧ n ≤ 4) (hk : 0 ≤ k ∧ k < 20) (hd : DG S D k n p fig dp) (hb : ∀ l, 0 ≤ l → l < n → 0 ≤ dp l ∧ dp l ≤ 20) (H : Q (0, lsF n dp) S) : Ev d 233 [(2, D), (0, k)] S Q := by
  apply w_Model_lostOf_0
  refine loopU (α := Int) (P := fun j v => At d 233 c233_4 [(0, (2, D)), (1, (0, k)), (2, (0, v)), (3, (0, j))] [] S Q) (I := fun j v => 0 ≤ j ∧ v = sm j.toNat dp ∧ 0 ≤ v ∧ v ≤ 20 * j) n ?_ ?_ 0 0 (by omega) ⟨by omega, rfl, by omega, by omega⟩
  · rintro j v hj ⟨j0, hv, v0, v1⟩ hk2
    have b := hb j j0 hj
    apply w_Model_lostOf_4
    rw [hN, h.x_depths.1, h.x_depths.2.1, h.x_depths.2.2, w32_id (x := 4 * k) (by omega) (by omega), w32_id (x := 4 * k + j) (by omega) (by omega), hd.2 j j0 hj, w32_id (x := v + dp j) (by omega) (by omega)]
    refine ⟨h.1, fun z => by omega, fun _ => ⟨h.1, ⟨rfl, by omega, by omega⟩, ?_⟩⟩
    rintro _ rfl _ rfl
    rw [w32_id (by omega) (by omega)]
    refine hk2 _ ⟨by omega, ?_, by omega, by omega⟩
    rw [show (j + 1).toNat = j.toNat + 1 by omega, sm_succ, show ((j.toNat : Nat) : Int) = j by omega, hv]
  · rintro v ⟨-, hv, -, -⟩
    apply w_Model_lostOf_4
    rw [hN, hv]
    exact ⟨h.1, fun _ => H, fun z => absurd (Int.le_refl n) z⟩
theorem RG.b {S : Hp} {D c p n L : Int} {C : Int → Int → Int} {fK : Int → Int → Int → Int → Int} {dK : Int → Int → Int} (r : RG S D c p n C L fK dK) {k : Int} (hk : 0 ≤ k ∧ k ≤ L) : DG S D k n p (fK k) (dK k) ∧ ∀ l, 0 ≤ l → l < n → 0 ≤ dK k l ∧ dK k l ≤ 20 := by
  refine ⟨r.2.2.2.2.2.2 k hk.1 hk.2, fun l l0 l1 => ?_⟩
  have := r.2.2.2.2.1.dp k.toNat (by omega) l l0 l1
  rw [show ((k.toNat : Nat) : Int) = k by omega] at this
  have := r.2.2.2.1
  omega
theorem m_last {d : Nat} {D p n c : Int} {S : Hp} {F : Int → Int} {Q : Vl → Hp → Prop} (h : MC S D p n F) (H0 : n = 0 → Q (0, -2) S) (H1 : n ≠ 0 → ¬ (0 ≤ c ∧ c < p) → Q (0, -1) S) (H2 : n ≠ 0 → 0 ≤ c ∧ c < p → ∀ S' L fK dK, opR D S S' → MC S' D p n F → RG S' D c p n (cfF (mvC p c F) n) L fK dK → Q (0, L) S') : Ev (d + 6) 234 [(2, D), (0, c)] S Q := by
  apply w_Model_last_0
  refine ⟨h.1.1, m_wrongRing h (fun n0 => ⟨_, rfl, fun z => by omega, ?_⟩) (fun n0 hc => ⟨_, rfl, fun z => by omega, ?_⟩) (fun n0 hc S' L fK dK o mc v r => ⟨fun z => absurd ⟨Int.le_refl 0, r.2.2.1⟩ z, fun _ => ⟨_, rfl, fun _ => mc.1.1, ?_⟩⟩)⟩
  · rintro _ rfl
    exact H0 n0
  · rintro _ rfl
    exact H1 n0 hc
  · rintro _ rfl
    rw [if_pos rfl, r.2.1]
    exact H2 n0 hc S' L fK dK o mc r
theorem m_depth {d : Nat} {D p n c k j : Int} {S : Hp} {F : Int → Int} {Q : Vl → Hp → Prop} (h : MC S D p n F) (H0 : n = 0 → Q (0, -2) S) (H1 : n ≠ 0 → ¬ (0 ≤ c ∧ c < p) → Q (0, -1) S) (H2 : n ≠ 0 → 0 ≤ c ∧ c < p → ∀ S' L fK dK, opR D S S' → MC S' D p n F → RG S' D c p n (cfF (mvC p c F) n) L fK dK → Q (0, if (0 ≤ k ∧ k ≤ L) ∧ 0 ≤ j ∧ j < n then dK k j else -1) S') : Ev (d + 6) 236 [(2, D), (0, c), (0, k), (0, j)] S Q := by
  apply w_Model_depth_0
  refine ⟨h.1.1, m_wrongRing h (fun n0 => ⟨_, rfl, fun z => by omega, fun _ => H0 n0⟩) (fun n0 hc => ⟨_, rfl, fun z => by omega, fun _ => H1 n0 hc⟩) (fun n0 hc S' L fK dK o mc v r => ⟨fun z => ⟨_, rfl, fun y => by omega, fun _ => ?_⟩, fun z => ⟨_, rfl, fun _ => ⟨mc.1.1, ?_⟩, fun y => absurd rfl y⟩⟩)⟩
  · have := H2 n0 hc S' L fK dK o mc r
    rw [if_neg (fun y => z y.1)] at this
    exact this
  · have hn : 2 ≤ n ∧ n ≤ 4 := by have := mc.2.2.2.2.1; omega
    have HH := H2 n0 hc S' L fK dK o mc r
    have L9 := r.2.2.2.1
    rw [mc.2.2.2.1, w32_id (by omega) (by omega)]
    refine m_in ⟨_, rfl, fun y => ?_, fun y => ⟨mc.1.1, ?_⟩⟩
    · rw [if_neg (fun x => i0 y (by omega))] at HH
      exact HH
    · have hj := i1 y
      rw [if_pos (by omega)] at HH
      rw [mc.1.x_depths.1, mc.1.x_depths.2.1, mc.1.x_depths.2.2, w32_id (x := 4 * k) (by omega) (by omega), w32_id (x := 4 * k + j) (by omega) (by omega), (r.b z).1.2 j hj.1 (by omega)]
      exact ⟨⟨rfl, by omega, by omega⟩, HH⟩
theorem m_digit {d : Nat} {D p n c k j i m : Int} {S : Hp} {F : Int → Int} {Q : Vl → Hp → Prop} (h : MC S D p n F) (H0 : n = 0 → Q (0, -2) S) (H1 : n ≠ 0 → ¬ (0 ≤ c ∧ c < p) → Q (0, -1) S) (H2 : n ≠ 0 → 0 ≤ c ∧ c < p → ∀ S' L fK dK, opR D S S' → MC S' D p n F → RG S' D c p n (cfF (mvC p c F) n) L fK dK → Q (0, if (0 ≤ k ∧ k ≤ L) ∧ (0 ≤ j ∧ j < n) ∧ (0 ≤ i ∧ i < n) ∧ 0 ≤ m ∧ m ≤ 20 then fK k j i m else -1) S') : Ev (d + 6) 237 [(2, D), (0, c), (0, k), (0, j), (0, i), (0, m)] S Q := by
  apply w_Model_digit_0
  refine ⟨h.1.1, m_wrongRing h (fun n0 => ⟨_, rfl, fun z => by omega, fun _ => H0 n0⟩) (fun n0 hc => ⟨_, rfl, fun z => by omega, fun _ => H1 n0 hc⟩) (fun n0 hc S' L fK dK o mc v r => ⟨fun z => ⟨_, rfl, fun y => by omega, fun _ => ?_⟩, fun z => ⟨_, rfl, fun _ => ⟨mc.1.1, ?_⟩, fun y => absurd rfl y⟩⟩)⟩
  · have := H2 n0 hc S' L fK dK o mc r
    rw [if_neg (fun y => z y.1)] at this
    exact this
  · have hn : 2 ≤ n ∧ n ≤ 4 := by have := mc.2.2.2.2.1; omega
    have HH := H2 n0 hc S' L fK dK o mc r
    have L9 := r.2.2.2.1
    have e1 : w32 (zG S' D 1 - 1) = n - 1 := by rw [mc.2.2.2.1, w32_id (by omega) (by omega)]
    have no : ¬ ((0 ≤ k ∧ k ≤ L) ∧ (0 ≤ j ∧ j < n) ∧ (0 ≤ i ∧ i < n) ∧ 0 ≤ m ∧ m ≤ 20) → Q (0, -1) S' := fun y => by
      rw [if_neg y] at HH
      exact HH
    rw [e1]
    refine m_in ⟨_, rfl, fun y => no (fun x => i0 y (by omega)), fun y1 => ⟨mc.1.1, ?_⟩⟩
    rw [e1]
    refine m_in ⟨_, rfl, fun y => no (fun x => i0 y (by omega)), fun y2 => m_in ⟨_, rfl, fun y => no (fun x => i0 y (by omega)), fun y3 => ⟨mc.1.1, mc.1.1, ?_⟩⟩⟩
    have hj := i1 y1
    have hi := i1 y2
    have hm := i1 y3
    rw [if_pos (by omega)] at HH
    refine m_digitAt (by omega) (by omega) (by omega) (by omega) ⟨_, rfl, ?_⟩
    rw [mc.1.x_digits.1, mc.1.x_digits.2.1, mc.1.x_digits.2.2, ((r.b z).1.1 j i m hj.1 (by omega) hi.1 (by omega) hm.1 (by omega)).1]
    exact ⟨⟨rfl, by omega, by omega⟩, HH⟩
theorem m_lost {d : Nat} {D p n c k : Int} {S : Hp} {F : Int → Int} {Q : Vl → Hp → Prop} (h : MC S D p n F) (H0 : n = 0 → Q (0, -2) S) (H1 : n ≠ 0 → ¬ (0 ≤ c ∧ c < p) → Q (0, -1) S) (H2 : n ≠ 0 → 0 ≤ c ∧ c < p → ∀ S' L fK dK, opR D S S' → MC S' D p n F → RG S' D c p n (cfF (mvC p c F) n) L fK dK → Q (0, if 0 ≤ k ∧ k ≤ L then lsF n (dK k) else -1) S') : Ev (d + 6) 238 [(2, D), (0, c), (0, k)] S Q := by
  apply w_Model_lost_0
  refine ⟨h.1.1, m_wrongRing h (fun n0 => ⟨_, rfl, fun z => by omega, fun _ => H0 n0⟩) (fun n0 hc => ⟨_, rfl, fun z => by omega, fun _ => H1 n0 hc⟩) (fun n0 hc S' L fK dK o mc v r => ⟨fun z => ⟨_, rfl, fun y => by omega, fun _ => ?_⟩, fun z => ⟨_, rfl, fun _ => ⟨mc.1.1, ?_⟩, fun y => absurd rfl y⟩⟩)⟩
  · have := H2 n0 hc S' L fK dK o mc r
    rw [if_neg z] at this
    exact this
  · have hn : 2 ≤ n ∧ n ≤ 4 := by have := mc.2.2.2.2.1; omega
    have L9 := r.2.2.2.1
    have := H2 n0 hc S' L fK dK o mc r
    rw [if_pos z] at this
    exact m_lostOf mc.1 mc.2.2.2.1 hn (by omega) (r.b z).1 (r.b z).2 ⟨_, rfl, this⟩
/-- of each number its rings -/
def ALL (p n : Int) (F : Int → Int) (P : Int → Int → (Int → Int → Int → Int → Int) → (Int → Int → Int) → Prop) : Prop := ∀ c, 0 ≤ c → c < p → ∃ L fK dK, 0 ≤ L ∧ L ≤ 19 ∧ PCH p n (cfF (mvC p c F) n) fK dK L ∧ CLO p n (cfF (mvC p c F) n) fK dK L ∧ P c L fK dK
theorem m_open {d : Nat} {D p n : Int} {S : Hp} {F : Int → Int} {Q : Vl → Hp → Prop} (h : MC S D p n F) (H0 : n = 0 → Q (0, -2) S) (H1 : n ≠ 0 → ∀ S' f, opR D S S' → MC S' D p n F → ALL p n F (fun c L _ _ => f c = L) → Q (0, bsN f p.toNat) S') : Ev (d + 5) 235 [(2, D)] S Q := by
  apply w_Model_open_0
  rw [h.2.2.2.1]
  refine ⟨h.1.1, fun n0 => ?_, fun n0 => H0 (by omega)⟩
  have pb := isPr_b h.2.2.1
  have H1 := H1 n0
  refine loopU3 (α := Int → Int) (β := Int) (γ := Hp) (P := fun c _ v S' => At (d + 5) 235 c235_14 [(0, (2, D)), (1, (0, v)), (2, (0, c))] [] S' Q) (I := fun c f v S' => 0 ≤ c ∧ v = bsN f c.toNat ∧ opR D S S' ∧ MC S' D p n F ∧ ∀ e, 0 ≤ e → e < c → ∃ L fK dK, 0 ≤ L ∧ L ≤ 19 ∧ PCH p n (cfF (mvC p e F) n) fK dK L ∧ CLO p n (cfF (mvC p e F) n) fK dK L ∧ f e = L) p ?_ ?_ 0 (fun _ => 0) 0 S (by omega) ⟨by omega, rfl, opR.refl, h, fun e e0 e1 => by omega⟩
  · rintro c f v S1 hc ⟨c0, hv, o1, mc1, al⟩ hk
    apply w_Model_open_14
    rw [mc1.2.1]
    refine ⟨mc1.1.1, fun z => by omega, fun _ => ⟨mc1.1.1, m_opensM mc1 n0 ⟨c0, hc⟩ (fun S2 L fK dK o2 mc2 v2 r => ⟨rfl, mc2.1.1, ?_⟩)⟩⟩
    rw [r.2.1]
    rintro _ rfl _ rfl _ rfl
    rw [w32_id (by omega) (by omega)]
    refine hk (fun e => if e = c then L else f e) _ S2 ⟨by omega, ?_, o1.tr o2, mc2, fun e e0 e1 => ?_⟩
    · rw [show (c + 1).toNat = c.toNat + 1 by omega]
      show _ = bOr (bsN (fun e => if e = c then L else f e) c.toNat) (if (if ((c.toNat : Nat) : Int) = c then L else f (c.toNat : Int)) = 0 then 0 else bShl 1 (c.toNat : Int))
      rw [show ((c.toNat : Nat) : Int) = c by omega, if_pos rfl, hv, bsN_congr (g := fun e => if e = c then L else f e) c.toNat (fun k k0 k1 => by
        (try dsimp only)
        rw [if_neg (by omega)])]
      congr 1
      have := r.2.2.1
      by_cases q : L = 0
      · rw [if_pos (by omega), if_pos q]
      · rw [if_neg (by omega), if_neg q]
    · by_cases q : e = c
      · rw [q]
        exact ⟨L, fK, dK, r.2.2.1, r.2.2.2.1, r.2.2.2.2.1, r.2.2.2.2.2.1, if_pos rfl⟩
      · obtain ⟨L', fK', dK', a1, a2, a3, a4, a5⟩ := al e e0 (by omega)
        exact ⟨L', fK', dK', a1, a2, a3, a4, by (try dsimp only); rw [if_neg q]; exact a5⟩
  · rintro f v S1 ⟨-, hv, o1, mc1, al⟩
    apply w_Model_open_14
    rw [mc1.2.1, hv]
    exact ⟨mc1.1.1, fun _ => H1 S1 f o1 mc1 al, fun z => absurd (Int.le_refl p) z⟩
