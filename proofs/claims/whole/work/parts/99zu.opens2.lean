/-! The model: opens. -/
def opM (D : Int) : Int → Prop := fun x => x = D ∨ (D + 31 ≤ x ∧ x ≤ D + 40)
set_option maxHeartbeats 4000000 in
theorem m_opensLoop {d : Nat} {D p n c : Int} {S : Hp} {C : Int → Int → Int} {Q : Vl → Hp → Prop} (h2 : 2 ≤ p ∧ p ≤ 7) (hn : 2 ≤ n ∧ n ≤ 4) (bC : ∀ j e, 0 ≤ C j e ∧ C j e < p) (sC : ∀ j e, (e < 0 ∨ 6 < e) → C j e = 0) (zC : ∀ j e, n ≤ j → C j e = 0) (hM : MTH p n C) (h : DW S D) (hp : zG S D 0 = p) (hN : zG S D 1 = n) (hT : TRI S D) (h47 : zG S D 47 = 0) (h48 : zG S D 48 = c) (hC : ∀ k, 0 ≤ k → k < 7 * n → zG S (D + 31) k = C (k / 7) (k % 7)) (hD0 : DG S D 0 n p fg0 (fun _ => 0)) (H : ∀ S' L fK dK, Md (opM D) S S' → DW S' D → TRI S' D → (∀ i, i ≠ 47 → i ≠ 53 → zG S' D i = zG S D i) → (∀ e, zG S' (D + 31) e = zG S (D + 31) e) → RG S' D c p n C L fK dK → Q (3, 0) S') : At (d + 4) 231 c231_22 [(0, (2, D)), (2, (0, 1))] [] S Q := by
  refine loopU3 (α := Int → Int → Int → Int → Int) (β := Int → Int → Int) (γ := Hp) (P := fun L _ _ S' => At (d + 4) 231 c231_22 [(0, (2, D)), (2, (0, 1))] [] S' Q) (I := fun L fK dK S' => 0 ≤ L ∧ Md (opM D) S S' ∧ DW S' D ∧ TRI S' D ∧ (∀ i, i ≠ 47 → i ≠ 53 → zG S' D i = zG S D i) ∧ zG S' D 47 = L ∧ (∀ e, zG S' (D + 31) e = zG S (D + 31) e) ∧ PCH p n C fK dK L ∧ ∀ k, 0 ≤ k → k ≤ L → DG S' D k n p (fK k) (dK k)) 19 ?_ ?_ 0 (fun _ => fg0) (fun _ _ => 0) S (by omega) ⟨by omega, Md.refl _ _, h, hT, fun _ _ _ => rfl, h47, fun _ => rfl, ⟨fun l i m _ _ _ _ _ _ => rfl, fun l _ _ => rfl, fun k k0 k1 => by omega⟩, fun k k0 k1 => by rw [show k = 0 by omega]; exact hD0⟩
  · rintro L fK dK S1 hL ⟨L0, m1, w1, T1, o1, e1, v1, pc, dg⟩ hnx
    obtain ⟨-, hr, hok, -, hgood⟩ := hM fK dK L L0 (by omega) pc
    have p1 : zG S1 D 0 = p := (o1 0 (by omega) (by omega)).trans hp
    have n1 : zG S1 D 1 = n := (o1 1 (by omega) (by omega)).trans hN
    apply w_Model_opens_22
    rw [e1]
    refine ⟨fun _ => w1.1, fun z => absurd z (by omega), fun _ => ⟨w1.1, w1.1, ?_⟩⟩
    refine m_findsProducts (fig := fK L) (dp := dK L) w1 p1 h2 n1 hn (by omega) (dg L L0 (Int.le_refl L)) hr (fun k k0 k1 => (v1 k).trans (hC k k0 k1)) bC sC zC hok (fun S2 m2 w2 o2 e2 t2 => ⟨rfl, w2.1, ?_⟩)
    have p2 : zG S2 D 0 = p := (o2 0 (by omega)).trans p1
    have n2 : zG S2 D 1 = n := (o2 1 (by omega)).trans n1
    have t21 : ∀ i j l, 0 ≤ i → i < n → 0 ≤ j → j < n → 0 ≤ l → l < n → zG S2 (D + 36) (16 * i + 4 * j + l) = tb1 p n C (fK L) (dK L) 0 (16 * i + 4 * j + l) := fun i j l i0 i1 j0 j1 l0 l1 => by
      rw [(t2 i j l i0 i1 j0 j1 l0 l1).1]
      unfold tb1
      rw [show (16 * i + 4 * j + l) / 16 = i by omega, show (16 * i + 4 * j + l) / 4 % 4 = j by omega, show (16 * i + 4 * j + l) % 4 = l by omega]
    have t22 : ∀ i j l, 0 ≤ i → i < n → 0 ≤ j → j < n → 0 ≤ l → l < n → zG S2 (D + 37) (16 * i + 4 * j + l) = tb1 p n C (fK L) (dK L) 1 (16 * i + 4 * j + l) := fun i j l i0 i1 j0 j1 l0 l1 => by
      rw [(t2 i j l i0 i1 j0 j1 l0 l1).2]
      unfold tb1
      rw [show (16 * i + 4 * j + l) / 16 = i by omega, show (16 * i + 4 * j + l) / 4 % 4 = j by omega, show (16 * i + 4 * j + l) % 4 = l by omega]
    have TB2 : TB S2 D n := fun i j l i0 i1 j0 j1 l0 l1 => by
      rw [(t2 i j l i0 i1 j0 j1 l0 l1).1, (t2 i j l i0 i1 j0 j1 l0 l1).2]
      have b1 := shN_bd (n := n) (dp := dK L) (fig := fK L) h2.1 (fun b x => mbL_bd (n := n) (i := i) (j := j) (C := C) (fig := fK L) h2.1 b x) l 0
      have b2 := shN_bd (n := n) (dp := dK L) (fig := fK L) h2.1 (fun b x => mbL_bd (n := n) (i := i) (j := j) (C := C) (fig := fK L) h2.1 b x) l 1
      omega
    have eN := isN_congr (p := p) hn t21
    have pn := pwI_bd h2 n.toNat (by omega)
    refine m_findsNil w2 p2 h2 n2 hn e2 TB2 (fun S3 m3 w3 v3 => ⟨rfl, w3.1, ?_⟩)
    rw [eN] at v3
    refine m_findsNilTops (N := isN p n (tb1 p n C (fK L) (dK L) 0)) w3 ((m3.G (by omega) 0).trans p2) h2 ((m3.G (by omega) 1).trans n2) hn v3 (fun S4 m4 w4 f4 => ⟨rfl, w4.1, ?_⟩)
    have g36 : zG S4 (D + 36) = zG S2 (D + 36) := funext fun i => by rw [m4.G (by omega), m3.G (by omega)]
    have g37 : zG S4 (D + 37) = zG S2 (D + 37) := funext fun i => by rw [m4.G (by omega), m3.G (by omega)]
    have TB4 : TB S4 D n := fun i j l i0 i1 j0 j1 l0 l1 => by
      rw [g36, g37]
      exact TB2 i j l i0 i1 j0 j1 l0 l1
    have tb : ∀ j, 0 ≤ j → j < n → -1 ≤ zG S4 (D + 39) j ∧ zG S4 (D + 39) j < pwI p n.toNat := fun j j0 j1 => by
      have pj := pwI_bd h2 j.toNat (by omega)
      have pl := pwI_lt h2 (j := j) (n := n) ⟨j0, j1⟩ hn.2
      rcases f4 j j0 j1 with q | q
      · omega
      · omega
    refine m_findsGains (N := isN p n (tb1 p n C (fK L) (dK L) 0)) w4 ((m4.G (by omega) 0).trans ((m3.G (by omega) 0).trans p2)) h2 ((m4.G (by omega) 1).trans ((m3.G (by omega) 1).trans n2)) hn TB4 (fun a a0 a1 => by rw [m4.G (by omega)]; exact v3 a a0 a1) tb (fun S5 v m5 w5 f5 vb vz => ⟨_, rfl, ?_⟩)
    rw [g36, g37, kpR_congr hn t21 t22] at f5
    have o5 : ∀ i, i ≠ 47 → i ≠ 53 → zG S5 D i = zG S D i := fun i i1 i2 => by
      rw [m5.G (by omega), m4.G (by omega), m3.G (by omega), o2 i i2]
      exact o1 i i1 i2
    have e5 : zG S5 D 47 = L := by rw [m5.G (by omega), m4.G (by omega), m3.G (by omega), o2 47 (by omega)]; exact e1
    have k5 : ∀ o i, D + 31 ≤ o → o ≤ D + 33 → zG S5 o i = zG S1 o i := fun o i u1 u2 => by
      rw [m5.G (by omega), m4.G (by omega), m3.G (by omega), m2.G (by omega)]
    have M5 : Md (opM D) S S5 := ((((m1.tr (m2.wide (fun x hx => by unfold opM; omega))).tr (m3.wide (fun x hx => by unfold opM; omega))).tr (m4.wide (fun x hx => by unfold opM; omega))).tr (m5.wide (fun x hx => by unfold opM; omega)))
    have T5 : TRI S5 D := fun K j i m K0 K1 j0 ji i1 m0 m1' => by
      rw [k5 _ _ (by omega) (by omega)]
      exact T1 K j i m K0 K1 j0 ji i1 m0 m1'
    have d5 : ∀ k, 0 ≤ k → k ≤ L → DG S5 D k n p (fK k) (dK k) := fun k k0 k1 => ⟨fun l i m l0 l1 i0 i1 m0 m1' => by rw [k5 _ _ (by omega) (by omega)]; exact (dg k k0 k1).1 l i m l0 l1 i0 i1 m0 m1', fun l l0 l1 => by rw [k5 _ _ (by omega) (by omega)]; exact (dg k k0 k1).2 l l0 l1⟩
    have v5 : ∀ e, zG S5 (D + 31) e = zG S (D + 31) e := fun e => (k5 _ e (by omega) (by omega)).trans (v1 e)
    have gn : GN p n (tb1 p n C (fK L) (dK L) 0) (tb1 p n C (fK L) (dK L) 1) (zG S4 (D + 39)) (zG S5 (D + 40)) := ⟨f4, f5⟩
    refine ⟨fun vz0 => ?_, fun v0 => ⟨w5.1, w5.1, ?_⟩⟩
    · rw [vz0]
      apply w_Model_opens_22
      refine ⟨fun z => absurd rfl z, fun _ => H S5 L fK dK M5 w5 T5 o5 v5 ⟨(o5 48 (by omega) (by omega)).trans h48, e5, L0, by omega, pc, Or.inr ⟨_, _, gn, vz.mp vz0⟩, d5⟩, fun z => absurd (Or.inl rfl) z⟩
    · have v1' : v = 1 := by
        rcases vb with q | q
        · exact absurd q v0
        · exact q
      have gd := hgood _ _ gn
      rw [e5]
      refine m_grows (fig := fK L) (dp := dK L) w5 ((o5 0 (by omega) (by omega)).trans hp) h2 ((o5 1 (by omega) (by omega)).trans hN) hn (by omega) (d5 L L0 (Int.le_refl L)) hr T5 (fun j j0 j1 => ?_) gd (fun S6 f' dp' m6 w6 T6 x6 y6 d6 n6 => ⟨rfl, w6.1, w6.1, ?_⟩)
      · rcases f5 j j0 j1 with q | q
        · exact Or.inl q.1
        · exact Or.inr ⟨q.1, q.2.1⟩
      · rw [(m6.G (a := D) (by omega) 47).trans e5, w32_id (by omega) (by omega), v1']
        rintro _ rfl
        obtain ⟨fK', hfK⟩ : ∃ fK' : Int → Int → Int → Int → Int, fK' = fun k => if k = L + 1 then f' else fK k := ⟨_, rfl⟩
        obtain ⟨dK', hdK⟩ : ∃ dK' : Int → Int → Int, dK' = fun k => if k = L + 1 then dp' else dK k := ⟨_, rfl⟩
        have fa : fK' (L + 1) = f' := by rw [hfK]; exact if_pos rfl
        have da : dK' (L + 1) = dp' := by rw [hdK]; exact if_pos rfl
        have fo : ∀ k, k ≤ L → fK' k = fK k := fun k hk => by rw [hfK]; exact if_neg (by omega)
        have do' : ∀ k, k ≤ L → dK' k = dK k := fun k hk => by rw [hdK]; exact if_neg (by omega)
        have M6 : Md (opM D) S (zS S6 D 47 (L + 1)) := (M5.tr (m6.wide (fun x hx => by unfold opM; omega))).tr ((Md.zS _ _ _ _).wide (fun x hx => by unfold opM; omega))
        have rr : ∀ o i, o ≠ D → zG (zS S6 D 47 (L + 1)) o i = zG S6 o i := fun o i ho => zG_zS_ne _ (Or.inl ho)
        refine hnx fK' dK' _ ⟨by omega, M6, w6.sc (by decide), fun K j i m K0 K1 j0 ji i1 m0 m1' => ?_, fun i i1 i2 => ?_, zG_zS_at _ _ _ _, fun e => ?_, ⟨fun l i m l0 l1 i0 i1 m0 m1' => ?_, fun l l0 l1 => ?_, fun k k0 k1 => ?_⟩, fun k k0 k1 => ?_⟩
        · rw [rr _ _ (by omega)]
          exact T6 K j i m K0 K1 j0 ji i1 m0 m1'
        · rw [zG_zS_ne _ (Or.inr i1), m6.G (by omega)]
          exact o5 i i1 i2
        · rw [rr _ _ (by omega), m6.G (by omega)]
          exact v5 e
        · rw [fo 0 (by omega)]
          exact pc.1 l i m l0 l1 i0 i1 m0 m1'
        · rw [do' 0 (by omega)]
          exact pc.2.1 l l0 l1
        · by_cases q : k = L
          · rw [q, fo L (Int.le_refl L), do' L (Int.le_refl L), fa, da]
            refine ⟨_, _, gn, ?_, n6⟩
            refine Classical.byContradiction (fun z => v0 (vz.mpr (fun j j0 j1 => ?_)))
            rcases Int.lt_or_le (zG S5 (D + 40) j) 0 with y | y
            · exact y
            · exact absurd ⟨j, j0, j1, y⟩ z
          · rw [fo k (by omega), do' k (by omega), fo (k + 1) (by omega), do' (k + 1) (by omega)]
            exact pc.2.2 k k0 (by omega)
        · by_cases q : k = L + 1
          · rw [q, fa, da]
            exact ⟨fun l i m l0 l1 i0 i1 m0 m1' => by rw [rr _ _ (by omega)]; exact d6.1 l i m l0 l1 i0 i1 m0 m1', fun l l0 l1 => by rw [rr _ _ (by omega)]; exact d6.2 l l0 l1⟩
          · rw [fo k (by omega), do' k (by omega)]
            exact ⟨fun l i m l0 l1 i0 i1 m0 m1' => by rw [rr _ _ (by omega), x6 _ (by omega)]; exact (d5 k k0 (by omega)).1 l i m l0 l1 i0 i1 m0 m1', fun l l0 l1 => by rw [rr _ _ (by omega), y6 _ (by omega)]; exact (d5 k k0 (by omega)).2 l l0 l1⟩
  · rintro fK dK S1 ⟨L0, m1, w1, T1, o1, e1, v1, pc, dg⟩
    apply w_Model_opens_22
    rw [e1]
    refine ⟨fun _ => w1.1, fun _ => H S1 19 fK dK m1 w1 T1 o1 v1 ⟨(o1 48 (by omega) (by omega)).trans h48, e1, by omega, by omega, pc, Or.inl rfl, dg⟩, fun z => absurd (Or.inr (Int.le_refl 19)) z⟩
theorem m_opens {d : Nat} {D p n c : Int} {S : Hp} {F : Int → Int} {Q : Vl → Hp → Prop} (h : DW S D) (hp : zG S D 0 = p) (h2 : 2 ≤ p ∧ p ≤ 7) (hN : zG S D 1 = n) (hn : 2 ≤ n ∧ n ≤ 4) (hc : 0 ≤ c ∧ c < p) (hT : TRI S D) (hF : ∀ e, 0 ≤ e → e < 49 → zG S (D + 1) e = F e) (bF : ∀ e, 0 ≤ F e ∧ F e < p) (hM : MTH p n (cfF (mvC p c F) n)) (hK : zG S D 48 = c → ∃ L fK dK, RG S D c p n (cfF (mvC p c F) n) L fK dK) (H : ∀ S' L fK dK, Md (opM D) S S' → DW S' D → TRI S' D → (∀ i, i ≠ 47 → i ≠ 48 → i ≠ 53 → zG S' D i = zG S D i) → (∀ e, 0 ≤ e → e < 49 → zG S' (D + 31) e = mvC p c F e) → RG S' D c p n (cfF (mvC p c F) n) L fK dK → Q (3, 0) S') : Ev (d + 4) 231 [(2, D), (0, c)] S Q := by
  obtain ⟨c1, c2, c3⟩ := cfF_mv (c := c) (n := n) (show 0 < p by omega) bF
  apply w_Model_opens_0
  refine ⟨h.1, fun q => ⟨h.1, ?_⟩, fun q => ⟨h.1, ?_⟩⟩
  · refine m_beginsRings h hp h2 hN hn hc hT hF bF (fun S1 m1 w1 T1 o1 e47 e48 v1 d1 => ⟨rfl, ?_⟩)
    refine m_opensLoop (C := cfF (mvC p c F) n) h2 hn c1 c2 c3 hM w1 ((o1 0 (by omega) (by omega)).trans hp) ((o1 1 (by omega) (by omega)).trans hN) T1 e47 e48 (fun k k0 k1 => ?_) d1 (fun S2 L fK dK m2 w2 T2 o2 v2 r2 => H S2 L fK dK ((m1.wide (fun x hx => by unfold opM; omega)).tr m2) w2 T2 (fun i i1 i2 i3 => (o2 i i1 i3).trans (o1 i i1 i2)) (fun e e0 e1 => (v2 e).trans (v1 e e0 e1)) r2)
    rw [v1 k k0 (by omega)]
    unfold cfF
    rw [if_pos (by omega), show 7 * (k / 7) + k % 7 = k by omega]
  · have q := Decidable.not_not.mp q
    obtain ⟨L, fK, dK, r⟩ := hK q
    refine m_movesCurve h hp h2 hc (by omega) hF bF (fun S1 m1 w1 v1 => ⟨rfl, H S1 L fK dK (m1.wide (fun x hx => by unfold opM; omega)) w1 (fun K j i m K0 K1 j0 ji i1 m0 m1' => by rw [m1.G (by omega)]; exact hT K j i m K0 K1 j0 ji i1 m0 m1') (fun i _ _ _ => m1.G (by omega) i) (fun e e0 e1 => by rw [v1 e e0 e1, if_neg (by omega)]) ?_⟩)
    obtain ⟨r1, r2, r3, r4, r5, r6, r7⟩ := r
    exact ⟨(m1.G (by omega) 48).trans r1, (m1.G (by omega) 47).trans r2, r3, r4, r5, r6, fun k k0 k1 => (r7 k k0 k1).keep m1 (by omega) (by omega)⟩
