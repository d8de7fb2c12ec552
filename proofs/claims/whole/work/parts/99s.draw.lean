/-! The model: draw, front, disc, order. -/
theorem bUsh_9 (x : Int) : 0 ≤ bUsh x 9 ∧ bUsh x 9 < 8388608 := by
  unfold bUsh
  have hn : ((Int32.ofInt x).toUInt32 >>> ((Int32.ofInt 9).toUInt32 &&& Int32.toUInt32 31)).toNat = (Int32.ofInt x).toUInt32.toNat / 512 := by
    rw [UInt32.toNat_shiftRight]
    show (Int32.ofInt x).toUInt32.toNat >>> 9 = _
    rw [Nat.shiftRight_eq_div_pow]
  have hl : (Int32.ofInt x).toUInt32.toNat < 4294967296 := (Int32.ofInt x).toUInt32.toNat_lt
  show 0 ≤ BitVec.toInt ((Int32.ofInt x).toUInt32 >>> ((Int32.ofInt 9).toUInt32 &&& Int32.toUInt32 31)).toBitVec ∧ BitVec.toInt ((Int32.ofInt x).toUInt32 >>> ((Int32.ofInt 9).toUInt32 &&& Int32.toUInt32 31)).toBitVec < 8388608
  rw [BitVec.toInt_eq_toNat_of_lt (by
    show 2 * ((Int32.ofInt x).toUInt32 >>> ((Int32.ofInt 9).toUInt32 &&& Int32.toUInt32 31)).toNat < 2 ^ 32
    rw [hn]
    omega)]
  show 0 ≤ (((Int32.ofInt x).toUInt32 >>> ((Int32.ofInt 9).toUInt32 &&& Int32.toUInt32 31)).toNat : Int) ∧ (((Int32.ofInt x).toUInt32 >>> ((Int32.ofInt 9).toUInt32 &&& Int32.toUInt32 31)).toNat : Int) < 8388608
  rw [hn]
  omega
def drZ (s : Int) : Nat → Int
  | 0 => s
  | k + 1 => w32 (w32 (drZ s k * 1103515245) + 12345)
/-- how many numbers are drawn ahead of those of row j -/
def drI (n j : Int) : Int := if j = 0 then 0 else if j = 1 then n + 2 else if j = 2 then 2 * n + 3 else if j = 3 then 3 * n + 3 else 4 * n + 2
def drF (p n s : Int) : Int → Int := fun e => if e = 7 * n then 1 else if 0 ≤ e ∧ e / 7 < n ∧ e % 7 ≤ n + 1 - e / 7 then bUsh (drZ s (drI n (e / 7) + e % 7 + 1).toNat) 9 % p else 0
theorem drF_bd {p n s : Int} (hp : 2 ≤ p) (e : Int) : 0 ≤ drF p n s e ∧ drF p n s e < p := by
  unfold drF
  split
  · omega
  · split
    · exact ⟨em_ge (by omega), em_lt (by omega)⟩
    · omega
set_option maxHeartbeats 1000000 in
theorem m_draw {d : Nat} {D p n s : Int} {S : Hp} {Q : Vl → Hp → Prop} (h : DW S D) (hp : zG S D 0 = p) (h2 : 2 ≤ p ∧ p ≤ 7) (HB : ¬ (2 ≤ n ∧ n ≤ 4) → Q (0, -1) S) (H0 : 2 ≤ n → n ≤ 4 → ∀ S' P, Md (fun x => D + 22 ≤ x ∧ x ≤ D + 29) S S' → DW S' D → NW p n (cfF (drF p n s) n) P → (∀ k x, 6 * k < x → P k x = 0) → (∀ x, dsM p n (trE n P) x = 0) → Q (0, -15) S') (H1 : 2 ≤ n → n ≤ 4 → ∀ S1 S', Md (fun x => x = D + 22) S S1 → becR p n (drF p n s) D S1 S' → Q (0, n) S') : Ev (d + 6) 201 [(2, D), (0, s), (0, n)] S Q := by
  apply w_Model_draw_0
  refine m_in ⟨_, rfl, fun hz => ?_, fun hz => HB (by grind)⟩
  have hn : 2 ≤ n ∧ n ≤ 4 := by grind
  rw [h.x_fresh.1]
  refine ⟨h.1, h.1, m_zeroes h.x_fresh.2.1 h.x_fresh.2.2 (by omega) ⟨rfl, h.1, ?_⟩⟩
  have w1 : DW (zR S (D + 22) (fun i => if 0 ≤ i ∧ i < 49 then 0 else zG S (D + 22) i)) D := h.zR (by omega)
  rw [w1.x_fresh.1, w1.x_fresh.2.1, w1.x_fresh.2.2, w32_id (x := 7 * n) (by omega) (by omega)]
  refine ⟨⟨rfl, by omega, by omega⟩, ?_⟩
  rintro _ rfl
  rw [zS_zR]
  have M2 : Md (fun x => x = D + 22) S (zR S (D + 22) (fun j => if j = 7 * n then 1 else if 0 ≤ j ∧ j < 49 then 0 else zG S (D + 22) j)) := Md.zR _ _ _
  have v2 : ∀ e, 0 ≤ e → e < 49 → zG (zR S (D + 22) (fun j => if j = 7 * n then 1 else if 0 ≤ j ∧ j < 49 then 0 else zG S (D + 22) j)) (D + 22) e = if e = 7 * n then 1 else 0 := fun e e0 e1 => by
    rw [zG_zR_at]
    split
    · rfl
    · rw [if_pos ⟨e0, e1⟩]
  generalize zR S (D + 22) (fun j => if j = 7 * n then 1 else if 0 ≤ j ∧ j < 49 then 0 else zG S (D + 22) j) = S2 at *
  clear w1
  refine loopU2 (α := Int) (β := Hp) (P := fun j z S' => At (d + 6) 201 c201_34 [(0, (2, D)), (2, (0, n)), (3, (0, z)), (4, (0, j))] [] S' Q) (I := fun j z S' => 0 ≤ j ∧ z = drZ s (drI n j).toNat ∧ Md (fun x => x = D + 22) S S' ∧ ∀ e, 0 ≤ e → e < 49 → zG S' (D + 22) e = if e / 7 < j ∨ e = 7 * n then drF p n s e else 0) n ?_ ?_ 0 s S2 (by omega) ⟨by omega, rfl, M2, fun e e0 e1 => ?_⟩
  · rintro j z S3 hj ⟨j0, rfl, M3, v3⟩ hk
    apply w_Model_draw_34
    refine ⟨fun hc => by omega, fun _ => ?_⟩
    have dI : drI n (j + 1) = drI n j + (n + 2 - j) := by
      unfold drI
      have : j = 0 ∨ j = 1 ∨ j = 2 ∨ j = 3 := by omega
      rcases this with rfl | rfl | rfl | rfl <;> simp <;> omega
    have dI0 : 0 ≤ drI n j := by
      unfold drI
      have : j = 0 ∨ j = 1 ∨ j = 2 ∨ j = 3 := by omega
      rcases this with rfl | rfl | rfl | rfl <;> simp <;> omega
    refine loopU2 (α := Int) (β := Hp) (P := fun i z S' => At (d + 6) 201 c201_43 [(0, (2, D)), (2, (0, n)), (3, (0, z)), (4, (0, j)), (5, (0, i))] [] S' Q) (I := fun i z S' => 0 ≤ i ∧ z = drZ s (drI n j + i).toNat ∧ Md (fun x => x = D + 22) S S' ∧ ∀ e, 0 ≤ e → e < 49 → zG S' (D + 22) e = if e / 7 < j ∨ e = 7 * n ∨ (e / 7 = j ∧ e % 7 < i) then drF p n s e else 0) (n + 2 - j) ?_ ?_ 0 _ S3 (by omega) ⟨by omega, by rw [show drI n j + 0 = drI n j by omega], M3, fun e e0 e1 => ?_⟩
    · rintro i z S4 hi ⟨i0, rfl, M4, v4⟩ hk2
      have w4 : DW S4 D := h.md M4 (by omega)
      apply w_Model_draw_43
      rw [w32_id (x := n + 1) (by omega) (by omega), w32_id (x := n + 1 - j) (by omega) (by omega)]
      refine ⟨fun hc => by omega, fun _ => ?_⟩
      have ez : w32 (w32 (drZ s (drI n j + i).toNat * 1103515245) + 12345) = drZ s (drI n j + (i + 1)).toNat := by
        rw [show (drI n j + (i + 1)).toNat = (drI n j + i).toNat + 1 by omega]
        rfl
      rw [ez]
      rintro _ rfl
      have u := bUsh_9 (drZ s (drI n j + (i + 1)).toNat)
      rw [w4.x_fresh.1, w4.x_fresh.2.1, w4.x_fresh.2.2, (M4.G (by omega) 0).trans hp, w32_id (x := 7 * j) (by omega) (by omega), w32_id (x := 7 * j + i) (by omega) (by omega), tm_nn u.1]
      refine ⟨w4.1, w4.1, by omega, ⟨rfl, by omega, by omega⟩, ?_⟩
      rintro _ rfl _ rfl
      rw [w32_id (x := i + 1) (by omega) (by omega)]
      refine hk2 _ _ ⟨by omega, rfl, M4.tr (Md.zS _ _ _ _), fun e e0 e1 => ?_⟩
      by_cases q : e = 7 * j + i
      · rw [q, zG_zS_at, if_pos (by omega)]
        unfold drF
        rw [if_neg (by omega), if_pos (by omega), show (7 * j + i) / 7 = j by omega, show (7 * j + i) % 7 = i by omega, show drI n j + i + 1 = drI n j + (i + 1) by omega]
      · rw [zG_zS_ne _ (Or.inr q), v4 e e0 e1]
        by_cases q2 : e / 7 < j ∨ e = 7 * n ∨ (e / 7 = j ∧ e % 7 < i)
        · rw [if_pos q2, if_pos (by omega)]
        · rw [if_neg q2, if_neg (by omega)]
    · rintro z S4 ⟨i0, rfl, M4, v4⟩
      apply w_Model_draw_43
      rw [w32_id (x := n + 1) (by omega) (by omega), w32_id (x := n + 1 - j) (by omega) (by omega)]
      refine ⟨fun _ => ?_, fun hc => absurd (show n + 1 - j < n + 2 - j by omega) hc⟩
      rintro _ rfl
      rw [w32_id (x := j + 1) (by omega) (by omega)]
      refine hk _ _ ⟨by omega, by rw [dI], M4, fun e e0 e1 => ?_⟩
      rw [v4 e e0 e1]
      by_cases q2 : e / 7 < j ∨ e = 7 * n ∨ (e / 7 = j ∧ e % 7 < n + 2 - j)
      · rw [if_pos q2, if_pos (by omega)]
      · rw [if_neg q2]
        by_cases q3 : e / 7 < j + 1 ∨ e = 7 * n
        · rw [if_pos q3]
          unfold drF
          rw [if_neg (by omega), if_neg (by omega)]
        · rw [if_neg q3]
    · rw [v3 e e0 e1]
      by_cases q : e / 7 < j ∨ e = 7 * n
      · rw [if_pos q, if_pos (by omega)]
      · rw [if_neg q, if_neg (by omega)]
  · rintro z S3 ⟨-, rfl, M3, v3⟩
    have w3 : DW S3 D := h.md M3 (by omega)
    apply w_Model_draw_34
    rw [w3.x_fresh.1]
    refine ⟨fun _ => ⟨w3.1, w3.1, ?_⟩, fun hc => absurd (Int.le_refl n) hc⟩
    refine m_becomesCurve (F := drF p n s) w3 ((M3.G (by omega) 0).trans hp) h2 (by omega) w3.x_fresh.2.1 w3.x_fresh.2.2 hn (fun e e0 e1 => ?_) (fun e => drF_bd h2.1 e) (fun S' P m w nw dP z => ⟨_, rfl, H0 hn.1 hn.2 S' P ((M3.wide (fun x hx => by omega)).tr (m.wide (fun x hx => by omega))) w nw dP z⟩) (fun S' b => ⟨_, rfl, H1 hn.1 hn.2 S3 S' M3 b⟩)
    rw [v3 e e0 e1]
    by_cases q : e / 7 < n ∨ e = 7 * n
    · rw [if_pos q]
    · rw [if_neg q]
      unfold drF
      rw [if_neg (by omega), if_neg (by omega)]
  · rw [v2 e e0 e1]
    by_cases q : e = 7 * n
    · rw [if_pos q, if_pos (by omega)]
      unfold drF
      rw [if_pos q]
    · rw [if_neg q, if_neg (by omega)]
theorem m_front {d : Nat} {D n i j : Int} {S : Hp} {Q : Vl → Hp → Prop} (h : DW S D) (hn : zG S D 1 = n) (H0 : n = 0 → Q (0, -2) S) (H1 : n ≠ 0 → ¬ (0 ≤ i ∧ i ≤ 6 ∧ 0 ≤ j ∧ j ≤ 6) → Q (0, -1) S) (H2 : n ≠ 0 → 0 ≤ i → i ≤ 6 → 0 ≤ j → j ≤ 6 → Q (0, zG S (D + 1) (7 * j + i)) S) : Ev (d + 1) 202 [(2, D), (0, i), (0, j)] S Q := by
  apply w_Model_front_0
  rw [hn]
  refine ⟨h.1, fun n0 => m_in ⟨_, rfl, fun hz => H1 n0 (by grind), fun hz => m_in ⟨_, rfl, fun hz => H1 n0 (by grind), fun hz2 => ⟨h.1, ?_⟩⟩⟩, fun n0 => H0 (by omega)⟩
  have h1 : 0 ≤ i ∧ i ≤ 6 := by grind
  have h2 : 0 ≤ j ∧ j ≤ 6 := by grind
  rw [h.x_f.1, h.x_f.2.1, h.x_f.2.2, w32_id (x := 7 * j) (by omega) (by omega), w32_id (by omega) (by omega)]
  exact ⟨⟨rfl, by omega, by omega⟩, H2 n0 h1.1 h1.2 h2.1 h2.2⟩
theorem m_disc {d : Nat} {D n i : Int} {S : Hp} {Q : Vl → Hp → Prop} (h : DW S D) (hn : zG S D 1 = n) (H0 : n = 0 → Q (0, -2) S) (H1 : n ≠ 0 → ¬ (0 ≤ i ∧ i ≤ 40) → Q (0, -1) S) (H2 : n ≠ 0 → 0 ≤ i → i ≤ 40 → Q (0, zG S (D + 2) i) S) : Ev (d + 1) 203 [(2, D), (0, i)] S Q := by
  apply w_Model_disc_0
  rw [hn]
  refine ⟨h.1, fun n0 => m_in ⟨_, rfl, fun hz => ⟨h.1, ?_⟩, ?_⟩, fun n0 => H0 (by omega)⟩
  · have h1 : 0 ≤ i ∧ i ≤ 40 := by grind
    rw [h.x_disc.1, h.x_disc.2.1, h.x_disc.2.2]
    exact ⟨rfl, by omega, by omega⟩
  · rintro _ rfl
    by_cases q : 0 ≤ i ∧ i ≤ 40
    · rw [if_pos q, if_neg (by omega), h.x_disc.1]
      exact H2 n0 q.1 q.2
    · rw [if_neg q, if_pos rfl]
      exact H1 n0 q
theorem rtN_congr {p c T : Int} : ∀ (k : Nat) {P R : Int → Int}, (∀ i, P i = R i) → rtN p c T k P = rtN p c T k R := fun k P R h => by
  have : P = R := funext h
  rw [this]
set_option maxHeartbeats 1000000 in
theorem m_order {d : Nat} {D n p c : Int} {S : Hp} {G : Int → Int} {Q : Vl → Hp → Prop} (h : DW S D) (hn : zG S D 1 = n) (hp : zG S D 0 = p) (h2 : 2 ≤ p ∧ p ≤ 7) (hG : ∀ x, 0 ≤ x → x < 200 → zG S (D + 2) x = G x) (sG : ∀ x, (x < 0 ∨ 200 ≤ x) → G x = 0) (bG : ∀ x, 0 ≤ G x ∧ G x < p) (H0 : n = 0 → Q (0, -2) S) (H1 : n ≠ 0 → ¬ (0 ≤ c ∧ c < p) → Q (0, -1) S) (H2 : n ≠ 0 → 0 ≤ c → c < p → ∀ S', Md (fun x => x = D + 30) S S' → Q (0, rtN p c 199 200 G) S') : Ev (d + 2) 206 [(2, D), (0, c)] S Q := by
  apply w_Model_order_0
  rw [hn]
  refine ⟨h.1, fun n0 => ⟨h.1, m_isNumber h.1 hp h2 ⟨_, rfl, fun hz => ?_, fun hz => H1 n0 (by grind)⟩⟩, fun n0 => H0 (by omega)⟩
  have hc : 0 ≤ c ∧ c < p := by grind
  refine loopU (P := fun k S' => At (d + 2) 206 c206_22 [(0, (2, D)), (1, (0, c)), (2, (0, k))] [] S' Q) (I := fun k S' => 0 ≤ k ∧ Md (fun x => x = D + 30) S S' ∧ ∀ e, 0 ≤ e → e < k → zG S' (D + 30) e = G e) 200 ?_ ?_ 0 S (by omega) ⟨by omega, Md.refl _ _, fun e e0 e1 => by omega⟩
  · rintro k S1 hk ⟨k0, m1, v1⟩ hnx
    have w1 : DW S1 D := h.md m1 (by omega)
    apply w_Model_order_22
    rw [w1.x_disc.1, w1.x_divided.1, w1.x_disc.2.1, w1.x_divided.2.1, w1.x_disc.2.2, w1.x_divided.2.2, m1.G (a := D + 2) (by omega), hG k k0 hk]
    refine ⟨fun hc => by omega, fun _ => ⟨w1.1, w1.1, ⟨rfl, by omega, by omega⟩, ⟨rfl, by omega, by omega⟩, ?_⟩⟩
    rintro _ rfl _ rfl
    rw [w32_id (by omega) (by omega)]
    refine hnx _ ⟨by omega, m1.tr (Md.zS _ _ _ _), fun e e0 e1 => ?_⟩
    by_cases q : e = k
    · rw [q, zG_zS_at]
    · rw [zG_zS_ne _ (Or.inr q)]
      exact v1 e e0 (by omega)
  · rintro S1 ⟨-, m1, v1⟩
    apply w_Model_order_22
    refine ⟨fun _ => ?_, fun hc => absurd (Int.le_refl 200) hc⟩
    refine loopU2 (α := Int → Int) (β := Hp) (P := fun k _ S' => At (d + 2) 206 c206_49 [(0, (2, D)), (1, (0, c)), (2, (0, k))] [] S' Q) (I := fun k P S' => 0 ≤ k ∧ Md (fun x => x = D + 30) S S' ∧ (∀ e, 0 ≤ e → e < 200 → zG S' (D + 30) e = P e) ∧ (∀ e, (e < 0 ∨ 200 ≤ e) → P e = 0) ∧ (∀ e, 0 ≤ P e ∧ P e < p) ∧ rtN p c 199 200 G = k + rtN p c 199 (200 - k).toNat P) 200 ?_ ?_ 0 G S1 (by omega) ⟨by omega, m1, v1, sG, bG, by rw [Int.zero_add]; rfl⟩
    · rintro k P S2 hk ⟨k0, m2, v2, s2, b2, e2⟩ hnx
      have w2 : DW S2 D := h.md m2 (by omega)
      have p2 : zG S2 D 0 = p := (m2.G (by omega) 0).trans hp
      have eP : rwP (zG S2 (D + 30)) 0 200 = P := funext fun x => by
        unfold rwP
        by_cases q : 0 ≤ x ∧ x < 200
        · rw [if_pos q, Int.zero_add]
          exact v2 x q.1 q.2
        · rw [if_neg q]
          exact (s2 x (by omega)).symm
      have st : rtN p c 199 (200 - k).toNat P = if qr p c P 199 (-1) = 0 then 1 + rtN p c 199 (200 - (k + 1)).toNat (dv1 p c 199 P) else 0 := by
        rw [show (200 - k).toNat = (200 - (k + 1)).toNat + 1 by omega]
        rfl
      have hv : ∀ i, 0 ≤ i → i < 0 + 200 → 0 ≤ zG S2 (D + 30) i ∧ zG S2 (D + 30) i < p := fun i i0 i1 => by
        rw [v2 i i0 (by omega)]
        exact b2 i
      apply w_Model_order_49
      rw [w2.x_divided.1]
      refine ⟨fun hc => by omega, fun _ => ⟨w2.1, w2.1, m_atNumber w2.1 p2 h2 w2.x_divided.2.1 (by rw [w2.x_divided.2.2]; omega) (by omega) (by omega) hc hv ⟨_, rfl, ?_⟩⟩⟩
      rw [eP, show (200 : Int) - 1 = 199 by omega]
      refine ⟨fun hz => ?_, fun hz => ⟨w2.1, w2.1, ?_⟩⟩
      · rw [if_neg hz] at st
        have := H2 n0 hc.1 hc.2 S2 m2
        rw [e2, st, Int.add_zero] at this
        exact this
      · have hz := Decidable.not_not.mp hz
        rw [if_pos hz] at st
        rw [w2.x_divided.1]
        refine m_dividesOut w2.1 p2 h2 (by omega) w2.x_divided.2.1 (by rw [w2.x_divided.2.2]; omega) (by omega) (by omega) hc hv ⟨rfl, ?_⟩
        rw [eP, show (200 : Int) - 1 = 199 by omega]
        rintro _ rfl
        rw [w32_id (by omega) (by omega)]
        refine hnx (dv1 p c 199 P) _ ⟨by omega, m2.tr (Md.zR _ _ _), fun e e0 e1 => ?_, fun e he => ?_, fun e => dv1_bd (by omega) e, ?_⟩
        · rw [zG_zR_at, if_pos (by omega), Int.sub_zero]
          unfold dv1
          rw [if_neg (by omega)]
        · unfold dv1
          split
          · rfl
          · exact qr_top (by omega)
        · rw [e2, st]
          omega
    · rintro P S2 ⟨-, m2, v2, s2, b2, e2⟩
      apply w_Model_order_49
      refine ⟨fun _ => ?_, fun hc => absurd (Int.le_refl 200) hc⟩
      have := H2 n0 hc.1 hc.2 S2 m2
      rw [e2, show (200 - (200 : Int)).toNat = 0 by omega] at this
      exact this
