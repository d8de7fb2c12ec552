/-! The model: beginsRings, opens. -/
def fg0 (l i m : Int) : Int := if i = l ∧ m = 0 then 1 else 0
def tb1 (p n : Int) (C : Int → Int → Int) (fig : Int → Int → Int → Int) (dp : Int → Int) (q x : Int) : Int := shN p n dp fig (mbL p n C fig (x / 16) (x / 4 % 4)) (x % 4) q
/-- what gains, by the tables of products -/
def GN (p n : Int) (T1 T2 : Int → Int) (top g : Int → Int) : Prop := (∀ j, 0 ≤ j → j < n → fstP (isN p n T1) (pwI p j.toNat) (2 * pwI p j.toNat) (top j)) ∧ ∀ j, 0 ≤ j → j < n → fstP (kpR p n T1 T2 (isN p n T1) top) (pwI p j.toNat) (2 * pwI p j.toNat) (g j)
/-- rings 0 .. L, each grown of the one before -/
def PCH (p n : Int) (C : Int → Int → Int) (fK : Int → Int → Int → Int → Int) (dK : Int → Int → Int) (L : Int) : Prop := (∀ l i m, 0 ≤ l → l < n → 0 ≤ i → i < 4 → 0 ≤ m → m < 21 → fK 0 l i m = fg0 l i m) ∧ (∀ l, 0 ≤ l → l < n → dK 0 l = 0) ∧ ∀ k, 0 ≤ k → k < L → ∃ top g, GN p n (tb1 p n C (fK k) (dK k) 0) (tb1 p n C (fK k) (dK k) 1) top g ∧ (∃ j, 0 ≤ j ∧ j < n ∧ 0 ≤ g j) ∧ ∀ j, 0 ≤ j → j < n → NX1 p j (g j) (fK k) (dK k) (fK (k + 1)) (dK (k + 1))
def CLO (p n : Int) (C : Int → Int → Int) (fK : Int → Int → Int → Int → Int) (dK : Int → Int → Int) (L : Int) : Prop := L = 19 ∨ ∃ top g, GN p n (tb1 p n C (fK L) (dK L) 0) (tb1 p n C (fK L) (dK L) 1) top g ∧ ∀ j, 0 ≤ j → j < n → g j < 0
/-- the line y - v -/
def lnE (p v : Int) : Int → Int → Int := fun i x => if i = 1 ∧ x = 40 then 1 else if i = 0 ∧ x = 40 then (if v = 0 then 0 else p - v) else 0
/-- what is to be shown of rings -/
def MTH (p n : Int) (C : Int → Int → Int) : Prop := ∀ fK dK L, 0 ≤ L → L ≤ 19 → PCH p n C fK dK L → L < 19 ∧ RDC n (fK L) (dK L) ∧ (∀ i j, 0 ≤ i → i < n → 0 ≤ j → j < n → okE p n (dK L) (fK L) (mbL p n C (fK L) i j)) ∧ (∀ v, 0 ≤ v → v < p → okE p n (dK L) (fK L) (lnE p v)) ∧ ∀ top g, GN p n (tb1 p n C (fK L) (dK L) 0) (tb1 p n C (fK L) (dK L) 1) top g → ∀ j, 0 ≤ j → j < n → dK L j + gbF (g j) ≤ 20
def RG (S : Hp) (D c p n : Int) (C : Int → Int → Int) (L : Int) (fK : Int → Int → Int → Int → Int) (dK : Int → Int → Int) : Prop := zG S D 48 = c ∧ zG S D 47 = L ∧ 0 ≤ L ∧ L ≤ 19 ∧ PCH p n C fK dK L ∧ CLO p n C fK dK L ∧ ∀ k, 0 ≤ k → k ≤ L → DG S D k n p (fK k) (dK k)
theorem cfF_mv {p c n : Int} {F : Int → Int} (hp : 0 < p) (bF : ∀ e, 0 ≤ F e ∧ F e < p) : (∀ j e, 0 ≤ cfF (mvC p c F) n j e ∧ cfF (mvC p c F) n j e < p) ∧ (∀ j e, (e < 0 ∨ 6 < e) → cfF (mvC p c F) n j e = 0) ∧ ∀ j e, n ≤ j → cfF (mvC p c F) n j e = 0 := by
  refine ⟨fun j e => ?_, fun j e he => ?_, fun j e hj => ?_⟩
  · unfold cfF
    split
    · exact mvC_bd hp bF _
    · omega
  · unfold cfF
    rw [if_neg (by omega)]
  · unfold cfF
    rw [if_neg (by omega)]
set_option maxHeartbeats 1000000 in
theorem m_beginsRings {d : Nat} {D p n c : Int} {S : Hp} {F : Int → Int} {Q : Vl → Hp → Prop} (h : DW S D) (hp : zG S D 0 = p) (h2 : 2 ≤ p ∧ p ≤ 7) (hN : zG S D 1 = n) (hn : 2 ≤ n ∧ n ≤ 4) (hc : 0 ≤ c ∧ c < p) (hT : TRI S D) (hF : ∀ e, 0 ≤ e → e < 49 → zG S (D + 1) e = F e) (bF : ∀ e, 0 ≤ F e ∧ F e < p) (H : ∀ S', Md (fun x => x = D ∨ x = D + 31 ∨ x = D + 32 ∨ x = D + 33) S S' → DW S' D → TRI S' D → (∀ i, i ≠ 47 → i ≠ 48 → zG S' D i = zG S D i) → zG S' D 47 = 0 → zG S' D 48 = c → (∀ e, 0 ≤ e → e < 49 → zG S' (D + 31) e = mvC p c F e) → DG S' D 0 n p fg0 (fun _ => 0) → Q (3, 0) S') : Ev (d + 2) 230 [(2, D), (0, c)] S Q := by
  apply w_Model_beginsRings_0
  refine ⟨h.1, m_movesCurve h hp h2 hc (by omega) hF bF (fun S1 m1 w1 v1 => ⟨rfl, ?_⟩)⟩
  have v1 : ∀ e, 0 ≤ e → e < 49 → zG S1 (D + 31) e = mvC p c F e := fun e e0 e1 => by
    rw [v1 e e0 e1, if_neg (by omega)]
  refine loopU (P := fun k S' => At (d + 2) 230 c230_8 [(0, (2, D)), (1, (0, c)), (2, (0, k))] [] S' Q) (I := fun k S' => 0 ≤ k ∧ Md (fun x => x = D + 32) S1 S' ∧ ∀ x, zG S' (D + 32) x = if 0 ≤ x ∧ x < k then 0 else zG S (D + 32) x) 336 ?_ ?_ 0 S1 (by omega) ⟨by omega, Md.refl _ _, fun x => by rw [if_neg (by omega)]; exact m1.G (by omega) x⟩
  · rintro k S2 hk ⟨k0, m2, v2⟩ hnx
    have w2 : DW S2 D := w1.md m2 (by omega)
    apply w_Model_beginsRings_8
    rw [w2.x_digits.1, w2.x_digits.2.1, w2.x_digits.2.2]
    refine ⟨fun z => by omega, fun _ => ⟨w2.1, ⟨rfl, by omega, by omega⟩, ?_⟩⟩
    rintro _ rfl _ rfl
    rw [w32_id (by omega) (by omega)]
    refine hnx _ ⟨by omega, m2.tr (Md.zS _ _ _ _), fun x => ?_⟩
    by_cases q : x = k
    · rw [q, zG_zS_at, if_pos (by omega)]
    · rw [zG_zS_ne _ (Or.inr q), v2 x]
      by_cases q2 : 0 ≤ x ∧ x < k
      · rw [if_pos q2, if_pos (by omega)]
      · rw [if_neg q2, if_neg (by omega)]
  · rintro S2 ⟨-, m2, v2⟩
    apply w_Model_beginsRings_8
    refine ⟨fun _ => ?_, fun z => absurd (Int.le_refl 336) z⟩
    have M2 : Md (fun x => x = D ∨ x = D + 31 ∨ x = D + 32 ∨ x = D + 33) S S2 := (m1.wide (fun x hx => by omega)).tr (m2.wide (fun x hx => by omega))
    refine loopU (P := fun j S' => At (d + 2) 230 c230_30 [(0, (2, D)), (1, (0, c)), (2, (0, j))] [] S' Q) (I := fun j S' => 0 ≤ j ∧ Md (fun x => x = D + 32 ∨ x = D + 33) S2 S' ∧ (∀ x, zG S' (D + 32) x = if 0 ≤ x ∧ x < 336 then (if x % 105 = 0 ∧ x / 105 < j then 1 else 0) else zG S (D + 32) x) ∧ ∀ l, 0 ≤ l → l < j → zG S' (D + 33) l = 0) n ?_ ?_ 0 S2 (by omega) ⟨by omega, Md.refl _ _, fun x => by
      rw [v2 x]
      by_cases q : 0 ≤ x ∧ x < 336
      · rw [if_pos q, if_pos q, if_neg (by omega)]
      · rw [if_neg q, if_neg q], fun l l0 l1 => by omega⟩
    · rintro j S3 hj ⟨j0, m3, v3, d3⟩ hnx
      have M3 := M2.tr (m3.wide (fun x hx => by omega))
      have w3 : DW S3 D := (h.md m1 (by omega)).md m2 (by omega) |>.md m3 (by omega)
      have n3 : zG S3 D 1 = n := by rw [m3.G (by omega), m2.G (by omega), m1.G (by omega)]; exact hN
      apply w_Model_beginsRings_30
      rw [n3, w3.x_depths.1, w3.x_depths.2.1, w3.x_depths.2.2]
      refine ⟨w3.1, fun z => by omega, fun _ => ⟨w3.1, ⟨rfl, by omega, by omega⟩, ?_⟩⟩
      rintro _ rfl
      have w4 : DW (zS S3 (D + 33) j 0) D := w3.zSr (by omega)
      refine ⟨w4.1, w4.1, m_digitAt (by omega) (by omega) (by omega) (by omega) ⟨_, rfl, ?_⟩⟩
      rw [w4.x_digits.1, w4.x_digits.2.1, w4.x_digits.2.2]
      refine ⟨⟨rfl, by omega, by omega⟩, ?_⟩
      rintro _ rfl _ rfl
      rw [w32_id (by omega) (by omega)]
      refine hnx _ ⟨by omega, (m3.tr ((Md.zS _ _ _ _).wide (fun x hx => Or.inr hx))).tr ((Md.zS _ _ _ _).wide (fun x hx => Or.inl hx)), fun x => ?_, fun l l0 l1 => ?_⟩
      · by_cases q : x = 84 * (4 * 0 + j) + 21 * j + 0
        · rw [q, zG_zS_at, if_pos (by omega), if_pos (by omega)]
        · rw [zG_zS_ne _ (Or.inr q), zG_zS_ne _ (Or.inl (by omega)), v3 x]
          by_cases q2 : 0 ≤ x ∧ x < 336
          · rw [if_pos q2, if_pos q2]
            by_cases q3 : x % 105 = 0 ∧ x / 105 < j
            · rw [if_pos q3, if_pos (by omega)]
            · rw [if_neg q3, if_neg (by omega)]
          · rw [if_neg q2, if_neg q2]
      · rw [zG_zS_ne _ (Or.inl (by omega))]
        by_cases q : l = j
        · rw [q, zG_zS_at]
        · rw [zG_zS_ne _ (Or.inr q)]
          exact d3 l l0 (by omega)
    · rintro S3 ⟨-, m3, v3, d3⟩
      have M3 := M2.tr (m3.wide (fun x hx => by omega))
      have w3 : DW S3 D := (h.md m1 (by omega)).md m2 (by omega) |>.md m3 (by omega)
      have o3 : ∀ i, zG S3 D i = zG S D i := fun i => by rw [m3.G (by omega), m2.G (by omega), m1.G (by omega)]
      apply w_Model_beginsRings_30
      rw [o3 1, hN]
      refine ⟨w3.1, fun _ => ⟨w3.1, ?_⟩, fun z => absurd (Int.le_refl n) z⟩
      rintro _ rfl
      refine ⟨w3.1, ?_⟩
      rintro _ rfl
      have dg : ∀ x, zG (zS (zS S3 D 47 0) D 48 c) (D + 32) x = if 0 ≤ x ∧ x < 336 then (if x % 105 = 0 ∧ x / 105 < n then 1 else 0) else zG S (D + 32) x := fun x => by
        rw [zG_zS_ne _ (Or.inl (by omega)), zG_zS_ne _ (Or.inl (by omega))]
        exact v3 x
      refine H _ (M3.tr (((Md.zS _ _ _ _).tr (Md.zS _ _ _ _)).wide (fun x hx => Or.inl hx))) ((w3.sc (by decide)).sc (by decide)) (fun K j i m K0 K1 j0 ji i1 m0 m1' => ?_) (fun i i1 i2 => ?_) ?_ (zG_zS_at _ _ _ _) (fun e e0 e1 => ?_) ⟨fun l i m l0 l1 i0 i1 m0 m1' => ⟨?_, ?_⟩, fun l l0 l1 => ?_⟩
      · rw [dg]
        by_cases q : 0 ≤ 84 * (4 * K + j) + 21 * i + m ∧ 84 * (4 * K + j) + 21 * i + m < 336
        · have hK : K = 0 := by omega
          have hj3 : j = 0 ∨ j = 1 ∨ j = 2 := by omega
          rw [if_pos q, if_neg (by rcases hj3 with z | z | z <;> omega)]
        · rw [if_neg q]
          exact hT K j i m K0 K1 j0 ji i1 m0 m1'
      · rw [zG_zS_ne _ (Or.inr i2), zG_zS_ne _ (Or.inr i1), o3]
      · rw [zG_zS_ne _ (Or.inr (by omega)), zG_zS_at]
      · rw [zG_zS_ne _ (Or.inl (by omega)), zG_zS_ne _ (Or.inl (by omega)), m3.G (by omega), m2.G (by omega)]
        exact v1 e e0 e1
      · rw [dg, if_pos (by omega)]
        unfold fg0
        by_cases q : i = l ∧ m = 0
        · rw [if_pos q, if_pos (by omega)]
        · rw [if_neg q, if_neg (by omega)]
      · unfold fg0
        split <;> omega
      · rw [zG_zS_ne _ (Or.inl (by omega)), zG_zS_ne _ (Or.inl (by omega)), show 4 * 0 + l = l by omega]
        exact d3 l l0 l1
theorem pcC_congr {p n : Int} {T T' : Int → Int} (hn : 2 ≤ n ∧ n ≤ 4) (hT : ∀ i j l, 0 ≤ i → i < n → 0 ≤ j → j < n → 0 ≤ l → l < n → T (16 * i + 4 * j + l) = T' (16 * i + 4 * j + l)) (a b : Int) : pcC p n T a b = pcC p n T' a b := by
  unfold pcC
  refine cdF_congr n.toNat 0 (fun l l0 l1 => ?_)
  (try dsimp only)
  unfold pdS
  congr 1
  refine sm_congr (fun i i0 i1 => sm_congr (fun j j0 j1 => ?_))
  rw [hT i j l i0 (by omega) j0 (by omega) (by omega) (by omega)]
theorem isN_congr {p n : Int} {T T' : Int → Int} (hn : 2 ≤ n ∧ n ≤ 4) (hT : ∀ i j l, 0 ≤ i → i < n → 0 ≤ j → j < n → 0 ≤ l → l < n → T (16 * i + 4 * j + l) = T' (16 * i + 4 * j + l)) : isN p n T = isN p n T' := funext fun a => by
  unfold isN
  rw [pcC_congr hn hT a a, pcC_congr hn hT]
theorem kpR_congr {p n : Int} {T T' U U' : Int → Int} {N : Int → Prop} {top : Int → Int} (hn : 2 ≤ n ∧ n ≤ 4) (hT : ∀ i j l, 0 ≤ i → i < n → 0 ≤ j → j < n → 0 ≤ l → l < n → T (16 * i + 4 * j + l) = T' (16 * i + 4 * j + l)) (hU : ∀ i j l, 0 ≤ i → i < n → 0 ≤ j → j < n → 0 ≤ l → l < n → U (16 * i + 4 * j + l) = U' (16 * i + 4 * j + l)) : kpR p n T U N top = kpR p n T' U' N top := funext fun a => by
  unfold kpR
  have e1 : ∀ b, pcC p n T a b = pcC p n T' a b := fun b => pcC_congr hn hT a b
  have e2 : ∀ b, pcC p n U a b = pcC p n U' a b := fun b => pcC_congr hn hU a b
  simp only [e1, e2]
theorem exN_bd {p n : Int} {dp : Int → Int} {fig : Int → Int → Int → Int} {Sp : Int → Int → Int} (hp : 2 ≤ p) (bS : ∀ i x, 0 ≤ Sp i x ∧ Sp i x < p) : ∀ (s : Nat) (i x : Int), 0 ≤ exN p n dp fig s Sp i x ∧ exN p n dp fig s Sp i x < p
  | 0, i, x => bS i x
  | s + 1, i, x => by
    show 0 ≤ exS p dp fig (exN p n dp fig s Sp) (n - 1 - s) i x ∧ exS p dp fig (exN p n dp fig s Sp) (n - 1 - s) i x < p
    unfold exS
    split
    · exact ⟨em_ge (by omega), em_lt (by omega)⟩
    · exact exN_bd hp bS s i x
theorem shN_bd {p n : Int} {dp : Int → Int} {fig : Int → Int → Int → Int} {Sp : Int → Int → Int} (hp : 2 ≤ p) (bS : ∀ i x, 0 ≤ Sp i x ∧ Sp i x < p) (l x : Int) : 0 ≤ shN p n dp fig Sp l x ∧ shN p n dp fig Sp l x < p := by
  unfold shN shE
  split
  · split
    · omega
    · exact exN_bd hp bS _ _ _
  · omega
theorem lwN_bd {p n t : Int} {C W : Int → Int → Int} (hp : 2 ≤ p) (bW : ∀ b x, 0 ≤ W b x ∧ W b x < p) : ∀ (s : Nat) (b x : Int), 0 ≤ lwN p n C t s W b x ∧ lwN p n C t s W b x < p
  | 0, b, x => bW b x
  | s + 1, b, x => by
    show 0 ≤ lwS p n C (lwN p n C t s W) (t - s) b x ∧ lwS p n C (lwN p n C t s W) (t - s) b x < p
    unfold lwS
    split
    · omega
    · split
      · exact ⟨em_ge (by omega), em_lt (by omega)⟩
      · exact lwN_bd hp bW s b x
theorem mbL_bd {p n i j : Int} {C : Int → Int → Int} {fig : Int → Int → Int → Int} (hp : 2 ≤ p) (b x : Int) : 0 ≤ mbL p n C fig i j b x ∧ mbL p n C fig i j b x < p := lwN_bd hp (fun _ _ => ⟨em_ge (by omega), em_lt (by omega)⟩) _ b x
