/-! The model: findsTable. -/
def shU (n : Int) (V : Int → Int → Int) : Int → Int → Int := fun b x => if 1 ≤ b ∧ b ≤ n then V (b - 1) x else 0
theorem lwS_id {p n h : Int} {C W : Int → Int → Int} (hp : 0 < p) (bW : ∀ b x, 0 ≤ W b x ∧ W b x < p) (z : ∀ x, W h x = 0) (b x : Int) : lwS p n C W h b x = W b x := by
  unfold lwS
  by_cases q : b = h
  · rw [if_pos q, q, z]
  · rw [if_neg q]
    split
    · have e : cnv (C (b - (h - n))) (W h) x = 0 := by
        unfold cnv
        exact sm_zeros (fun i _ _ => by rw [z, Int.mul_zero])
      rw [e, Int.mul_zero, Int.add_zero, em_id (bW b x).1 (bW b x).2]
    · rfl
theorem lwN_id {p n : Int} {C W : Int → Int → Int} (hp : 0 < p) (bW : ∀ b x, 0 ≤ W b x ∧ W b x < p) (zW : ∀ b x, n < b → W b x = 0) : ∀ (s : Nat), (s : Int) ≤ 6 - n → lwN p n C 6 s W = W
  | 0, _ => rfl
  | s + 1, hs => by
    show lwS p n C (lwN p n C 6 s W) (6 - s) = W
    rw [lwN_id hp bW zW s (by omega)]
    exact funext fun b => funext fun x => lwS_id hp bW (fun x => zW _ x (by omega)) b x
theorem lwN_shU {p n : Int} {C V : Int → Int → Int} (hp : 0 < p) (hn : 2 ≤ n ∧ n ≤ 4) (bV : ∀ b x, 0 ≤ V b x ∧ V b x < p) (b x : Int) (zC : ∀ j e, j < 0 → C j e = 0) : lwN p n C 6 (7 - n).toNat (shU n V) b x = if 0 ≤ b ∧ b < n then ((if 0 < b then V (b - 1) x else 0) + (-1) * cnv (C b) (V (n - 1)) x) % p else 0 := by
  have bS : ∀ b x, 0 ≤ shU n V b x ∧ shU n V b x < p := fun b x => by
    unfold shU
    split
    · exact bV _ _
    · omega
  rw [show (7 - n).toNat = (6 - n).toNat + 1 by omega]
  show lwS p n C (lwN p n C 6 (6 - n).toNat (shU n V)) (6 - ((6 - n).toNat : Int)) b x = _
  rw [lwN_id hp bS (fun b x hb => by unfold shU; rw [if_neg (by omega)]) _ (by omega), show 6 - (((6 - n).toNat : Nat) : Int) = n by omega]
  unfold lwS
  have eN : shU n V n = V (n - 1) := funext fun y => by
    unfold shU
    rw [if_pos (by omega)]
  by_cases q : b = n
  · rw [if_pos q, if_neg (by omega)]
  · rw [if_neg q, eN, show b - (n - n) = b by omega]
    by_cases q2 : 0 ≤ b ∧ b < n
    · rw [if_pos q2, if_pos (by omega)]
      unfold shU
      by_cases q3 : 0 < b
      · rw [if_pos q3, if_pos (by omega)]
      · rw [if_neg q3, if_neg (by omega)]
    · rw [if_neg q2, if_neg (by omega)]
      unfold shU
      rw [if_neg (by omega)]
def tbR (p n : Int) (C W : Int → Int → Int) (r : Int) : Int → Int → Int := fun j x => if 0 ≤ j ∧ j < n then tbl p n C W r.toNat j x else 0
def tbE (p n : Int) (C W : Int → Int → Int) : Int → Int → Int := fun e x => if 0 ≤ e ∧ e / 4 < n ∧ e % 4 < n then tbl p n C W (e / 4).toNat (e % 4) x else 0
theorem tbl_bd {p n : Int} {C W : Int → Int → Int} (hp : 2 ≤ p) (bW : ∀ j x, 0 ≤ W j x ∧ W j x < p) : ∀ (r : Nat) (j x : Int), 0 ≤ tbl p n C W r j x ∧ tbl p n C W r j x < p
  | 0, j, x => bW j x
  | r + 1, j, x => ⟨em_ge (by omega), em_lt (by omega)⟩
theorem tbl_neg' {p n : Int} {C W : Int → Int → Int} (zW : ∀ j x, x < 0 → W j x = 0) : ∀ (r : Nat) (j x : Int), x < 0 → tbl p n C W r j x = 0
  | 0, j, x, hx => zW j x hx
  | r + 1, j, x, hx => by
    show ((if 0 < j then tbl p n C W r (j - 1) x else 0) + (-1) * cnv (C j) (tbl p n C W r (n - 1)) x) % p = 0
    rw [cnv_neg hx, tbl_neg' zW r (j - 1) x hx]
    split <;> rfl
theorem tbl_deg {p n : Int} {C W : Int → Int → Int} (sC : ∀ j e, (e < 0 ∨ 6 < e) → C j e = 0) (sW : ∀ j x, 30 < x → W j x = 0) : ∀ (r : Nat) (j x : Int), 30 + 6 * (r : Int) < x → tbl p n C W r j x = 0
  | 0, j, x, hx => sW j x (by omega)
  | r + 1, j, x, hx => by
    show ((if 0 < j then tbl p n C W r (j - 1) x else 0) + (-1) * cnv (C j) (tbl p n C W r (n - 1)) x) % p = 0
    rw [cnv_deg (da := 6) (db := 30 + 6 * (r : Int)) (fun e he => sC j e (Or.inr he)) (fun e he => tbl_deg sC sW r _ e he) x (by omega), tbl_deg sC sW r (j - 1) x (by omega)]
    split <;> rfl
set_option maxHeartbeats 2000000 in
theorem m_findsTable {d : Nat} {D p n s : Int} {S : Hp} {W C : Int → Int → Int} {Q : Vl → Hp → Prop} (h : DW S D) (hp : zG S D 0 = p) (h2 : 2 ≤ p ∧ p ≤ 7) (hN : zG S D 1 = n) (hn : 2 ≤ n ∧ n ≤ 4) (hs : 0 ≤ s ∧ s < 6) (hC : ∀ k, 0 ≤ k → k < 7 * n → zG S (D + 1) k = C (k / 7) (k % 7)) (bC : ∀ j e, 0 ≤ C j e ∧ C j e < p) (sC : ∀ j e, (e < 0 ∨ 6 < e) → C j e = 0) (zC : ∀ j e, (j < 0 ∨ n ≤ j) → C j e = 0) (eW : elW S D s n p W) (H : ∀ S', Md (fun x => x = D ∨ x = D + 41 ∨ (D + 23 ≤ x ∧ x ≤ D + 28)) S S' → (∀ i, i ≠ 58 → i ≠ 59 → zG S' D i = zG S D i) → DW S' D → BR S' (D + 25) 200 5 p (bkQ p (tbE p n C W) n.toNat) → Q (3, 0) S') : Ev (d + 4) 262 [(2, D), (0, s)] S Q := by
  apply w_Model_findsTable_0
  rw [h.x_entry.1]
  refine ⟨h.1, h.1, m_zeroB (w := 60) (n := 16) (p := p) h.x_entry.2.1 h.x_entry.2.2 (by omega) (by omega) (by omega) (by omega) (fun S1 m1 b1 => ⟨rfl, ?_⟩)⟩
  have w1 : DW S1 D := h.md m1 (by omega)
  have e1 : elW S1 D s n p W := ⟨fun j i j0 j1 i0 i1 => (m1.G (by omega) _).trans (eW.1 j i j0 j1 i0 i1), eW.2⟩
  refine ⟨w1.1, e1.up w1 ((m1.G (by omega) 1).trans hN) hn h2 hs (fun S2 f2 _ _ b2 => ⟨rfl, ?_⟩)⟩
  have M2 : Md (fun x => x = D ∨ x = D + 41 ∨ (D + 23 ≤ x ∧ x ≤ D + 28)) S S2 := (m1.wide (fun x hx => by omega)).tr (f2.1.wide (fun x hx => by omega))
  have o2 : ∀ i, i ≠ 58 → i ≠ 59 → zG S2 D i = zG S D i := fun i i1 i2 => (f2.2.2 i i1 i2).trans (m1.G (by omega) i)
  have w2 := f2.2.1
  have q2 := b1.keep f2.1 (by omega)
  have hC2 : ∀ k, 0 ≤ k → k < 7 * n → zG S2 (D + 1) k = C (k / 7) (k % 7) := fun k k0 k1 => (M2.G (by omega) k).trans (hC k k0 k1)
  have p2 : zG S2 D 0 = p := (o2 0 (by omega) (by omega)).trans hp
  have n2 : zG S2 D 1 = n := (o2 1 (by omega) (by omega)).trans hN
  have sW : ∀ j x, 30 < x → W j x = 0 := fun j x hx => eW.2.2.1 j x (Or.inr hx)
  have nW : ∀ j x, x < 0 → W j x = 0 := fun j x hx => eW.2.2.1 j x (Or.inl hx)
  have bT : ∀ (r : Nat) j x, 0 ≤ tbl p n C W r j x ∧ tbl p n C W r j x < p := tbl_bd h2.1 eW.2.1
  have dT := tbl_deg (p := p) (n := n) sC sW
  have nT := tbl_neg' (p := p) (n := n) (C := C) nW
  have b2 : BR S2 (D + 41) 100 7 p (tbR p n C W 0) := b2.congr (fun b x => by
    unfold tbR
    by_cases q : 0 ≤ b ∧ b < n
    · rw [if_pos q]
      rfl
    · rw [if_neg q]
      exact eW.2.2.2 b x (by omega))
  clear f2 m1 w1 e1 b1 hC hp hN
  refine loopU (P := fun r S' => At (d + 4) 262 c262_15 [(0, (2, D)), (2, (0, r))] [] S' Q) (I := fun r S' => 0 ≤ r ∧ Md (fun x => x = D + 23 ∨ x = D + 41) S2 S' ∧ BR S' (D + 41) 100 7 p (tbR p n C W r) ∧ BR S' (D + 23) 60 16 p (fun b x => if 0 ≤ b ∧ b / 4 < r ∧ b % 4 < n then tbl p n C W (b / 4).toNat (b % 4) x else 0)) n ?_ ?_ 0 S2 (by omega) ⟨by omega, Md.refl _ _, b2, q2.congr (fun b x => by rw [if_neg (by omega)])⟩
  · rintro r S3 hr ⟨r0, m3, b3, q3⟩ hk
    have w3 : DW S3 D := w2.md m3 (by omega)
    have n3 : zG S3 D 1 = n := (m3.G (by omega) 1).trans n2
    apply w_Model_findsTable_15
    rw [n3]
    refine ⟨w3.1, fun hc => by omega, fun _ => ?_⟩
    refine loopU (P := fun j S' => At (d + 4) 262 c262_25 [(0, (2, D)), (2, (0, r)), (3, (0, j))] [] S' Q) (I := fun j S' => 0 ≤ j ∧ Md (fun x => x = D + 23) S3 S' ∧ BR S' (D + 23) 60 16 p (fun b x => if 0 ≤ b ∧ (b / 4 < r ∧ b % 4 < n ∨ b / 4 = r ∧ b % 4 < j) then tbl p n C W (b / 4).toNat (b % 4) x else 0)) n ?_ ?_ 0 S3 (by omega) ⟨by omega, Md.refl _ _, q3.congr (fun b x => by
      by_cases q : 0 ≤ b ∧ b / 4 < r ∧ b % 4 < n
      · rw [if_pos q, if_pos (by omega)]
      · rw [if_neg q, if_neg (by omega)])⟩
    · rintro j S4 hj ⟨j0, m4, q4⟩ hk2
      have w4 : DW S4 D := w3.md m4 (by omega)
      have b4 := b3.keep m4 (by omega)
      have n4 : zG S4 D 1 = n := (m4.G (by omega) 1).trans n3
      apply w_Model_findsTable_25
      rw [n4]
      refine ⟨w4.1, fun hc => by omega, fun _ => ?_⟩
      refine loopU (P := fun k S' => At (d + 4) 262 c262_36 [(0, (2, D)), (2, (0, r)), (3, (0, j)), (4, (0, k))] [] S' Q) (I := fun k S' => 0 ≤ k ∧ S' = zR S4 (D + 23) (fun e => if 60 * (4 * r + j) ≤ e ∧ e < 60 * (4 * r + j) + k then tbl p n C W r.toNat j (e - 60 * (4 * r + j)) else zG S4 (D + 23) e)) 60 ?_ ?_ 0 S4 (by omega) ⟨by omega, (zR_self S4 (D + 23)).symm.trans (zR_congr _ _ (fun e => by rw [if_neg (by omega)]))⟩
      · rintro k _ hk' ⟨k0, rfl⟩ hk3
        have w5 : DW (zR S4 (D + 23) (fun e => if 60 * (4 * r + j) ≤ e ∧ e < 60 * (4 * r + j) + k then tbl p n C W r.toNat j (e - 60 * (4 * r + j)) else zG S4 (D + 23) e)) D := w4.zR (by omega)
        have v := b4.2.2.1 j k j0 (by omega) k0 (by omega)
        unfold tbR at v
        rw [if_pos ⟨j0, hj⟩] at v
        apply w_Model_findsTable_36
        refine ⟨fun hc => by omega, fun _ => ⟨w5.1, w5.1, m_entryAt (by omega) (by omega) ⟨_, rfl, ?_⟩⟩⟩
        rw [w5.x_entry.1, w5.x_work.1, w32_id (x := 100 * j) (by omega) (by omega), w32_id (x := 100 * j + k) (by omega) (by omega), w32_id (x := 60 * (4 * r + j) + k) (by omega) (by omega), w5.x_entry.2.1, w5.x_work.2.1, w5.x_entry.2.2, w5.x_work.2.2, zG_zR_ne _ (by omega), v]
        refine ⟨w5.1, ⟨rfl, by omega, by omega⟩, ⟨rfl, by omega, by omega⟩, ?_⟩
        rintro _ rfl _ rfl
        rw [w32_id (by omega) (by omega)]
        refine hk3 _ ⟨by omega, ?_⟩
        rw [zS_zR]
        refine zR_congr _ _ (fun e => ?_)
        by_cases q : e = 60 * (4 * r + j) + k
        · rw [if_pos q, if_pos (by omega), show e - 60 * (4 * r + j) = k by omega]
        · rw [if_neg q]
          by_cases q2 : 60 * (4 * r + j) ≤ e ∧ e < 60 * (4 * r + j) + k
          · rw [if_pos q2, if_pos (by omega)]
          · rw [if_neg q2, if_neg (by omega)]
      · rintro _ ⟨-, rfl⟩
        apply w_Model_findsTable_36
        refine ⟨fun _ => ?_, fun hc => absurd (Int.le_refl 60) hc⟩
        rintro _ rfl
        rw [w32_id (by omega) (by omega)]
        have b5 := q4.set (k := 4 * r + j) (G := tbl p n C W r.toNat j) (f := fun e => if 60 * (4 * r + j) ≤ e ∧ e < 60 * (4 * r + j) + 60 then tbl p n C W r.toNat j (e - 60 * (4 * r + j)) else zG S4 (D + 23) e) (by omega) (by omega) (fun x x0 x1 => by
          (try dsimp only)
          rw [if_pos (by omega), show 60 * (4 * r + j) + x - 60 * (4 * r + j) = x by omega]) (fun b x b0 b1 hb x0 x1 => by
          (try dsimp only)
          rw [if_neg (by omega)]) (fun x hx => by
          rcases hx with hx | hx
          · exact nT _ _ x hx
          · exact dT _ _ x (by omega)) (fun x => bT _ _ _)
        refine hk2 _ ⟨by omega, m4.tr (Md.zR S4 (D + 23) _), b5.congr (fun b x => ?_)⟩
        by_cases q : b = 4 * r + j
        · rw [if_pos q, if_pos (by omega), show b / 4 = r by omega, show b % 4 = j by omega]
        · rw [if_neg q]
          by_cases q2 : 0 ≤ b ∧ (b / 4 < r ∧ b % 4 < n ∨ b / 4 = r ∧ b % 4 < j)
          · rw [if_pos q2, if_pos (by omega)]
          · rw [if_neg q2, if_neg (by omega)]
    · rintro S4 ⟨-, m4, q4⟩
      have w4 : DW S4 D := w3.md m4 (by omega)
      have b4 := b3.keep m4 (by omega)
      have n4 : zG S4 D 1 = n := (m4.G (by omega) 1).trans n3
      have q4 : BR S4 (D + 23) 60 16 p (fun b x => if 0 ≤ b ∧ b / 4 < r + 1 ∧ b % 4 < n then tbl p n C W (b / 4).toNat (b % 4) x else 0) := q4.congr (fun b x => by
        by_cases q : 0 ≤ b ∧ (b / 4 < r ∧ b % 4 < n ∨ b / 4 = r ∧ b % 4 < n)
        · rw [if_pos q, if_pos (by omega)]
        · rw [if_neg q, if_neg (by omega)])
      apply w_Model_findsTable_25
      rw [n4]
      refine ⟨w4.1, fun _ => ⟨w4.1, ?_⟩, fun hc => absurd (Int.le_refl n) hc⟩
      intro x1 hx1
      rw [hx1]
      -- up by y
      refine loopD (P := fun j S' => At (d + 4) 262 c262_86 [(0, (2, D)), (2, (0, r)), (3, (0, j))] [] S' Q) (I := fun j S' => j ≤ n ∧ Md (fun x => x = D + 41) S4 S' ∧ BR S' (D + 41) 100 7 p (fun b x => if j < b then shU n (tbR p n C W r) b x else tbR p n C W r b x)) 0 ?_ ?_ n S4 (by omega) ⟨by omega, Md.refl _ _, b4.congr (fun b x => ?_)⟩
      · rintro j S5 hj ⟨jn, m5, b5⟩ hk2
        have w5 : DW S5 D := w4.md m5 (by omega)
        apply w_Model_findsTable_86
        refine ⟨fun hc => by omega, fun _ => ?_⟩
        refine loopU (P := fun k S' => At (d + 4) 262 c262_93 [(0, (2, D)), (2, (0, r)), (3, (0, j)), (4, (0, k))] [] S' Q) (I := fun k S' => 0 ≤ k ∧ S' = zR S5 (D + 41) (fun e => if 100 * j ≤ e ∧ e < 100 * j + k then shU n (tbR p n C W r) j (e - 100 * j) else zG S5 (D + 41) e)) 100 ?_ ?_ 0 S5 (by omega) ⟨by omega, (zR_self S5 (D + 41)).symm.trans (zR_congr _ _ (fun e => by rw [if_neg (by omega)]))⟩
        · rintro k _ hk' ⟨k0, rfl⟩ hk3
          have w6 : DW (zR S5 (D + 41) (fun e => if 100 * j ≤ e ∧ e < 100 * j + k then shU n (tbR p n C W r) j (e - 100 * j) else zG S5 (D + 41) e)) D := w5.zR (by omega)
          have v : (if j ≤ 0 then 0 else zG (zR S5 (D + 41) (fun e => if 100 * j ≤ e ∧ e < 100 * j + k then shU n (tbR p n C W r) j (e - 100 * j) else zG S5 (D + 41) e)) (D + 41) (100 * (j - 1) + k)) = shU n (tbR p n C W r) j k := by
            unfold shU
            by_cases q : j ≤ 0
            · rw [if_pos q, if_neg (by omega)]
            · rw [if_neg q, if_pos (by omega), zG_zR_at, if_neg (by omega), b5.2.2.1 (j - 1) k (by omega) (by omega) k0 hk']
              (try dsimp only)
              rw [if_neg (by omega)]
          apply w_Model_findsTable_93
          rw [w6.x_work.1, w32_id (x := j - 1) (by omega) (by omega), w32_id (x := 100 * (j - 1)) (by omega) (by omega), w32_id (x := 100 * (j - 1) + k) (by omega) (by omega), w32_id (x := 100 * j) (by omega) (by omega), w32_id (x := 100 * j + k) (by omega) (by omega), w6.x_work.2.1, w6.x_work.2.2, v]
          refine ⟨fun hc => by omega, fun _ => ⟨w6.1, fun _ => ⟨w6.1, rfl, by omega, by omega⟩, ?_⟩⟩
          rintro _ rfl
          refine ⟨⟨rfl, by omega, by omega⟩, ?_⟩
          rintro _ rfl _ rfl
          rw [w32_id (by omega) (by omega), zS_zR]
          refine hk3 _ ⟨by omega, zR_congr _ _ (fun e => ?_)⟩
          by_cases q : e = 100 * j + k
          · rw [if_pos q, if_pos (by omega), show e - 100 * j = k by omega]
          · rw [if_neg q]
            by_cases q2 : 100 * j ≤ e ∧ e < 100 * j + k
            · rw [if_pos q2, if_pos (by omega)]
            · rw [if_neg q2, if_neg (by omega)]
        · rintro _ ⟨-, rfl⟩
          apply w_Model_findsTable_93
          refine ⟨fun _ => ?_, fun hc => absurd (Int.le_refl 100) hc⟩
          rintro _ rfl
          rw [w32_id (by omega) (by omega)]
          have b6 := b5.set (k := j) (G := shU n (tbR p n C W r) j) (f := fun e => if 100 * j ≤ e ∧ e < 100 * j + 100 then shU n (tbR p n C W r) j (e - 100 * j) else zG S5 (D + 41) e) hj (by omega) (fun x x0 x1 => by
            (try dsimp only)
            rw [if_pos (by omega), show 100 * j + x - 100 * j = x by omega]) (fun b x b0 b1 hb x0 x1 => by
            (try dsimp only)
            rw [if_neg (by omega)]) (fun x hx => by
            unfold shU
            split
            · exact b3.2.2.2.1 _ x hx
            · rfl) (fun x => by
            unfold shU
            split
            · exact b3.2.2.2.2 _ x
            · omega)
          refine hk2 _ ⟨by omega, m5.tr (Md.zR _ _ _), b6.congr (fun b x => ?_)⟩
          by_cases q : b = j
          · rw [if_pos q, if_pos (by omega), q]
          · rw [if_neg q]
            by_cases q2 : j < b
            · rw [if_pos q2, if_pos (by omega)]
            · rw [if_neg q2, if_neg (by omega)]
      · rintro S5 ⟨-, m5, b5⟩
        have w5 : DW S5 D := w4.md m5 (by omega)
        have b5 : BR S5 (D + 41) 100 7 p (shU n (tbR p n C W r)) := b5.congr (fun b x => by
          by_cases q : 0 - 1 < b
          · rw [if_pos q]
          · rw [if_neg q]
            unfold shU tbR
            rw [if_neg (by omega), if_neg (by omega)])
        have M5 : Md (fun x => x = D + 23 ∨ x = D + 41) S2 S5 := (m3.tr (m4.wide (fun x hx => Or.inl hx))).tr (m5.wide (fun x hx => Or.inr hx))
        apply w_Model_findsTable_86
        refine ⟨fun _ => ⟨w5.1, ?_⟩, fun hc => absurd (show (0 : Int) - 1 < 0 by decide) hc⟩
        refine m_lowersWork (t := 6) (dg := 48) w5 ((M5.G (by omega) 0).trans p2) h2 ((M5.G (by omega) 1).trans n2) hn rfl (fun k k0 k1 => (M5.G (by omega) k).trans (hC2 k k0 k1)) bC sC (fun j e hj => zC j e (Or.inr hj)) b5 (by omega) (fun b x hx => ?_) (fun S6 m6 b6 => ⟨rfl, ?_⟩)
        · unfold shU tbR
          split
          · split
            · exact dT _ _ x (by omega)
            · rfl
          · rfl
        · rintro _ rfl
          rw [w32_id (by omega) (by omega)]
          rw [show (6 : Int) + 1 - n = 7 - n by omega] at b6
          refine hk _ ⟨by omega, M5.tr (m6.wide (fun x hx => Or.inr hx)), b6.congr (fun b x => ?_), (q4.keep m5 (by omega)).keep m6 (by omega)⟩
          rw [lwN_shU (by omega) hn b3.2.2.2.2 b x (fun j e hj => zC j e (Or.inl hj))]
          unfold tbR
          by_cases q : 0 ≤ b ∧ b < n
          · rw [if_pos q, if_pos q, show (r + 1).toNat = r.toNat + 1 by omega]
            show _ = ((if 0 < b then tbl p n C W r.toNat (b - 1) x else 0) + (-1) * cnv (C b) (tbl p n C W r.toNat (n - 1)) x) % p
            have e1 : (fun x => if 0 ≤ n - 1 ∧ n - 1 < n then tbl p n C W r.toNat (n - 1) x else 0) = tbl p n C W r.toNat (n - 1) := funext fun y => if_pos (by omega)
            rw [e1]
            congr 2
            by_cases q2 : 0 < b
            · rw [if_pos q2, if_pos q2, if_pos (by omega)]
            · rw [if_neg q2, if_neg q2]
          · rw [if_neg q, if_neg q]
      · by_cases q : n < b
        · rw [if_pos q]
          unfold shU tbR
          rw [if_neg (by omega), if_neg (by omega)]
        · rw [if_neg q]
  · rintro S3 ⟨-, m3, b3, q3⟩
    have w3 : DW S3 D := w2.md m3 (by omega)
    have n3 : zG S3 D 1 = n := (m3.G (by omega) 1).trans n2
    apply w_Model_findsTable_15
    rw [n3]
    refine ⟨w3.1, fun _ => ⟨w3.1, w3.1, ?_⟩, fun hc => absurd (Int.le_refl n) hc⟩
    refine m_findsEquation (E := tbE p n C W) w3 ((m3.G (by omega) 0).trans p2) h2 (by omega) q3 (fun i l x i0 i1 l0 l1 hx => ?_) (fun S4 m4 b4 => ⟨rfl, H S4 ((M2.tr (m3.wide (fun x hx => by omega))).tr (m4.wide (fun x hx => by omega))) (fun i i1 i2 => ?_) (w3.md m4 (by omega)) b4⟩)
    · unfold tbE
      split
      · exact dT _ _ x (by omega)
      · rfl
    · rw [m4.G (by omega), m3.G (by omega), o2 i i1 i2]
