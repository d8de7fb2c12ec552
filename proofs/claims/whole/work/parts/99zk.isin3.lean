/-! The model: isIn whole. -/
set_option maxHeartbeats 2000000 in
theorem m_isIn {d : Nat} {D p n k : Int} {S : Hp} {fig : Int → Int → Int → Int} {dp : Int → Int} {Sp : Int → Int → Int} {Q : Vl → Hp → Prop} (h : DW S D) (hp : zG S D 0 = p) (h2 : 2 ≤ p ∧ p ≤ 7) (hN : zG S D 1 = n) (hn : 2 ≤ n ∧ n ≤ 4) (hk : 0 ≤ k ∧ k < 20) (hd : DG S D k n p fig dp) (hr : RDC n fig dp) (hS : BR S (D + 34) 96 7 p Sp) (dS : ∀ i x, 0 ≤ i → i < n → 75 < x → Sp i x = 0) (H0 : ¬ okE p n dp fig Sp → ∀ S', Md (fun x => x = D + 34 ∨ x = D + 35) S S' → Q (0, 0) S') (H1 : okE p n dp fig Sp → ∀ S', Md (fun x => x = D + 34 ∨ x = D + 35) S S' → BR S' (D + 35) 96 4 p (shN p n dp fig Sp) → Q (0, 1) S') : Ev (d + 2) 214 [(2, D), (0, k)] S Q := by
  -- refused
  have bad : ∀ l S', Md (fun x => x = D + 34 ∨ x = D + 35) S S' → ¬ okE p n dp fig Sp → At (d + 2) 214 c214_17 [(0, (2, D)), (1, (0, k)), (2, (0, 0)), (3, (0, l))] [] S' Q := fun l S' m z => by
    apply w_Model_isIn_17
    exact ⟨fun _ => ⟨Or.inl rfl, H0 z S' m⟩, fun y => absurd (Or.inr rfl) y⟩
  have dX := fun s hs => exN_deg (p := p) (B := 95) hr (fun i x i0 i1 hx => dS i x i0 i1 (by have := hr.1 i i0 i1; omega)) s hs
  apply w_Model_isIn_0
  rw [h.x_coord.1]
  refine ⟨h.1, h.1, m_zeroB (w := 96) (n := 4) (p := p) h.x_coord.2.1 h.x_coord.2.2 (by omega) (by omega) (by omega) (by omega) (fun S1 m1 c1 => ⟨rfl, ?_⟩)⟩
  have w1 : DW S1 D := h.md m1 (by omega)
  refine ⟨w1.1, ?_⟩
  rintro _ rfl
  rw [(m1.G (a := D) (by omega) 1).trans hN, w32_id (by omega) (by omega)]
  refine loopD (P := fun l S' => At (d + 2) 214 c214_17 [(0, (2, D)), (1, (0, k)), (2, (0, 1)), (3, (0, l))] [] S' Q) (I := fun l S' => l < n ∧ Md (fun x => x = D + 34 ∨ x = D + 35) S S' ∧ (∀ b, l < b → b < n → ∀ e, 0 ≤ e → e < 40 - dp b → exN p n dp fig (n - 1 - b).toNat Sp b e = 0) ∧ (∃ V, BR S' (D + 34) 96 7 p V ∧ ∀ i x, 0 ≤ i → i ≤ l → V i x = exN p n dp fig (n - 1 - l).toNat Sp i x) ∧ BR S' (D + 35) 96 4 p (fun b x => if 0 ≤ b ∧ l < b then shN p n dp fig Sp b x else 0)) 0 ?_ ?_ (n - 1) S1 (by omega) ⟨by omega, m1.wide (fun x hx => Or.inr hx), fun b b0 b1 => by omega, ⟨Sp, hS.keep m1 (by omega), fun i x i0 i1 => by rw [show (n - 1 - (n - 1)).toNat = 0 by omega]; rfl⟩, c1.congr (fun b x => by
    by_cases q : 0 ≤ b ∧ n - 1 < b
    · rw [if_pos q]
      unfold shN
      rw [if_neg (by omega)]
    · rw [if_neg q])⟩
  · rintro l S2 hl ⟨ln, m2, o2, ⟨V, s2, v2⟩, c2⟩ hnx
    have w2 : DW S2 D := h.md m2 (by omega)
    have d2 := hd.keep m2 (by omega) (by omega)
    have dl := hr.1 l hl ln
    have dd := d2.2 l hl ln
    have zV : ∀ x, 95 - dp l < x → V l x = 0 := fun x hx => by
      rw [v2 l x hl (by omega)]
      exact dX _ (by omega) l x hl ln hx
    have bV := s2.2.2.2.2
    have negV := fun i x hx => s2.2.2.2.1 i x (Or.inl hx)
    apply w_Model_isIn_17
    rw [w2.x_depths.1, w2.x_depths.2.1, w2.x_depths.2.2, w32_id (x := 4 * k) (by omega) (by omega), w32_id (x := 4 * k + l) (by omega) (by omega), dd, w32_id (x := 40 - dp l) (by omega) (by omega)]
    refine ⟨fun z => absurd z (by omega), fun _ => ⟨w2.1, ⟨rfl, by omega, by omega⟩, ?_⟩⟩
    intro lo hlo
    refine loopU (α := Int) (P := fun e v => At (d + 2) 214 c214_43 [(0, (2, D)), (1, (0, k)), (2, (0, v)), (3, (0, l)), (4, (0, lo)), (5, (0, e))] [] S2 Q) (I := fun e v => 0 ≤ e ∧ (v = 0 ∨ v = 1) ∧ (v = 1 ↔ ∀ x, 0 ≤ x → x < e → V l x = 0)) lo ?_ ?_ 0 1 (by omega) ⟨by omega, Or.inr rfl, ⟨fun _ x x0 x1 => by omega, fun _ => rfl⟩⟩
    · rintro e v he ⟨e0, v1, vv⟩ hk2
      have ve := s2.2.2.1 l e hl (by omega) e0 (by omega)
      apply w_Model_isIn_43
      rw [w2.x_lau.1, w2.x_lau.2.1, w2.x_lau.2.2, w32_id (x := 96 * l) (by omega) (by omega), w32_id (x := 96 * l + e) (by omega) (by omega), ve]
      refine ⟨fun hc => by omega, fun _ => ⟨fun _ => ⟨w2.1, rfl, by omega, by omega⟩, ?_⟩⟩
      rintro _ rfl _ rfl
      rw [w32_id (by omega) (by omega)]
      refine hk2 _ ⟨by omega, ?_, ?_⟩
      · split
        · exact Or.inl rfl
        · exact Or.inr rfl
      · constructor
        · intro z x x0 x1
          have z : ¬ (v = 0 ∨ ¬ V l e = 0) := fun y => by rw [if_pos y] at z; omega
          rcases Int.lt_or_le x e with q | q
          · exact vv.mp (by omega) x x0 q
          · rw [show x = e by omega]
            exact Decidable.not_not.mp (fun y => z (Or.inr y))
        · intro z
          refine if_neg (fun y => ?_)
          rcases y with y | y
          · have := vv.mpr (fun x x0 x1 => z x x0 (by omega))
            omega
          · exact y (z e e0 (by omega))
    · rintro v ⟨-, v1, vv⟩
      apply w_Model_isIn_43
      refine ⟨fun _ => ?_, fun hc => absurd (Int.le_refl lo) hc⟩
      rcases v1 with v0 | v1
      · -- it is none
        rw [v0]
        apply w_Model_isIn_85
        refine ⟨fun _ => ?_, fun z => absurd (Or.inr rfl) z⟩
        apply w_Model_isIn_125
        rintro _ rfl
        refine bad _ S2 m2 (fun z => ?_)
        have := vv.mpr (fun x x0 x1 => by
          rw [v2 l x hl (by omega)]
          exact z l hl ln x x0 (by omega))
        omega
      · rw [v1]
        have ok := vv.mp v1
        clear vv
        have hf0 : ∀ i, 0 ≤ i → i < l → fig l i 0 = 0 := fun i i0 i1 => by
          by_cases q : fig l i 0 = 0
          · exact q
          · have := hr.2.2 l i 0 i0 i1 ln (by omega) (by omega) q
            have := hr.1 i i0 (by omega)
            omega
        have hff : ∀ m, 0 ≤ m → m ≤ 20 → fig l l m = if m = dp l then 1 else 0 := fun m m0 m1 => hr.2.1 l m hl ln m0 m1
        rw [show lo = lo + 0 by omega]
        have base : At (d + 2) 214 c214_85 [(0, (2, D)), (1, (0, k)), (2, (0, 1)), (3, (0, l)), (4, (0, lo)), (5, (0, lo + 0))] [] S2 Q := by
          refine loopU (P := fun e S' => At (d + 2) 214 c214_85 [(0, (2, D)), (1, (0, k)), (2, (0, 1)), (3, (0, l)), (4, (0, lo)), (5, (0, lo + e))] [] S' Q) (I := fun e S' => 0 ≤ e ∧ Md (fun x => x = D + 34 ∨ x = D + 35) S S' ∧ BR S' (D + 34) 96 7 p (inP p fig l lo V e) ∧ BR S' (D + 35) 96 4 p (fun b x => if 0 ≤ b ∧ l < b then shN p n dp fig Sp b x else if b = l ∧ 0 ≤ x ∧ x < e then V l (x + lo) else 0)) (96 - lo) ?_ ?_ 0 S2 (by omega) ⟨by omega, m2, s2.congr (fun i x => ?_), c2.congr (fun b x => ?_)⟩
          · rintro e S3 he ⟨e0, m3, s3, c3⟩ hk2
            have w3 : DW S3 D := h.md m3 (by omega)
            have ve := s3.2.2.1 l (lo + e) hl (by omega) (by omega) (by omega)
            have vi : inP p fig l lo V e l (lo + e) = V l (e + lo) := by
              unfold inP
              rw [if_neg (by omega), if_neg (by omega), Int.add_comm]
            rw [vi] at ve
            have nx : ∀ S4, Md (fun x => x = D + 34 ∨ x = D + 35) S3 S4 → BR S4 (D + 34) 96 7 p (inP p fig l lo V (e + 1)) → BR S4 (D + 35) 96 4 p (fun b x => if 0 ≤ b ∧ l < b then shN p n dp fig Sp b x else if b = l ∧ 0 ≤ x ∧ x < e + 1 then V l (x + lo) else 0) → At (d + 2) 214 c214_85 [(0, (2, D)), (1, (0, k)), (2, (0, 1)), (3, (0, l)), (4, (0, lo)), (5, (0, lo + (e + 1)))] [] S4 Q := fun S4 m4 s4 c4 => hk2 S4 ⟨by omega, m3.tr m4, s4, c4⟩
            have stp := fun i x => inP_step (e := e) (lo := lo) h2.1 bV hl dl hlo hff e0 i x
            apply w_Model_isIn_85
            rw [w3.x_lau.1, w3.x_lau.2.1, w3.x_lau.2.2, w32_id (x := 96 * l) (by omega) (by omega), w32_id (x := 96 * l + (lo + e)) (by omega) (by omega), ve, w32_id (x := lo + e - lo) (by omega) (by omega), show lo + e - lo = e by omega]
            refine ⟨fun z => absurd z (by omega), fun _ => ⟨w3.1, ⟨rfl, by omega, by omega⟩, w3.1, ?_⟩⟩
            by_cases vz : V l (e + lo) = 0
            · rw [vz]
              rw [vz] at stp
              apply w_Model_takesPart_0
              refine ⟨fun z => absurd rfl z, fun _ => ⟨rfl, ?_⟩⟩
              rintro _ rfl
              rw [w32_id (by omega) (by omega), show lo + e + 1 = lo + (e + 1) by omega]
              refine nx S3 (Md.refl _ _) (s3.congr (fun i x => ?_)) (c3.congr (fun b x => ?_))
              · rw [← stp i x]
                unfold tkF
                have bb := s3.2.2.2.2 i x
                split
                · rw [Int.zero_mul, Int.mul_zero, Int.add_zero, em_id bb.1 bb.2]
                · rfl
              · by_cases q : 0 ≤ b ∧ l < b
                · rw [if_pos q, if_pos q]
                · rw [if_neg q, if_neg q]
                  by_cases q2 : b = l ∧ 0 ≤ x ∧ x < e
                  · rw [if_pos q2, if_pos (by omega)]
                  · rw [if_neg q2]
                    by_cases q3 : b = l ∧ 0 ≤ x ∧ x < e + 1
                    · rw [if_pos q3, show x = e by omega, vz]
                    · rw [if_neg q3]
            · have e55 : e ≤ 55 := by
                rcases Int.lt_or_le 55 e with z | z
                · exact absurd (zV (e + lo) (by omega)) vz
                · exact z
              refine m_takesPart w3 ((m3.G (by omega) 0).trans hp) h2 hk ⟨hl, by omega⟩ ln (hd.keep m3 (by omega) (by omega)) ⟨e0, e55⟩ (bV _ _) s3 c3 (fun S4 m4 s4 c4 => ⟨rfl, ?_⟩)
              rintro _ rfl
              rw [w32_id (by omega) (by omega), show lo + e + 1 = lo + (e + 1) by omega]
              refine nx S4 m4 (s4.congr stp) (c4.congr (fun b x => ?_))
              by_cases q : b = l
              · rw [if_pos q, q, if_neg (show ¬ (0 ≤ l ∧ l < l) by omega), if_neg (show ¬ (0 ≤ l ∧ l < l) by omega)]
                by_cases q3 : x = e
                · rw [if_pos ⟨q3, vz⟩, if_pos (by omega), q3]
                · rw [if_neg (fun z => q3 z.1)]
                  by_cases q2 : l = l ∧ 0 ≤ x ∧ x < e
                  · rw [if_pos q2, if_pos (by omega)]
                  · rw [if_neg q2, if_neg (by omega)]
              · rw [if_neg q]
                by_cases q2 : 0 ≤ b ∧ l < b
                · rw [if_pos q2, if_pos q2]
                · rw [if_neg q2, if_neg q2, if_neg (fun z => q z.1), if_neg (fun z => q z.1)]
          · rintro S3 ⟨-, m3, s3, c3⟩
            apply w_Model_isIn_85
            refine ⟨fun _ => ?_, fun z => absurd (Or.inl (show 96 ≤ lo + (96 - lo) by omega)) z⟩
            apply w_Model_isIn_125
            rintro _ rfl
            rw [w32_id (by omega) (by omega)]
            refine hnx _ ⟨by omega, m3, fun b b0 b1 e e0 e1 => ?_, ⟨inP p fig l lo V (96 - lo), s3, fun i x i0 i1 => ?_⟩, c3.congr (fun b x => ?_)⟩
            · by_cases q : b = l
              · rw [q, ← v2 l e hl (by omega)]
                exact ok e e0 (by rw [q] at e1; omega)
              · exact o2 b (by omega) b1 e e0 e1
            · rw [inP_end dl hlo hf0 rfl (fun x hx => zV x (by omega)) i x (by omega), show (n - 1 - (l - 1)).toNat = (n - 1 - l).toNat + 1 by omega]
              show _ = exS p dp fig (exN p n dp fig (n - 1 - l).toNat Sp) (n - 1 - ((n - 1 - l).toNat : Int)) i x
              rw [show n - 1 - (((n - 1 - l).toNat : Nat) : Int) = l by omega]
              have eV : V l = exN p n dp fig (n - 1 - l).toNat Sp l := funext fun y => v2 l y hl (by omega)
              unfold exS shE
              rw [if_pos (by omega), if_pos (by omega), v2 i x i0 (by omega), eV]
            · by_cases q : b = l
              · rw [if_neg (show ¬ (0 ≤ b ∧ l < b) by omega), if_pos (show 0 ≤ b ∧ l - 1 < b by omega), q]
                unfold shN shE
                rw [if_pos (show 0 ≤ l ∧ l < n from ⟨hl, ln⟩)]
                by_cases q2 : l = l ∧ 0 ≤ x ∧ x < 96 - lo
                · rw [if_pos q2, if_neg (by omega), v2 l (x + lo) hl (by omega), hlo]
                · rw [if_neg q2]
                  by_cases q3 : x < 0
                  · rw [if_pos q3]
                  · rw [if_neg q3]
                    exact (dX _ (by omega) l _ hl ln (by omega)).symm
              · by_cases q2 : 0 ≤ b ∧ l < b
                · rw [if_pos q2, if_pos (by omega)]
                · rw [if_neg q2, if_neg (fun z => q z.1), if_neg (by omega)]
          · unfold inP
            by_cases q : 0 ≤ i ∧ i < l
            · have bb := bV i x
              rw [if_pos q, show (0 : Int).toNat = 0 from rfl, sm_zero, Int.mul_zero, Int.add_zero, em_id bb.1 bb.2]
            · rw [if_neg q, if_neg (by omega)]
          · by_cases q : 0 ≤ b ∧ l < b
            · rw [if_pos q, if_pos q]
            · rw [if_neg q, if_neg q, if_neg (by omega)]
        rw [show lo + 0 = lo by omega] at base ⊢
        exact base
  · rintro S2 ⟨-, m2, o2, -, c2⟩
    apply w_Model_isIn_17
    refine ⟨fun _ => ⟨Or.inr rfl, H1 (fun l l0 l1 e e0 e1 => o2 l (by omega) l1 e e0 e1) S2 m2 (c2.congr (fun b x => ?_))⟩, fun z => absurd (Or.inl (show (0 : Int) - 1 < 0 by decide)) z⟩
    by_cases q : 0 ≤ b ∧ 0 - 1 < b
    · rw [if_pos q]
    · rw [if_neg q]
      unfold shN
      rw [if_neg (by omega)]
