/-! The model's reader follows the pure one: parts and powers. -/
def mL (d : Nat) (D v : Int) (S : Hp) (Q : Vl → Hp → Prop) : Prop := At (d + 5) 187 c187_30 [(0, (2, D)), (1, (0, v))] [] S Q
def FL (d : Nat) (D w : Int) (S : Hp) (Q : Vl → Hp → Prop) : Prop := ∀ S', mrF D S S' → zG S' D 20 = w → mL d D 0 S' Q
theorem mrF.refl {D : Int} {S : Hp} (w : DW S D) : mrF D S S := ⟨Md.refl _ _, w, fun _ _ => rfl⟩
theorem FL.to {d : Nat} {D w : Int} {S S' : Hp} {Q : Vl → Hp → Prop} (h : FL d D w S Q) (f : mrF D S S') : FL d D w S' Q := fun S'' f' e => h S'' (f.tr f') e
theorem m_lpBegin {d : Nat} {D n p l i h : Int} {S : Hp} {T : Int → Int} {Q : Vl → Hp → Prop} (r : MRS S D T n p l i h) (h33 : 0 < zG S D 33) (hn : ¬ (zG S D 33 = 2 ∧ tkK T n i = 45)) (H : Ev (d + 4) 184 [(2, D)] S (fun r S' => ∃ x, r = (0, x) ∧ mL d D x S' Q)) : mL d D 1 S Q := by
  apply w_Model_reads_30
  refine ⟨fun z => absurd z (by decide), fun _ => ⟨r.1.1, fun _ => ⟨r.1.1, fun _ => r.1.1⟩, fun _ => ?_, fun z => absurd (Or.inr (Or.inl (by omega))) z⟩⟩
  apply w_Model_reads_55
  rw [r.2.2.2.2.2.2.2.2.1, kdM_sg (v := 45) (by omega)]
  refine ⟨r.1.1, fun _ => r.1.1, fun _ => ?_, fun z => absurd ?_ z⟩
  · apply w_Model_reads_94
    refine ⟨r.1.1, fun z => by omega, fun _ => ⟨r.1.1, ev_mono H ?_⟩⟩
    rintro _ S' ⟨x, rfl, hx⟩
    refine ⟨x, rfl, ?_⟩
    apply w_Model_reads_112
    exact hx
  · by_cases q : zG S D 33 = 2
    · exact Or.inr (fun y => hn ⟨q, y⟩)
    · exact Or.inl q
theorem m_lpGo {d : Nat} {D n p l i h : Int} {S : Hp} {T : Int → Int} {Q : Vl → Hp → Prop} (r : MRS S D T n p l i h) (h33 : zG S D 33 = 0) (hne : ¬ (tkK T n i = 0 ∧ l ≤ 0)) (H : Ev (d + 4) 186 [(2, D)] S (fun r S' => ∃ x, r = (0, x) ∧ mL d D x S' Q)) : mL d D 1 S Q := by
  apply w_Model_reads_30
  rw [r.2.2.2.2.2.2.2.2.1, r.2.2.2.2.2.2.2.2.2.2.1, kdM_0]
  refine ⟨fun z => absurd z (by decide), fun _ => ⟨r.1.1, fun _ => ⟨r.1.1, fun _ => r.1.1⟩, fun _ => ?_, fun z => absurd ?_ z⟩⟩
  · apply w_Model_reads_55
    refine ⟨r.1.1, fun _ => r.1.1, fun _ => ?_, fun z => absurd (Or.inl (by omega)) z⟩
    apply w_Model_reads_94
    refine ⟨r.1.1, fun _ => ⟨r.1.1, ev_mono H ?_⟩, fun z => by omega⟩
    rintro _ S' ⟨x, rfl, hx⟩
    refine ⟨x, rfl, ?_⟩
    apply w_Model_reads_112
    exact hx
  · by_cases q : tkK T n i = 0
    · exact Or.inr (Or.inr (fun y => hne ⟨q, y⟩))
    · exact Or.inl q
theorem m_lpMinus {d : Nat} {D n p l i h : Int} {S : Hp} {T : Int → Int} {Q : Vl → Hp → Prop} (hl : 0 ≤ l ∧ l ≤ 4) (r : MRS S D T n p l i h) (h33 : zG S D 33 = 2) (hk : tkK T n i = 45) (H : ∀ S', mrF D S S' → LV D l S S' → zG S' D 33 = 1 → MRS S' D T n p l (tkX T n i) h → (∀ x, zG S' (D + 14) x = zG S (D + 14) x) → (∀ x, zG S' (D + 17) x = zG S (D + 17) x) → zG S' (D + 16) l = 1 → mL d D 1 S' Q) : mL d D 1 S Q := by
  have k27 := r.2.2.2.2.2.2.2.2.2.2.1
  apply w_Model_reads_30
  refine ⟨fun z => absurd z (by decide), fun _ => ⟨r.1.1, fun _ => ⟨r.1.1, fun _ => r.1.1⟩, fun _ => ?_, fun z => absurd (Or.inr (Or.inl (by omega))) z⟩⟩
  apply w_Model_reads_55
  rw [r.2.2.2.2.2.2.2.2.1, kdM_sg (v := 45) (by omega), r.1.x_less.1, r.1.x_less.2.1, r.1.x_less.2.2, k27]
  refine ⟨r.1.1, fun _ => r.1.1, fun z => by omega, fun _ => ⟨r.1.1, r.1.1, ⟨rfl, by omega, by omega, by unfold in01; omega⟩, ?_⟩⟩
  rintro _ rfl
  have w2 : DW (zS S (D + 16) l 1) D := r.1.zSr (by omega)
  refine ⟨w2.1, ?_⟩
  rintro _ rfl
  have w3 : DW (zS (zS S (D + 16) l 1) D 33 1) D := w2.sc (by decide)
  have m3 : Md (fun x => x = D ∨ x = D + 16) S (zS (zS S (D + 16) l 1) D 33 1) := ((Md.zS _ _ _ _).wide (fun x hx => by omega)).tr ((Md.zS _ _ _ _).wide (fun x hx => by omega))
  have o3 : ∀ j, j ≠ 33 → zG (zS (zS S (D + 16) l 1) D 33 1) D j = zG S D j := fun j a => by
    rw [zG_zS_ne _ (Or.inr a), zG_zS_ne _ (Or.inl (by omega))]
  have r3 := r.keep m3 w3 (by omega) (fun j _ _ a _ => o3 j a) ((o3 27 (by omega)).trans k27) ((o3 28 (by omega)).trans r.2.2.2.2.2.2.2.2.2.2.2)
  refine ⟨w3.1, r3.next (fun S4 m4 r4 o4 => ⟨rfl, ?_⟩)⟩
  have M4 : Md (fun x => x = D ∨ x = D + 16) S S4 := m3.tr (m4.wide (fun x hx => by omega))
  refine H S4 ⟨M4.wide (fun x hx => by omega), r4.1, fun j hj => (o4 j (by omega) (by omega) (by omega) (by omega)).trans (o3 j (by omega))⟩ ⟨fun x _ => M4.G (by omega) x, fun x _ => M4.G (by omega) x, fun x hx => ?_, fun x _ => M4.G (by omega) x⟩ ?_ r4 (fun x => M4.G (by omega) x) (fun x => M4.G (by omega) x) ?_
  · rw [m4.G (by omega), zG_zS_ne _ (Or.inl (by omega)), zG_zS_ne _ (Or.inr (by omega))]
  · rw [o4 33 (by omega) (by omega) (by omega) (by omega), zG_zS_at]
  · rw [m4.G (by omega), zG_zS_ne _ (Or.inl (by omega)), zG_zS_at]
/-- the machine follows what a bracket comes to -/
def sBr (d : Nat) (D : Int) (T : Int → Int) (n p l : Int) (br : Int → Int → Int × Int × Int × (Int → Int)) : Prop := ∀ (S : Hp) (i h : Int) (Q : Vl → Hp → Prop), MRS S D T n p l i h → 0 < zG S D 33 → tkK T n i = 40 → ((br i h).1 = 0 → FL d D (tkW T n (br i h).2.1) S Q) → (¬ (br i h).1 = 0 → i < (br i h).2.1 → ((br i h).2.2.1 < 0 → h < 0) → ∀ S', mrF D S S' → LV D (l + 1) S S' → zG S' D 33 = 0 → zG S' D 34 = 1 → MRS S' D T n p l (br i h).2.1 (br i h).2.2.1 → RO S' (D + 18) p (br i h).2.2.1 (br i h).2.2.2 → mL d D 1 S' Q) → mL d D 1 S Q
theorem m_simAt {d : Nat} {D n p l i h : Int} {S : Hp} {T : Int → Int} {br : Int → Int → Int × Int × Int × (Int → Int)} {Q : Vl → Hp → Prop} (h2 : 2 ≤ p ∧ p ≤ 7) (hl : 0 ≤ l ∧ l ≤ 4) (B : sBr d D T n p l br) (r : MRS S D T n p l i h) (h33 : 0 < zG S D 33) (hn : ¬ (zG S D 33 = 2 ∧ tkK T n i = 45)) (HF : (rdAt T n p br i h).1 = 0 → FL d D (tkW T n (rdAt T n p br i h).2.1) S Q) (HS : ¬ (rdAt T n p br i h).1 = 0 → i < (rdAt T n p br i h).2.1 → ((rdAt T n p br i h).2.2.1 < 0 → h < 0) → ∀ S', mrF D S S' → LV D (l + 1) S S' → zG S' D 33 = 0 → zG S' D 34 = 1 → MRS S' D T n p l (rdAt T n p br i h).2.1 (rdAt T n p br i h).2.2.1 → RO S' (D + 18) p (rdAt T n p br i h).2.2.1 (rdAt T n p br i h).2.2.2 → mL d D 1 S' Q) : mL d D 1 S Q := by
  unfold rdAt at HF HS
  by_cases q40 : tkK T n i = 40
  · rw [if_pos q40] at HF HS
    exact B S i h Q r h33 q40 HF HS
  · rw [if_neg q40] at HF HS
    have go : ∀ z, tkK T n i = z → z ≠ 0 → i < tkX T n i := fun z e e' => tk_go r.2.2.2.1 (by rw [e]; exact e')
    refine m_lpBegin r h33 hn (m_beginsPart h2 hl r (fun z S' f m e33 e34 r' v => ⟨1, rfl, ?_⟩) (fun z _ => ⟨0, rfl, ?_⟩) (fun z => absurd z q40))
    · have lv : LV D (l + 1) S S' := LV.md m (fun a a0 a1 => by omega)
      by_cases q120 : tkK T n i = 120
      · rw [if_pos q120] at HS
        refine HS (show ¬ (1 : Int) = 0 by decide) (go 120 q120 (by decide)) (fun y => y) S' f lv e33 e34 r' (fun x x0 x1 => ?_)
        have e : zG S' (D + 18) x = if x = 1 then 1 else 0 := by
          rw [v x x0 x1, if_neg (show ¬ tkK T n i = 121 by omega), if_pos q120, if_neg (show ¬ tkK T n i = 1 by omega)]
          repeat' split
          all_goals first | rfl | omega
        exact ⟨by rw [e]; split <;> omega, fun _ => e⟩
      · rw [if_neg q120] at HS
        by_cases q121 : tkK T n i = 121
        · rw [if_pos q121] at HS
          refine HS (show ¬ (1 : Int) = 0 by decide) (go 121 q121 (by decide)) (fun y => y) S' f lv e33 e34 r' (fun x x0 x1 => ?_)
          have e : zG S' (D + 18) x = if x = 7 then 1 else 0 := by
            rw [v x x0 x1, if_pos q121, if_neg q120, if_neg (show ¬ tkK T n i = 1 by omega)]
            repeat' split
            all_goals first | rfl | omega
          exact ⟨by rw [e]; split <;> omega, fun _ => e⟩
        · rw [if_neg q121] at HS
          have q1 : tkK T n i = 1 := by omega
          rw [if_pos q1] at HS
          refine HS (show ¬ (1 : Int) = 0 by decide) (go 1 q1 (by decide)) (fun y => y) S' f lv e33 e34 r' (fun x x0 x1 => ?_)
          have e : zG S' (D + 18) x = if x = 0 then tkV T n i % p else 0 := by
            rw [v x x0 x1, if_neg q121, if_neg q120, if_pos q1]
            generalize tkV T n i % p = u
            repeat' split
            all_goals first | rfl | omega
          have b0 := em_ge (x := tkV T n i) (p := p) (by omega)
          have b1 := em_lt (x := tkV T n i) (p := p) (by omega)
          exact ⟨by rw [e]; split <;> omega, fun _ => e⟩
    · rw [if_neg (show ¬ tkK T n i = 120 by omega), if_neg (show ¬ tkK T n i = 121 by omega), if_neg (show ¬ tkK T n i = 1 by omega)] at HF
      exact HF rfl S (mrF.refl r.1) r.2.2.2.2.2.2.2.1
theorem m_simPw {d : Nat} {D n p l i h : Int} {S : Hp} {T : Int → Int} {br : Int → Int → Int × Int × Int × (Int → Int)} {Q : Vl → Hp → Prop} (h2 : 2 ≤ p ∧ p ≤ 7) (hl : 0 ≤ l ∧ l ≤ 4) (B : sBr d D T n p l br) (r : MRS S D T n p l i h) (h33 : 0 < zG S D 33) (hn : ¬ (zG S D 33 = 2 ∧ tkK T n i = 45)) (HF : (rdPw T n p br i h).1 = 0 → FL d D (tkW T n (rdPw T n p br i h).2.1) S Q) (HS : ¬ (rdPw T n p br i h).1 = 0 → i < (rdPw T n p br i h).2.1 → ((rdPw T n p br i h).2.2.1 < 0 → h < 0) → ∀ S', mrF D S S' → LV D (l + 1) S S' → zG S' D 33 = 0 → (tkK T n (rdPw T n p br i h).2.1 = 94 → zG S' D 34 = 0) → MRS S' D T n p l (rdPw T n p br i h).2.1 (rdPw T n p br i h).2.2.1 → RO S' (D + 18) p (rdPw T n p br i h).2.2.1 (rdPw T n p br i h).2.2.2 → mL d D 1 S' Q) : mL d D 1 S Q := by
  unfold rdPw at HF HS
  refine m_simAt h2 hl B r h33 hn (fun z => ?_) (fun z i1 mo S1 f1 l1 e33 e34 r1 rA => ?_)
  · rw [if_pos (Or.inl z)] at HF
    exact HF z
  · generalize rdAt T n p br i h = t at HF HS z i1 mo r1 rA
    by_cases q : tkK T n t.2.1 = 94
    · rw [if_neg (fun y => by rcases y with y | y; exact z y; exact y q)] at HF HS
      refine m_lpGo r1 e33 (fun y => by omega) ?_
      apply w_Model_goesOn_0
      rw [r1.2.2.2.2.2.2.2.2.1, kdM_sg (v := 94) (by omega)]
      refine ⟨r1.1.1, fun y => absurd q y, fun _ => ⟨r1.1.1, m_raisesNow h2 r1 rA e34 (fun y => absurd y (by decide)) (fun _ y S' f e => ⟨0, rfl, by unfold in01; omega, 0, rfl, ?_⟩) (fun _ y S' f m a33 a34 r' rR => ⟨1, rfl, by unfold in01; omega, 1, rfl, ?_⟩)⟩⟩
      · rw [if_pos y] at HF
        exact HF rfl S' (f1.tr f) e
      · rw [if_neg y] at HS
        have tb := tk_bd (T := T) r1.2.2.2.1
        have hc := r1.2.2.2.1
        have tb2 := tk_bd (T := T) (n := n) (i := tkX T n t.2.1) (by omega)
        exact HS (show ¬ (1 : Int) = 0 by decide) (show i < tkX T n (tkX T n t.2.1) by omega) (fun y => mo (rsR_neg (by omega) _ y)) S' (f1.tr f) (l1.tr (LV.md m (fun a a0 a1 => by omega))) (a33.trans e33) (fun _ => a34) r' rR
    · rw [if_pos (Or.inr q)] at HS
      exact HS z i1 mo S1 f1 l1 e33 (fun y => absurd y q) r1 rA
