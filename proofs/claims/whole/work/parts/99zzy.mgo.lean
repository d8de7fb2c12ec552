/-! The model's reader: it goes on behind a part. -/
/-- what stands in the levels below l is kept -/
def LV (D l : Int) (S S' : Hp) : Prop := (∀ x, x < 49 * l → zG S' (D + 14) x = zG S (D + 14) x) ∧ (∀ x, x < 49 * l → zG S' (D + 15) x = zG S (D + 15) x) ∧ (∀ x, x < l → zG S' (D + 16) x = zG S (D + 16) x) ∧ ∀ x, x < l → zG S' (D + 17) x = zG S (D + 17) x
theorem LV.refl (D l : Int) (S : Hp) : LV D l S S := ⟨fun _ _ => rfl, fun _ _ => rfl, fun _ _ => rfl, fun _ _ => rfl⟩
theorem LV.tr {D l : Int} {S T U : Hp} (h : LV D l S T) (h' : LV D l T U) : LV D l S U := ⟨fun x hx => (h'.1 x hx).trans (h.1 x hx), fun x hx => (h'.2.1 x hx).trans (h.2.1 x hx), fun x hx => (h'.2.2.1 x hx).trans (h.2.2.1 x hx), fun x hx => (h'.2.2.2 x hx).trans (h.2.2.2 x hx)⟩
theorem LV.low {D l l' : Int} {S T : Hp} (h : LV D l S T) (hl : l' ≤ l) : LV D l' S T := ⟨fun x hx => h.1 x (by omega), fun x hx => h.2.1 x (by omega), fun x hx => h.2.2.1 x (by omega), fun x hx => h.2.2.2 x (by omega)⟩
theorem LV.md {D l : Int} {S T : Hp} {M : Int → Prop} (m : Md M S T) (h : ∀ a, D + 14 ≤ a → a ≤ D + 17 → ¬ M a) : LV D l S T := ⟨fun x _ => m.G (h _ (by omega) (by omega)) x, fun x _ => m.G (h _ (by omega) (by omega)) x, fun x _ => m.G (h _ (by omega) (by omega)) x, fun x _ => m.G (h _ (by omega) (by omega)) x⟩
/-- what the power at hand, with what waits for it, comes to -/
def hS (h g : Int) (P A : Int → Int) : Int := if g < 0 then h else mlH h P A g
def pS (p h g : Int) (P A : Int → Int) : Int → Int := if g < 0 then A else mlP p h P A
theorem hS_neg {h g : Int} {P A : Int → Int} (z : hS h g P A < 0) : h < 0 := by
  unfold hS at z
  by_cases q : g < 0
  · rw [if_pos q] at z
    exact z
  · rw [if_neg q] at z
    exact (mlH_neg (by omega) z).1
theorem m_goSum {d : Nat} {D n p l i h s : Int} {S : Hp} {T A U : Int → Int} {Q : Vl → Hp → Prop} (h2 : 2 ≤ p ∧ p ≤ 7) (hl : 0 ≤ l ∧ l ≤ 4) (r : MRS S D T n p l i h) (rA : TO S (D + 15) l p h A) (hg : zG S (D + 17) l = -1) (hs : s = if zG S (D + 16) l = 0 then 1 else p - 1) (rU : TO S (D + 14) l p h U) (H : ∀ S', mrF D S S' → LV D l S S' → zG S' D 33 = 1 → MRS S' D T n p l (tkX T n i) h → zG S' (D + 17) l = -1 → TO S' (D + 14) l p h (fun x => (U x + s * A x) % p) → zG S' (D + 16) l = (if tkK T n i = 45 then 1 else 0) → Q (0, 1) S') : At (d + 3) 186 c186_66 [(0, (2, D))] [] S Q := by
  have k27 := r.2.2.2.2.2.2.2.2.2.2.1
  apply w_Model_goesOn_66
  refine ⟨r.1.1, m_comesToSum h2 r.1 r.2.2.2.2.2.1 hl k27 hs rA rU (fun S1 m1 t1 u1 => ⟨rfl, ?_⟩)⟩
  have w1 : DW S1 D := r.1.md m1 (by omega)
  have r1 := r.keep m1 w1 (by omega) (fun j _ _ _ _ => m1.G (by omega) j) ((m1.G (by omega) 27).trans k27) ((m1.G (by omega) 28).trans r.2.2.2.2.2.2.2.2.2.2.2)
  rw [w1.x_less.1, w1.x_less.2.1, w1.x_less.2.2, (m1.G (a := D) (by omega) 27).trans k27, r1.2.2.2.2.2.2.2.2.1]
  refine ⟨w1.1, w1.1, w1.1, ?_⟩
  rw [show (if ¬ kdM (tkK T n i) = 45 then (0 : Int) else 1) = if tkK T n i = 45 then 1 else 0 by
    by_cases q : tkK T n i = 45
    · rw [if_pos q, if_neg (fun z => z ((kdM_sg (by omega)).mpr q))]
    · rw [if_neg q, if_pos (fun z => q ((kdM_sg (by omega)).mp z))]]
  rintro _ rfl
  refine ⟨⟨rfl, by omega, by omega, by unfold in01; split <;> omega⟩, ?_⟩
  rintro _ rfl
  generalize hv : (if tkK T n i = 45 then (1 : Int) else 0) = v at H ⊢
  have w2 : DW (zS S1 (D + 16) l v) D := w1.zSr (by omega)
  refine ⟨w2.1, ?_⟩
  rintro _ rfl
  have w3 : DW (zS (zS S1 (D + 16) l v) D 33 1) D := w2.sc (by decide)
  have m3 : Md (fun x => x = D ∨ x = D + 14 ∨ x = D + 16) S (zS (zS S1 (D + 16) l v) D 33 1) := ((m1.wide (fun x hx => by omega)).tr ((Md.zS _ _ _ _).wide (fun x hx => by omega))).tr ((Md.zS _ _ _ _).wide (fun x hx => by omega))
  have o3 : ∀ j, j ≠ 33 → zG (zS (zS S1 (D + 16) l v) D 33 1) D j = zG S D j := fun j a => by
    rw [zG_zS_ne _ (Or.inr a), zG_zS_ne _ (Or.inl (by omega))]
    exact m1.G (by omega) j
  have r3 := r.keep m3 w3 (by omega) (fun j _ _ a _ => o3 j a) ((o3 27 (by omega)).trans k27) ((o3 28 (by omega)).trans r.2.2.2.2.2.2.2.2.2.2.2)
  apply w_Model_goesOn_175
  refine ⟨w3.1, r3.next (fun S4 m4 r4 o4 => ⟨rfl, by unfold in01; omega, ?_⟩)⟩
  have M4 : Md (fun x => x = D ∨ x = D + 14 ∨ x = D + 16) S S4 := m3.tr (m4.wide (fun x hx => by omega))
  refine H S4 ⟨M4.wide (fun x hx => by omega), r4.1, fun j hj => (o4 j (by omega) (by omega) (by omega) (by omega)).trans (o3 j (by omega))⟩ ⟨fun x hx => ?_, fun x _ => M4.G (by omega) x, fun x hx => ?_, fun x _ => M4.G (by omega) x⟩ ?_ r4 ((M4.G (by omega) l).trans hg) (fun x x0 x1 => ?_) ?_
  · rw [m4.G (by omega), zG_zS_ne _ (Or.inl (by omega)), zG_zS_ne _ (Or.inl (by omega)), u1 x (by omega)]
  · rw [m4.G (by omega), zG_zS_ne _ (Or.inl (by omega)), zG_zS_ne _ (Or.inr (by omega)), m1.G (by omega)]
  · rw [o4 33 (by omega) (by omega) (by omega) (by omega), zG_zS_at]
  · rw [m4.G (by omega), zG_zS_ne _ (Or.inl (by omega)), zG_zS_ne _ (Or.inl (by omega))]
    exact t1 x x0 x1
  · rw [m4.G (by omega), zG_zS_ne _ (Or.inl (by omega)), zG_zS_at]
theorem m_goClose {d : Nat} {D n p l i h s : Int} {S : Hp} {T A U : Int → Int} {Q : Vl → Hp → Prop} (h2 : 2 ≤ p ∧ p ≤ 7) (hl : 0 < l ∧ l ≤ 4) (r : MRS S D T n p l i h) (rA : TO S (D + 15) l p h A) (hs : s = if zG S (D + 16) l = 0 then 1 else p - 1) (rU : TO S (D + 14) l p h U) (H : ∀ S', mrF D S S' → LV D l S S' → zG S' D 33 = zG S D 33 → zG S' D 34 = 1 → MRS S' D T n p (l - 1) (tkX T n i) h → RO S' (D + 18) p h (fun x => (U x + s * A x) % p) → Q (0, 1) S') : Ev (d + 2) 181 [(2, D)] S (fun r S2 => r = (3, 0) ∧ At (d + 3) 186 c186_123 [(0, (2, D)), (1, (0, 0))] [] S2 Q) := by
  have k27 := r.2.2.2.2.2.2.2.2.2.2.1
  have k28 := r.2.2.2.2.2.2.2.2.2.2.2
  refine m_comesToSum h2 r.1 r.2.2.2.2.2.1 (by omega) k27 hs rA rU (fun S1 m1 t1 u1 => ⟨rfl, ?_⟩)
  have w1 : DW S1 D := r.1.md m1 (by omega)
  refine loopU (P := fun e S' => At (d + 3) 186 c186_123 [(0, (2, D)), (1, (0, e))] [] S' Q) (I := fun e S' => 0 ≤ e ∧ Md (fun x => x = D + 18) S1 S' ∧ ∀ x, 0 ≤ x → x < e → zG S' (D + 18) x = zG S1 (D + 14) (49 * l + x)) 49 ?_ ?_ 0 S1 (by omega) ⟨by omega, Md.refl _ _, fun x a b => by omega⟩
  · rintro e S2 he ⟨e0, m2, v2⟩ hk
    have w2 : DW S2 D := w1.md m2 (by omega)
    apply w_Model_goesOn_123
    rw [w2.x_sums.1, w2.x_sums.2.1, w2.x_sums.2.2, w2.x_power.1, w2.x_power.2.1, w2.x_power.2.2, (m2.G (a := D) (by omega) 27).trans ((m1.G (a := D) (by omega) 27).trans k27), w32_id (x := 49 * l) (by omega) (by omega), w32_id (x := 49 * l + e) (by omega) (by omega), m2.G (a := D + 14) (by omega)]
    refine ⟨fun z => by omega, fun _ => ⟨w2.1, w2.1, w2.1, ⟨rfl, by omega, by omega⟩, ⟨rfl, by omega, by omega⟩, ?_⟩⟩
    rintro _ rfl _ rfl
    rw [w32_id (by omega) (by omega)]
    refine hk _ ⟨by omega, m2.tr (Md.zS _ _ _ _), fun x x0 x1 => ?_⟩
    rw [zG_zS]
    by_cases q : x = e
    · rw [if_pos ⟨rfl, q⟩, q]
    · rw [if_neg (fun z => q z.2)]
      exact v2 x x0 (by omega)
  · rintro S2 ⟨-, m2, v2⟩
    have w2 : DW S2 D := w1.md m2 (by omega)
    apply w_Model_goesOn_123
    rw [(m2.G (a := D) (by omega) 27).trans ((m1.G (a := D) (by omega) 27).trans k27), w32_id (x := l - 1) (by omega) (by omega)]
    refine ⟨fun _ => ⟨w2.1, w2.1, ?_⟩, fun z => absurd (Int.le_refl 49) z⟩
    rintro _ rfl
    have w3 : DW (zS S2 D 27 (l - 1)) D := w2.sc (by decide)
    refine ⟨⟨w3.1, by unfold in01; omega⟩, ?_⟩
    rintro _ rfl
    have w4 : DW (zS (zS S2 D 27 (l - 1)) D 34 1) D := w3.sc (by decide)
    have m4 : Md (fun x => x = D ∨ x = D + 14 ∨ x = D + 18) S (zS (zS S2 D 27 (l - 1)) D 34 1) := (((m1.wide (fun x hx => by omega)).tr (m2.wide (fun x hx => by omega))).tr ((Md.zS _ _ _ _).wide (fun x hx => by omega))).tr ((Md.zS _ _ _ _).wide (fun x hx => by omega))
    have o4 : ∀ j, j ≠ 27 → j ≠ 34 → zG (zS (zS S2 D 27 (l - 1)) D 34 1) D j = zG S D j := fun j a b => by
      rw [zG_zS_ne _ (Or.inr b), zG_zS_ne _ (Or.inr a), m2.G (by omega)]
      exact m1.G (by omega) j
    have r4 := r.keep m4 w4 (by omega) (fun j a _ _ b => o4 j a b) (l' := l - 1) (by rw [zG_zS_ne _ (Or.inr (by omega)), zG_zS_at]) ((o4 28 (by omega) (by omega)).trans k28)
    apply w_Model_goesOn_175
    refine ⟨w4.1, r4.next (fun S5 m5 r5 o5 => ⟨rfl, by unfold in01; omega, ?_⟩)⟩
    have M5 : Md (fun x => x = D ∨ x = D + 14 ∨ x = D + 18) S S5 := m4.tr (m5.wide (fun x hx => by omega))
    refine H S5 ⟨M5.wide (fun x hx => by omega), r5.1, fun j hj => (o5 j (by omega) (by omega) (by omega) (by omega)).trans (o4 j (by omega) (by omega))⟩ ⟨fun x hx => ?_, fun x _ => M5.G (by omega) x, fun x _ => M5.G (by omega) x, fun x _ => M5.G (by omega) x⟩ ((o5 33 (by omega) (by omega) (by omega) (by omega)).trans (o4 33 (by omega) (by omega))) ?_ r5 (fun x x0 x1 => ?_)
    · rw [m5.G (by omega), zG_zS_ne _ (Or.inl (by omega)), zG_zS_ne _ (Or.inl (by omega)), m2.G (by omega), u1 x (by omega)]
    · rw [o5 34 (by omega) (by omega) (by omega) (by omega), zG_zS_at]
    · rw [m5.G (by omega), zG_zS_ne _ (Or.inl (by omega)), zG_zS_ne _ (Or.inl (by omega)), v2 x x0 x1]
      exact t1 x x0 x1
theorem m_goesOn {d : Nat} {D n p l i h g s : Int} {S : Hp} {T A P U : Int → Int} {Q : Vl → Hp → Prop} (h2 : 2 ≤ p ∧ p ≤ 7) (hl : 0 ≤ l ∧ l ≤ 4) (r : MRS S D T n p l i h) (rA : RO S (D + 18) p h A) (hg : zG S (D + 17) l = g) (rP : 0 ≤ g → TO S (D + 15) l p h P) (hs : s = if zG S (D + 16) l = 0 then 1 else p - 1) (rU : TO S (D + 14) l p h U) (hk : ¬ tkK T n i = 94)
    (HT : tkK T n i = 42 → ∀ S', mrF D S S' → LV D l S S' → zG S' D 33 = 1 → MRS S' D T n p l (tkX T n i) (hS h g P A) → zG S' (D + 17) l = tkW T n i → TO S' (D + 15) l p (hS h g P A) (pS p h g P A) → (∀ x, zG S' (D + 14) x = zG S (D + 14) x) → zG S' (D + 16) l = zG S (D + 16) l → Q (0, 1) S')
    (HP : (tkK T n i = 43 ∨ tkK T n i = 45) → ∀ S', mrF D S S' → LV D l S S' → zG S' D 33 = 1 → MRS S' D T n p l (tkX T n i) (hS h g P A) → zG S' (D + 17) l = -1 → TO S' (D + 14) l p (hS h g P A) (fun x => (U x + s * pS p h g P A x) % p) → zG S' (D + 16) l = (if tkK T n i = 45 then 1 else 0) → Q (0, 1) S')
    (HB : tkK T n i = 41 → 0 < l → ∀ S', mrF D S S' → LV D l S S' → zG S' D 33 = zG S D 33 → zG S' D 34 = 1 → MRS S' D T n p (l - 1) (tkX T n i) (hS h g P A) → RO S' (D + 18) p (hS h g P A) (fun x => (U x + s * pS p h g P A x) % p) → Q (0, 1) S')
    (HF : ¬ tkK T n i = 42 → ¬ (tkK T n i = 43 ∨ tkK T n i = 45) → ¬ (tkK T n i = 41 ∧ 0 < l) → ∀ S', mrF D S S' → zG S' D 20 = tkW T n i → Q (0, 0) S') : Ev (d + 3) 186 [(2, D)] S Q := by
  have k27 := r.2.2.2.2.2.2.2.2.2.2.1
  have k28 := r.2.2.2.2.2.2.2.2.2.2.2
  apply w_Model_goesOn_0
  rw [r.2.2.2.2.2.2.2.2.1, kdM_sg (v := 94) (by omega)]
  refine ⟨r.1.1, fun _ => ⟨r.1.1, m_comesToTerm h2 r.1 r.2.2.2.2.2.1 k28 hl k27 hg rA rP (fun S1 m1 w1 o1 q1 t1 u1 v1 => ⟨rfl, w1.1, ?_⟩)⟩, fun z => absurd hk z⟩
  have f1 : mrF D S S1 := ⟨m1.wide (fun x hx => by omega), w1, fun j hj => o1 j (by omega)⟩
  have l1 : LV D l S S1 := ⟨fun x _ => m1.G (by omega) x, fun x hx => u1 x (by omega), fun x _ => m1.G (by omega) x, fun x hx => by rw [v1 x, if_neg (by omega)]⟩
  have r1 : MRS S1 D T n p l i (hS h g P A) := r.keep m1 w1 (by omega) (fun j _ a _ _ => o1 j a) ((o1 27 (by omega)).trans k27) q1
  have t1 : TO S1 (D + 15) l p (hS h g P A) (pS p h g P A) := t1
  have U1 : TO S1 (D + 14) l p (hS h g P A) U := (rU.keep m1 (by omega)).up hS_neg
  have g1 : zG S1 (D + 17) l = -1 := by rw [v1 l, if_pos rfl]
  have s1 : s = if zG S1 (D + 16) l = 0 then 1 else p - 1 := by rw [m1.G (by omega)]; exact hs
  have e33 : zG S1 D 33 = zG S D 33 := o1 33 (by omega)
  rw [r1.2.2.2.2.2.2.2.2.1, r1.2.2.2.2.2.2.2.2.2.2.1, kdM_sg (v := 42) (by omega), kdM_sg (v := 43) (by omega), kdM_sg (v := 45) (by omega), kdM_sg (v := 41) (by omega)]
  refine ⟨fun n42 => ⟨w1.1, fun _ => w1.1, fun q => ?_, fun q => ⟨w1.1, fun _ => w1.1, fun z => ⟨by unfold in01; omega, HF n42 (fun y => q (by omega)) (fun y => by omega) S1 f1 r1.2.2.2.2.2.2.2.1⟩, fun z => ⟨w1.1, ?_⟩⟩⟩, fun z => ?_⟩
  · exact m_goSum h2 hl r1 t1 g1 s1 U1 (fun S' f' l' a b c e f => HP (by omega) S' (f1.tr f') (l1.tr l') a b c e f)
  · exact m_goClose h2 (by omega) r1 t1 s1 U1 (fun S' f' l' a b c e => HB (by omega) (by omega) S' (f1.tr f') (l1.tr l') (a.trans e33) b c e)
  · have y42 := Decidable.not_not.mp z
    have HT := HT y42
    rw [w1.x_timesAt.1, w1.x_timesAt.2.1, w1.x_timesAt.2.2, r1.2.2.2.2.2.2.2.1]
    refine ⟨w1.1, w1.1, w1.1, ⟨rfl, by omega, by omega⟩, ?_⟩
    rintro _ rfl
    have w2 : DW (zS S1 (D + 17) l (tkW T n i)) D := w1.zSr (by omega)
    refine ⟨w2.1, ?_⟩
    rintro _ rfl
    have w3 : DW (zS (zS S1 (D + 17) l (tkW T n i)) D 33 1) D := w2.sc (by decide)
    have m3 : Md (fun x => x = D ∨ x = D + 17) S1 (zS (zS S1 (D + 17) l (tkW T n i)) D 33 1) := ((Md.zS _ _ _ _).wide (fun x hx => by omega)).tr ((Md.zS _ _ _ _).wide (fun x hx => by omega))
    have o3 : ∀ j, j ≠ 33 → zG (zS (zS S1 (D + 17) l (tkW T n i)) D 33 1) D j = zG S1 D j := fun j a => by
      rw [zG_zS_ne _ (Or.inr a), zG_zS_ne _ (Or.inl (by omega))]
    have r3 := r1.keep m3 w3 (by omega) (fun j _ _ a _ => o3 j a) ((o3 27 (by omega)).trans r1.2.2.2.2.2.2.2.2.2.2.1) ((o3 28 (by omega)).trans r1.2.2.2.2.2.2.2.2.2.2.2)
    apply w_Model_goesOn_175
    refine ⟨w3.1, r3.next (fun S4 m4 r4 o4 => ⟨rfl, by unfold in01; omega, ?_⟩)⟩
    have M4 : Md (fun x => x = D ∨ x = D + 17) S1 S4 := m3.tr (m4.wide (fun x hx => by omega))
    refine HT S4 (f1.tr ⟨M4.wide (fun x hx => by omega), r4.1, fun j hj => (o4 j (by omega) (by omega) (by omega) (by omega)).trans (o3 j (by omega))⟩) (l1.tr ⟨fun x _ => M4.G (by omega) x, fun x _ => M4.G (by omega) x, fun x _ => M4.G (by omega) x, fun x hx => ?_⟩) ?_ r4 ?_ (t1.keep M4 (by omega)) (fun x => ?_) ?_
    · rw [m4.G (by omega), zG_zS_ne _ (Or.inl (by omega)), zG_zS_ne _ (Or.inr (by omega))]
    · rw [o4 33 (by omega) (by omega) (by omega) (by omega), zG_zS_at]
    · rw [m4.G (by omega), zG_zS_ne _ (Or.inl (by omega)), zG_zS_at]
    · rw [M4.G (by omega), m1.G (by omega)]
    · rw [M4.G (by omega), m1.G (by omega)]
