/-! The model's reader: a bracket opens; what begins no part. -/
theorem m_beginsPart {d : Nat} {D n p l i h : Int} {S : Hp} {T : Int → Int} {Q : Vl → Hp → Prop} (h2 : 2 ≤ p ∧ p ≤ 7) (hl : 0 ≤ l ∧ l ≤ 4) (r : MRS S D T n p l i h) (HA : (tkK T n i = 1 ∨ tkK T n i = 120 ∨ tkK T n i = 121) → ∀ S', mrF D S S' → Md (fun x => x = D ∨ x = D + 18) S S' → zG S' D 33 = 0 → zG S' D 34 = 1 → MRS S' D T n p l (tkX T n i) h → (∀ x, 0 ≤ x → x < 49 → zG S' (D + 18) x = if x = 7 then (if tkK T n i = 121 then 1 else 0) else if x = 1 then (if tkK T n i = 120 then 1 else 0) else if x = 0 then (if tkK T n i = 1 then tkV T n i % p else 0) else 0) → Q (0, 1) S') (HF : ¬ (tkK T n i = 1 ∨ tkK T n i = 120 ∨ tkK T n i = 121) → ¬ (tkK T n i = 40 ∧ l < 4) → Q (0, 0) S) (HB : tkK T n i = 40 → l < 4 → ∀ S', mrF D S S' → Md (fun x => x = D ∨ x = D + 14 ∨ x = D + 16 ∨ x = D + 17) S S' → zG S' D 33 = 2 → MRS S' D T n p (l + 1) (tkX T n i) h → (∀ x, zG S' (D + 14) x = if 49 * (l + 1) ≤ x ∧ x < 49 * (l + 1) + 49 then 0 else zG S (D + 14) x) → (∀ x, zG S' (D + 16) x = if x = l + 1 then 0 else zG S (D + 16) x) → (∀ x, zG S' (D + 17) x = if x = l + 1 then -1 else zG S (D + 17) x) → Q (0, 1) S') : Ev (d + 2) 184 [(2, D)] S Q := by
  have kk := r.2.2.2.2.2.2.2.2.1
  have k27 := r.2.2.2.2.2.2.2.2.2.2.1
  apply w_Model_beginsPart_0
  rw [kk, k27, kdM_sg (v := 40) (by omega), kdM_sg (v := 120) (by omega), kdM_sg (v := 121) (by omega), kdM_1]
  refine ⟨r.1.1, fun q => ⟨r.1.1, fun _ => ⟨r.1.1, fun _ => r.1.1⟩, fun z => m_beginsAtom h2 r (HA z), fun z => ⟨by unfold in01; omega, HF z (fun y => q y.1)⟩⟩, fun q => ⟨r.1.1, fun z => ⟨r.1.1, r.1.1, ?_⟩, fun z => ⟨by unfold in01; omega, HF (fun y => by omega) (fun y => by omega)⟩⟩⟩
  have q := Decidable.not_not.mp q
  have HB := HB q (by omega)
  rw [w32_id (by omega) (by omega)]
  rintro _ rfl
  have w1 : DW (zS S D 27 (l + 1)) D := r.1.sc (by decide)
  refine ⟨w1.1, m_begins w1 (zG_zS_at _ _ _ _) (by omega) (fun S2 m2 v14 v16 v17 => ⟨rfl, by rw [m2.K]; exact w1.1, ?_⟩)⟩
  rintro _ rfl
  have w2 : DW S2 D := w1.md m2 (by omega)
  have w3 : DW (zS S2 D 33 2) D := w2.sc (by decide)
  have m3 : Md (fun x => x = D ∨ x = D + 14 ∨ x = D + 16 ∨ x = D + 17) S (zS S2 D 33 2) := (((Md.zS _ _ _ _).wide (fun x hx => Or.inl hx)).tr (m2.wide (fun x hx => Or.inr hx))).tr ((Md.zS _ _ _ _).wide (fun x hx => Or.inl hx))
  have o3 : ∀ j, j ≠ 27 → j ≠ 33 → zG (zS S2 D 33 2) D j = zG S D j := fun j a b => by
    rw [zG_zS_ne _ (Or.inr b), m2.G (by omega), zG_zS_ne _ (Or.inr a)]
  have e27 : zG (zS S2 D 33 2) D 27 = l + 1 := by
    rw [zG_zS_ne _ (Or.inr (by omega)), m2.G (by omega), zG_zS_at]
  have s3 := r.keep m3 w3 (by omega) (fun j a _ b _ => o3 j a b) e27 ((o3 28 (by omega) (by omega)).trans r.2.2.2.2.2.2.2.2.2.2.2)
  refine ⟨w3.1, s3.next (fun S4 m4 s4 o4 => ⟨rfl, by unfold in01; omega, ?_⟩)⟩
  have M4 := m3.tr (m4.wide (N := fun x => x = D ∨ x = D + 14 ∨ x = D + 16 ∨ x = D + 17) (fun x hx => Or.inl hx))
  refine HB S4 ⟨M4.wide (fun x hx => by omega), s4.1, fun j hj => (o4 j (by omega) (by omega) (by omega) (by omega)).trans (o3 j (by omega) (by omega))⟩ M4 ?_ s4 (fun x => ?_) (fun x => ?_) (fun x => ?_)
  · rw [o4 33 (by omega) (by omega) (by omega) (by omega), zG_zS_at]
  · rw [m4.G (by omega), zG_zS_ne _ (Or.inl (by omega)), v14 x, zG_zS_ne _ (Or.inl (by omega))]
  · rw [m4.G (by omega), zG_zS_ne _ (Or.inl (by omega)), v16 x, zG_zS_ne _ (Or.inl (by omega))]
  · rw [m4.G (by omega), zG_zS_ne _ (Or.inl (by omega)), v17 x, zG_zS_ne _ (Or.inl (by omega))]
