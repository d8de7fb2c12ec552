/-! The model's reader: a part begins. -/
theorem m_beginsAtom {d : Nat} {D n p l i h : Int} {S : Hp} {T : Int → Int} {Q : Vl → Hp → Prop} (h2 : 2 ≤ p ∧ p ≤ 7) (r : MRS S D T n p l i h) (H : ∀ S', mrF D S S' → Md (fun x => x = D ∨ x = D + 18) S S' → zG S' D 33 = 0 → zG S' D 34 = 1 → MRS S' D T n p l (tkX T n i) h → (∀ x, 0 ≤ x → x < 49 → zG S' (D + 18) x = if x = 7 then (if tkK T n i = 121 then 1 else 0) else if x = 1 then (if tkK T n i = 120 then 1 else 0) else if x = 0 then (if tkK T n i = 1 then tkV T n i % p else 0) else 0) → Q (0, 1) S') : At (d + 2) 184 c184_72 [(0, (2, D))] [] S Q := by
  have k1 : ∀ a v : Int, 2 < v → (if kdM a = v then (1 : Int) else 0) = if a = v then 1 else 0 := fun a v hv => by
    by_cases q : a = v
    · rw [if_pos q, if_pos ((kdM_sg hv).mpr q)]
    · rw [if_neg q, if_neg (fun z => q ((kdM_sg hv).mp z))]
  apply w_Model_beginsPart_72
  refine ⟨r.1.1, m_setsAtom (v := tkV T n i) h2 r.1 r.2.2.2.2.2.1 r.2.2.2.2.2.2.2.2.1 (fun e => ⟨r.2.2.2.2.2.2.2.2.2.1 (kdM_1.mp e), tkV_nn⟩) (fun S1 m1 v1 => ⟨rfl, r.1.md m1 (by omega) |>.1, ?_⟩)⟩
  rintro _ rfl
  have w1 : DW S1 D := r.1.md m1 (by omega)
  have w2 : DW (zS S1 D 33 0) D := w1.sc (by decide)
  refine ⟨⟨w2.1, by unfold in01; omega⟩, ?_⟩
  rintro _ rfl
  have w3 : DW (zS (zS S1 D 33 0) D 34 1) D := w2.sc (by decide)
  have m3 : Md (fun x => x = D ∨ x = D + 18) S (zS (zS S1 D 33 0) D 34 1) := ((m1.wide (fun x hx => Or.inr hx)).tr ((Md.zS _ _ _ _).wide (fun x hx => Or.inl hx))).tr ((Md.zS _ _ _ _).wide (fun x hx => Or.inl hx))
  have o3 : ∀ j, j ≠ 33 → j ≠ 34 → zG (zS (zS S1 D 33 0) D 34 1) D j = zG S D j := fun j a b => by
    rw [zG_zS_ne _ (Or.inr b), zG_zS_ne _ (Or.inr a)]
    exact m1.G (by omega) j
  have s3 := r.keep m3 w3 (by omega) (fun j _ _ a b => o3 j a b) ((o3 27 (by omega) (by omega)).trans r.2.2.2.2.2.2.2.2.2.2.1) ((o3 28 (by omega) (by omega)).trans r.2.2.2.2.2.2.2.2.2.2.2)
  refine ⟨w3.1, s3.next (fun S4 m4 s4 o4 => ⟨rfl, by unfold in01; omega, ?_⟩)⟩
  have M4 := m3.tr (m4.wide (N := fun x => x = D ∨ x = D + 18) (fun x hx => Or.inl hx))
  refine H S4 ⟨M4.wide (fun x hx => by omega), s4.1, fun j hj => (o4 j (by omega) (by omega) (by omega) (by omega)).trans (o3 j (by omega) (by omega))⟩ M4 ?_ ?_ s4 (fun x x0 x1 => ?_)
  · rw [o4 33 (by omega) (by omega) (by omega) (by omega), zG_zS_ne _ (Or.inr (by omega)), zG_zS_at]
  · rw [o4 34 (by omega) (by omega) (by omega) (by omega), zG_zS_at]
  · rw [m4.G (by omega), zG_zS_ne _ (Or.inl (by omega)), zG_zS_ne _ (Or.inl (by omega)), v1 x x0 x1, k1 _ 121 (by omega), k1 _ 120 (by omega)]
    by_cases q : tkK T n i = 1
    · rw [if_pos (kdM_1.mpr q), if_pos q]
    · rw [if_neg (fun z => q (kdM_1.mp z)), if_neg q]
