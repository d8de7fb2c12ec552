/-! The model's reader: a power is raised. -/
/-- what the reader may change -/
def mrF (D : Int) (S S' : Hp) : Prop := Md (fun x => x = D ∨ (D + 14 ≤ x ∧ x ≤ D + 21)) S S' ∧ DW S' D ∧ ∀ j, (j < 18 ∨ 34 < j) → zG S' D j = zG S D j
theorem mrF.tr {D : Int} {S T U : Hp} (h : mrF D S T) (h' : mrF D T U) : mrF D S U := ⟨h.1.tr h'.1, h'.2.1, fun j hj => (h'.2.2 j hj).trans (h.2.2 j hj)⟩
theorem m_raisesNow {d : Nat} {D n p l i h b : Int} {S : Hp} {T A : Int → Int} {Q : Vl → Hp → Prop} (h2 : 2 ≤ p ∧ p ≤ 7) (r : MRS S D T n p l i h) (rA : RO S (D + 18) p h A) (hb : zG S D 34 = b) (H0 : b = 0 → ∀ S', mrF D S S' → zG S' D 20 = tkW T n i → Q (0, 0) S') (H1 : b ≠ 0 → (¬ tkK T n (tkX T n i) = 1 ∨ ¬ tkV T n (tkX T n i) ≤ 6) → ∀ S', mrF D S S' → zG S' D 20 = tkW T n (tkX T n i) → Q (0, 0) S') (H2 : b ≠ 0 → ¬ (¬ tkK T n (tkX T n i) = 1 ∨ ¬ tkV T n (tkX T n i) ≤ 6) → ∀ S', mrF D S S' → Md (fun x => x = D ∨ (D + 18 ≤ x ∧ x ≤ D + 21)) S S' → zG S' D 33 = zG S D 33 → zG S' D 34 = 0 → MRS S' D T n p l (tkX T n (tkX T n i)) (rsR p h A (tkW T n i) (tkV T n (tkX T n i)).toNat).1 → RO S' (D + 18) p (rsR p h A (tkW T n i) (tkV T n (tkX T n i)).toNat).1 (rsR p h A (tkW T n i) (tkV T n (tkX T n i)).toNat).2 → Q (0, 1) S') : Ev (d + 3) 185 [(2, D)] S Q := by
  have tb := tk_bd (T := T) r.2.2.2.1
  have hi := r.2.2.2.1
  apply w_Model_raisesNow_0
  rw [r.2.2.2.2.2.2.2.1]
  refine ⟨r.1.1, ?_⟩
  rintro _ rfl
  refine ⟨r.1.1, r.next (fun S2 m2 s2 o2 => ⟨rfl, s2.1.1, fun _ => ⟨s2.1.1, fun _ => s2.1.1⟩, fun q => ?_, fun q => ⟨s2.1.1, s2.1.1, ?_⟩⟩)⟩
  · have f2 : mrF D S S2 := ⟨m2.wide (fun x hx => Or.inl hx), s2.1, fun j hj => o2 j (by omega) (by omega) (by omega) (by omega)⟩
    have b2 : zG S2 D 34 = b := (o2 34 (by omega) (by omega) (by omega) (by omega)).trans hb
    rw [b2] at q
    apply w_Model_raisesNow_33
    rw [b2, s2.2.2.2.2.2.2.2.1]
    refine ⟨s2.1.1, fun _ => s2.1.1, ?_⟩
    rintro _ rfl
    refine ⟨s2.1.1, ?_⟩
    rintro _ rfl
    refine ⟨by unfold in01; omega, ?_⟩
    have f3 : ∀ v, mrF D S (zS S2 D 20 v) := fun v => f2.tr ⟨(Md.zS _ _ _ _).wide (fun x hx => Or.inl hx), s2.1.sc (by decide), fun j hj => zG_zS_ne _ (Or.inr (by omega))⟩
    by_cases z : b = 0
    · rw [if_pos z]
      exact H0 z _ (f3 _) (zG_zS_at _ _ _ _)
    · rw [if_neg z]
      refine H1 z ?_ _ (f3 _) (zG_zS_at _ _ _ _)
      rw [s2.2.2.2.2.2.2.2.2.1, kdM_1] at q
      by_cases y : tkK T n (tkX T n i) = 1
      · rw [s2.2.2.2.2.2.2.2.2.2.1 y] at q
        rcases q with q | q | q
        · exact absurd q z
        · exact absurd y q
        · exact Or.inr q
      · exact Or.inl y
  · have b2 : zG S2 D 34 = b := (o2 34 (by omega) (by omega) (by omega) (by omega)).trans hb
    rw [b2, s2.2.2.2.2.2.2.2.2.1, kdM_1] at q
    have bz : b ≠ 0 := fun z => q (Or.inl z)
    have y : tkK T n (tkX T n i) = 1 := Decidable.byContradiction (fun z => q (Or.inr (Or.inl z)))
    have v22 := s2.2.2.2.2.2.2.2.2.2.1 y
    rw [v22] at q
    have v6 : tkV T n (tkX T n i) ≤ 6 := Decidable.byContradiction (fun z => q (Or.inr (Or.inr z)))
    have v0 := tkV_nn (T := T) (n := n) (i := tkX T n i)
    have H2 := H2 bz (fun z => by rcases z with z | z; exact z y; exact z v6)
    rw [v22]
    refine m_raises h2 s2.1 s2.2.2.2.2.2.1 s2.2.2.2.2.2.2.2.2.2.2.2 (by omega) ⟨v0, v6⟩ (rA.keep m2 (by omega)) (fun S3 m3 w3 o3 q3 r3 => ⟨rfl, ⟨w3.1, by unfold in01; omega⟩, ?_⟩)
    rintro _ rfl
    have w4 : DW (zS S3 D 34 0) D := w3.sc (by decide)
    have m4 : Md (fun x => x = D ∨ (D + 18 ≤ x ∧ x ≤ D + 21)) S2 (zS S3 D 34 0) := m3.tr ((Md.zS _ _ _ _).wide (fun x hx => Or.inl hx))
    have s4 := s2.keep (l' := l) (h' := (rsR p h A (tkW T n i) (tkV T n (tkX T n i)).toNat).1) m4 w4 (by omega) (fun j j1 j2 j3 j4 => by rw [zG_zS_ne _ (Or.inr j4)]; exact o3 j j2) (by rw [zG_zS_ne _ (Or.inr (by omega))]; exact (o3 27 (by omega)).trans s2.2.2.2.2.2.2.2.2.2.2.1) (by rw [zG_zS_ne _ (Or.inr (by omega))]; exact q3)
    refine ⟨w4.1, s4.next (fun S5 m5 s5 o5 => ⟨rfl, by unfold in01; omega, ?_⟩)⟩
    have M5 : Md (fun x => x = D ∨ (D + 18 ≤ x ∧ x ≤ D + 21)) S S5 := ((m2.wide (fun x hx => Or.inl hx)).tr m4).tr (m5.wide (fun x hx => Or.inl hx))
    have k5 : ∀ j, j ≠ 19 → j ≠ 20 → j ≠ 21 → j ≠ 22 → j ≠ 28 → j ≠ 34 → zG S5 D j = zG S D j := fun j a b c e f g => by
      rw [o5 j a b c e, zG_zS_ne _ (Or.inr g), o3 j f, o2 j a b c e]
    refine H2 S5 ⟨M5.wide (fun x hx => by omega), s5.1, fun j hj => k5 j (by omega) (by omega) (by omega) (by omega) (by omega) (by omega)⟩ M5 (k5 33 (by omega) (by omega) (by omega) (by omega) (by omega) (by omega)) ?_ s5 (fun x x0 x1 => ?_)
    · rw [o5 34 (by omega) (by omega) (by omega) (by omega), zG_zS_at]
    · rw [m5.G (by omega), zG_zS_ne _ (Or.inl (by omega))]
      exact r3 x x0 x1
