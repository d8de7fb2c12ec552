/-! Grower: a curve taken in, moved to the number c. -/
set_option maxHeartbeats 1000000 in
theorem s_genter {d : Nat} {B A V c n p : Int} {S : Hp} {F : Int → Int → Int} {Q : Vl → Hp → Prop} (h : GW S B A) (hG : HW S (B + 1)) (hV : VW S V) (hp : 2 ≤ p ∧ p ≤ 7) (hc : 0 ≤ c ∧ c < p) (hVp : zG S V 0 = p) (hVn : zG S V 1 = n) (hF : LAN S (V + 2) 4 (fun _ => 7) p F) (dV : V + 14 < B ∨ B + 61 < V)
    (H : ∀ S', Md (fun x => x = B ∨ x = B + 1 ∨ MA (B + 34) 4 x) S S' → GW S' B A → Gu S' B n p → HW S' (B + 1) → Hu S' (B + 1) n p → LAN S' (B + 34) 4 (fun _ => 7) p (fun j => shf p c 6 (F j)) → Q (3, 0) S') : Ev (d + 1) 28 [(2, B), (2, V), (0, c)] S Q := by
  apply w_Grower_enter_0
  rw [hVn]
  refine ⟨hV.1, h.1, ?_⟩
  rintro _ rfl
  rw [zG_zS_ne _ (Or.inl (by omega)), hVp]
  refine ⟨hV.1, h.1, ?_⟩
  rintro _ rfl
  have m1 : Md (fun x => x = B) S (zS (zS S B 8 n) B 9 p) := (Md.zS _ _ _ _).tr (Md.zS _ _ _ _)
  have e1 : ∀ i, i ≠ 8 → i ≠ 9 → zG (zS (zS S B 8 n) B 9 p) B i = zG S B i := fun i i0 i1 => by
    rw [zG_zS_ne _ (Or.inr i1), zG_zS_ne _ (Or.inr i0)]
  have g1 : GW (zS (zS S B 8 n) B 9 p) B A := by
    obtain ⟨h1, h2, h3, h4, h5, h6, h7, h8, h9, h10, h11, h12, h13, h14, h15⟩ := h
    exact ⟨h1, by rw [e1 _ (by omega) (by omega)]; exact h2, by rw [e1 _ (by omega) (by omega)]; exact h3, by rw [e1 _ (by omega) (by omega)]; exact h4, by rw [e1 _ (by omega) (by omega)]; exact h5, by rw [e1 _ (by omega) (by omega)]; exact h6, by rw [e1 _ (by omega) (by omega)]; exact h7, by rw [e1 _ (by omega) (by omega)]; exact h8, by rw [e1 _ (by omega) (by omega)]; exact h9, h10.keep m1 (fun x x1 x2 => by omega) (by omega), h11.keep m1 (fun x x1 x2 => by omega) (by omega), h12.keep m1 (fun x x1 x2 => by omega) (by omega), h13.keep m1 (fun x x1 x2 => by omega) (by omega), h14.keep m1 (fun x x1 x2 => by omega) (by omega), h15.keep m1⟩
  have u1 : Gu (zS (zS S B 8 n) B 9 p) B n p := ⟨by rw [zG_zS_ne _ (Or.inr (by omega)), zG_zS_at], by rw [zG_zS_at]⟩
  generalize zS (zS S B 8 n) B 9 p = S1 at *
  have hG1 : HW S1 (B + 1) := hG.keep m1 (by omega)
  have hV1 : VW S1 V := hV.keep m1 (fun x x1 x2 => by omega)
  have hF1 : LAN S1 (V + 2) 4 (fun _ => 7) p F := hF.keep m1 (fun x x1 x2 => by omega) (by omega)
  refine loopU (P := fun j S' => At (d + 1) 28 c28_18 [(0, (2, B)), (1, (2, V)), (2, (0, c)), (3, (0, j))] [] S' Q) (I := fun j S' => 0 ≤ j ∧ Md (MA (B + 34) 4) S1 S' ∧ LAW S' (B + 34) 4 (fun _ => 7) ∧ ∀ i, 0 ≤ i → i < j → LN S' (B + 34 + 1 + 2 * i) 7 p (shf p c 6 (F i))) 4 ?_ ?_ 0 S1 (by omega) ⟨by omega, Md.refl _ _, g1.2.2.2.2.2.2.2.2.2.2.2.1, fun i i0 i1 => by omega⟩
  · rintro j S2 hj ⟨j0, m2, w2, v2⟩ hk
    have g2 : GW S2 B A := g1.r34 m2 w2
    have hV2 : VW S2 V := hV1.keep m2 (fun x x1 x2 => by unfold MA; omega)
    have hF2 : LAN S2 (V + 2) 4 (fun _ => 7) p F := hF1.keep m2 (fun x x1 x2 => by unfold MA; omega) (by omega)
    apply w_Grower_enter_18
    rw [g2.2.2.2.2.1, hV2.2.2.1, w2.ptr j0 hj, hF2.ptr j0 hj]
    refine ⟨fun hc => by omega, fun _ => ⟨g2.1, ⟨w2.1, j0, by rw [w2.2.1]; omega⟩, hV2.1, ⟨hF2.1, j0, by rw [hF2.2.1]; omega⟩, (w2.2.2 j j0 hj).2.ln.1, ?_⟩⟩
    refine n_take (n := 7) (m := 7) (w2.2.2 j j0 hj).2 (hF2.at j0 hj) (by omega) (fun i hi => (hF2.at j0 hj).hi i hi) (fun S3 m3 l3 => ⟨rfl, ?_⟩)
    have m3A : Md (MA (B + 34) 4) S2 S3 := m3.wide (fun x hx => by unfold ML at hx; unfold MA; omega)
    have w3 : LAW S3 (B + 34) 4 (fun _ => 7) := w2.set m3 j0 hj l3.w
    have g3 : GW S3 B A := g2.r34 m3A w3
    have u3 : Gu S3 B n p := (u1.keep m2 (by unfold MA; omega)).keep m3A (by unfold MA; omega)
    rw [g3.2.2.2.2.1, w3.ptr j0 hj, u3.2]
    refine ⟨g3.1, ⟨w3.1, j0, by rw [w3.2.1]; omega⟩, g3.1, l3.ln.1, ?_⟩
    refine n_shift (n := 7) 6 l3 (by omega) (by omega) (fun i hi => l3.hi i (by omega)) (by omega) (fun S4 m4 l4 => ⟨rfl, ?_⟩)
    rintro _ rfl
    rw [w32_id (by omega) (by omega)]
    have m4A : Md (MA (B + 34) 4) S3 S4 := m4.wide (fun x hx => by unfold ML at hx; unfold MA; omega)
    refine hk _ ⟨by omega, (m2.tr m3A).tr m4A, w3.set m4 j0 hj l4.w, fun i i0 i1 => ?_⟩
    by_cases q : i = j
    · rw [q]
      exact l4
    · exact ((v2 i i0 (by omega)).keep m3 (by unfold ML; omega) (by unfold ML; omega)).keep m4 (by unfold ML; omega) (by unfold ML; omega)
  · rintro S2 ⟨-, m2, w2, v2⟩
    have g2 : GW S2 B A := g1.r34 m2 w2
    have hG2 : HW S2 (B + 1) := hG1.keep m2 (by unfold MA; omega)
    have u2 : Gu S2 B n p := u1.keep m2 (by unfold MA; omega)
    apply w_Grower_enter_18
    rw [g2.2.1, u2.1, u2.2]
    refine ⟨fun _ => ⟨g2.1, g2.1, g2.1, hG2.k, s_algEnter hG2 (fun S3 m3 h3 u3 => ⟨rfl, ?_⟩)⟩, fun hc => absurd (Int.le_refl 4) hc⟩
    have L2 : LAN S2 (B + 34) 4 (fun _ => 7) p (fun j => shf p c 6 (F j)) := ⟨w2.1, w2.2.1, fun i i0 i1 => ⟨w2.ptr i0 i1, v2 i i0 i1⟩⟩
    exact H S3 (((m1.wide (fun x hx => Or.inl hx)).tr (m2.wide (fun x hx => Or.inr (Or.inr hx)))).tr (m3.wide (fun x hx => Or.inr (Or.inl hx)))) (g2.keep m3 (fun x hx => by omega)) (u2.keep m3 (by omega)) h3 u3 (L2.keep m3 (fun x x1 x2 => by omega) (by omega))
