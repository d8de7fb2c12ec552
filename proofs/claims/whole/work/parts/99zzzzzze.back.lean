/-! back. -/
theorem r_back {d : Nat} {S : Hp} {D : Int} (hD : 485 ≤ D) (R : Rel S D) : TW (d + 20) 141 283 [] S D := by
  obtain ⟨v, u, p, n, g, F, Δ, kn, cl, md, re⟩ := R
  have id0 := rel_id kn cl md re
  have vu := cl.1.2.2.2.2.1
  have vw := cl.vw
  obtain ⟨tp, sh, bk, im, tl⟩ := re
  unfold TW
  apply w_Crc_back_0
  rw [cl.1.a1, cl.1.2.2.2.2.2.1]
  refine ⟨cl.1.1, fun q => ?_, fun q => ?_⟩
  · have q1 : zG S 1 4 = 1 := by
      rcases im.1 with w | w
      · exact absurd w q
      · exact w
    obtain ⟨kp, kn', kg, KF, KΔ, kk, kc, k61, k62, k63, kr⟩ := im.2.2 q1
    have h2 := kk.1.two
    have v5 : VW S 52 := cl.2.1.2.2.2.1
    refine ⟨cl.1.1, cl.1.1, vw.1, s_copyFrom vw v5 (by omega) (fun S2 m2 w2 c1 a1 b1 l1 t1 => ⟨rfl, ?_⟩)⟩
    unfold MV at m2
    have cp2 : CP S2 v u := cl.1.keep m2 (by omega) (by omega) (by omega) (by omega)
    have co2 : CO S2 := co_cv cl.2.1 vu m2 (fun x x0 x1 hx => by omega) w2
    have cu2 : CUR S2 v kp kn' kg KF KΔ := cur_copy kk kc c1 a1 b1 l1 t1
    refine ⟨cp2.1, s_forget cp2 co2.2.2.2.2.2.2.2.2.2.2.2.1 co2.2.2.2.2.2.2.2.2.2.2.1 (fun S3 m3 cp3 f => ⟨rfl, ?_⟩)⟩
    have nM : ∀ x, ((2 ≤ x ∧ x ≤ 300) ∨ 404 ≤ x ∨ x < 1) → ¬ FGM x := fun x hx => by
      unfold FGM
      omega
    have mm3 : Md (fun x => (v ≤ x ∧ x ≤ v + 14) ∨ FGM x) S S3 := (m2.wide (fun x hx => Or.inl hx)).tr (m3.wide (fun x hx => Or.inr hx))
    have far3 : ∀ x i, 485 ≤ x → zG S3 x i = zG S x i := fun x i hx => mm3.G (fun w => w.elim (by omega) (nM x (by omega))) i
    have mi : MID S S3 D := mid_md mm3 cl.1.1 md.1.1 (fun w => w.elim (by omega) (nM _ (by omega)))
    have dw3 : DW S3 D := md.1.md mm3 (fun w => w.elim (by omega) (nM _ (by omega)))
    have cu3 : CUR S3 v kp kn' kg KF KΔ := cu2.keep m3 (fun x x0 x1 => nM x (by omega))
    rw [cp3.a1, cu3.1]
    refine ⟨cp3.1, by rw [m3.K]; exact w2.1, _, rfl, mi, m_back dw3 (fun w => ?_) (fun _ S4 n4 dw4 eo e0 e1 e2 e16 e48 er1 er2 e3 => ?_)⟩
    · rw [far3 _ _ (by omega)] at w
      omega
    · rw [far3 _ _ (by omega), k61] at e0
      rw [far3 _ _ (by omega), k62] at e1
      rw [far3 _ _ (by omega), k63] at e2
      rw [far3 _ _ (by omega), k61]
      refine ⟨rfl, mid_md n4 mi.1 mi.2.1 (by omega), ?_⟩
      have co3 : CO S3 := co_fg co2 m3 f
      have mm4 : Md (fun x => (v ≤ x ∧ x ≤ v + 14) ∨ FGM x ∨ (D ≤ x ∧ x ≤ D + 3)) S S4 := (mm3.wide (fun x hx => hx.elim Or.inl (fun w => Or.inr (Or.inl w)))).tr (n4.wide (fun x hx => Or.inr (Or.inr (by omega))))
      have k4 : ∀ x i, x ≤ 484 → zG S4 x i = zG S3 x i := fun x i hx => n4.G (by omega) i
      have nn : ∀ x, ((2 ≤ x ∧ x ≤ 300) ∨ 404 ≤ x) → (x < v ∨ v + 14 < x) → (x < D ∨ D + 3 < x) → ¬ ((v ≤ x ∧ x ≤ v + 14) ∨ FGM x ∨ (D ≤ x ∧ x ≤ D + 3)) := fun x hx hv h0 w => w.elim (by omega) (fun w => w.elim (nM x (by omega)) (by omega))
      refine rel_fresh kk (cp3.keep n4 (by omega) (by omega) (by omega) (by omega)) (co3.far n4 (fun x x0 x1 => by omega)) (cu3.keep n4 (fun x x0 x1 => by omega)) (fun c c0 c1 => ⟨?_, ?_, ?_⟩) ((cl.al).keep mm4 (fun x hx => nn x (by omega) (by omega) (by omega))) dw4 e0 e1 e2 (fun K j i x K0 K1 j0 ji i1 x0 x1 => ?_) e48 (fun z => ⟨fun e x0 x1 => ?_, fun x x0 x1 => ?_⟩) (tp.keep mm4 (nn _ (by omega) (by omega) (by omega)) (nn _ (by omega) (by omega) (by omega)) (nn _ (by omega) (by omega) (by omega)) ?_) (IME.keep (S := S) im mm4 ?_ (fun x x0 x1 => nn _ (by omega) (by omega) (by omega)) (nn _ (by omega) (by omega) (by omega)) (nn _ (by omega) (by omega) (by omega)) (fun i hi => ?_)) (she_fresh sh (fun t t0 t1 i => ?_) (fun t t0 t1 i => ?_) (fun i => ?_) (fun x i hx => ?_)) ?_ e16 ?_
      · exact (cl.pr c0 c1).keep mm4 (fun w => by unfold FGM at w; omega)
      · rw [k4 _ _ (by omega), f.2.2.2.2 c c0 c1, if_neg (by omega), m2.G (by omega)]
        exact (cl.2.2.2.1 c c0 c1).2.2.1
      · rw [k4 _ _ (by omega), f.2.2.2.2 c c0 c1, if_pos ⟨rfl, c1⟩]
      · rw [mm4.G (nn _ (by omega) (by omega) (by omega))]
        exact md.2.2.2.2.1 K j i x K0 K1 j0 ji i1 x0 x1
      · rw [er1 e x0 x1, far3 _ _ (by omega)]
        exact (kr z).1 e x0 x1
      · rw [er2 x x0 x1, far3 _ _ (by omega)]
        exact (kr z).2 x x0 x1
      · rw [eo _ (by omega) (by omega) (by omega) (by omega) (by omega)]
        exact far3 _ _ (by omega)
      · rw [k4 _ _ (by omega), f.1 4 (by omega) (by omega)]
        exact m2.G (by omega) _
      · rw [eo _ (by omega) (by omega) (by omega) (by omega) (by omega)]
        exact far3 _ _ (by omega)
      · rw [k4 _ _ (by omega), f.2.2.2.1 t t0 t1, m2.G (by omega), m2.G (by omega)]
      · exact mm4.G (fun w => by unfold FGM at w; omega) _
      · rw [e3, show zG S3 (D + 3) = zG S (D + 3) from funext fun j => far3 _ _ (by omega)]
      · exact mm4.G (nn _ (by omega) (by omega) (by omega)) _
      · rw [k4 _ _ (by omega)]
        exact f.2.2.1
      · rw [k4 _ _ (by omega)]
        exact f.2.1
  · exact ⟨_, rfl, id0.1, m_back md.1 (fun _ => ⟨rfl, id0⟩) (fun w => absurd (im.2.1 (Classical.not_not.mp q)) w)⟩
