/-! Minors, third part: the equation, divided. -/
theorem p2_top {n : Int} (hn : 2 ≤ n ∧ n ≤ 4) : 0 ≤ p2 n - 1 ∧ p2 n - 1 < 16 ∧ pcS (p2 n - 1) = n ∧ 1 ≤ p2 n - 1 := by
  rcases (show n = 2 ∨ n = 3 ∨ n = 4 by omega) with rfl | rfl | rfl <;> decide
/-- where the number in front of T^d lies -/
def adP (X n d : Int) : Int := X + 1 + 1 + 2 * (zSt (p2 n - 1) + d)
theorem s_ofPower {d : Nat} {X n e : Int} {S : Hp} {Q : Vl → Hp → Prop} (hx : XW S X) (h1 : zG S X 1 = n) (hn : 2 ≤ n ∧ n ≤ 4) (he : 0 ≤ e ∧ e ≤ n) (H : Q (2, adP X n e) S) : Ev d 57 [(2, X), (0, e)] S Q := by
  obtain ⟨a1, a2, a3, a4⟩ := p2_top hn
  obtain ⟨z1, z2, z3, z4, -⟩ := sz_st a1 a2
  apply w_Minors_ofPower_0
  rw [h1, bsl_ok (by omega) (by omega), hx.2.1]
  simp (disch := omega) only [w32_id]
  rw [hx.2.2.1.ptr (i := zSt (p2 n - 1) + e) (by omega) (by omega)]
  exact ⟨hx.1, hx.1, ⟨trivial, by omega, by omega⟩, ⟨hx.2.2.1.1, by omega, by rw [hx.2.2.1.2.1]; omega⟩, H⟩
/-- divided by x - c once -/
def dv1 (p c T : Int) (P : Int → Int) : Int → Int := fun i => if i < 0 then 0 else qr p c P T i
def dvK (p c T : Int) : Nat → (Int → Int) → Int → Int
  | 0, P => P
  | k + 1, P => dv1 p c T (dvK p c T k P)
/-- k divisions that leave nothing -/
def okK (p c T : Int) (k : Nat) (P : Int → Int) : Prop := ∀ l, l < k → qr p c (dvK p c T l P) T (-1) = 0
theorem qr_z {p c T i : Int} {P : Int → Int} (h : ∀ i, P i = 0) (hi : -1 ≤ i) (hT : -1 ≤ T) : qr p c P T i = 0 := by
  rw [qr_T (T := -1) (T' := T) (fun i _ => h i) hT, qr_top hi]
theorem dvK_z {p c T : Int} {P : Int → Int} (h : ∀ i, P i = 0) (hT : -1 ≤ T) : ∀ (k : Nat) (i : Int), dvK p c T k P i = 0
  | 0, i => h i
  | k + 1, i => by
    show dv1 p c T (dvK p c T k P) i = 0
    unfold dv1
    split
    · rfl
    · exact qr_z (dvK_z h hT k) (by omega) hT
theorem okK_z {p c T : Int} {P : Int → Int} (h : ∀ i, P i = 0) (hT : -1 ≤ T) (k : Nat) : okK p c T k P := fun l _ => qr_z (dvK_z h hT l) (by omega) hT
theorem dvK_add {p c T : Int} {P : Int → Int} (a : Nat) : ∀ (b : Nat), dvK p c T (a + b) P = dvK p c T b (dvK p c T a P)
  | 0 => rfl
  | b + 1 => by
    show dv1 p c T (dvK p c T (a + b) P) = dv1 p c T (dvK p c T b (dvK p c T a P))
    rw [dvK_add a b]
theorem dvK_top {p c T D : Int} {P : Int → Int} (h : ∀ i, D < i → P i = 0) (hD : D ≤ T) : ∀ (k : Nat) (i : Int), D < i → dvK p c T k P i = 0
  | 0, i, hi => h i hi
  | k + 1, i, hi => by
    show dv1 p c T (dvK p c T k P) i = 0
    unfold dv1
    split
    · rfl
    · rw [qr_T (T := D) (dvK_top h hD k) hD]
      exact qr_top (by omega)
set_option maxHeartbeats 1000000 in
theorem s_divide {d : Nat} {X n p c m T : Int} {S : Hp} {G : Int → Int → Int} {Q : Vl → Hp → Prop} (hx : XW S X) (h1 : zG S X 1 = n) (h2 : zG S X 2 = p) (hn : 2 ≤ n ∧ n ≤ 4) (hp : 2 ≤ p ∧ p ≤ 7) (hcc : 0 ≤ c ∧ c < p) (hm : 0 ≤ m ∧ m ≤ 20) (hT : 172 ≤ T) (hG : ∀ j, 1 ≤ j → j ≤ n → LN S (adP X n (n - j)) 173 p (G j) ∨ LN S (adP X n (n - j)) (rmM (zSt (p2 n - 1) + (n - j))) p (G j)) (hGt : ∀ j, 1 ≤ j → j ≤ n → ∀ x, 172 < x → G j x = 0)
    (H1 : (∀ j, 1 ≤ j → j ≤ n → okK p c T (m * j).toNat (G j)) → ∀ S', Md (MX X) S S' → XW S' X → (∀ j, 1 ≤ j → j ≤ n → LN S' (adP X n (n - j)) (rmM (zSt (p2 n - 1) + (n - j))) p (dvK p c T (m * j).toNat (G j))) → Q (0, 1) S') (H0 : ¬ (∀ j, 1 ≤ j → j ≤ n → okK p c T (m * j).toNat (G j)) → ∀ S', Md (MX X) S S' → XW S' X → Q (0, 0) S') : Ev (d + 1) 60 [(2, X), (0, c), (0, m)] S Q := by
  obtain ⟨a1, a2, a3, a4⟩ := p2_top hn
  obtain ⟨z1, z2, z3, z4, -⟩ := sz_st a1 a2
  have zm := sz_mono (s := 0) (u := p2 n - 1) (by omega) (by omega) a2
  have hst0 : zSt 0 = 0 := by decide
  have hpc0 : pcS 0 = 0 := by decide
  have hG' : ∀ j, 1 ≤ j → j ≤ n → LN S (adP X n (n - j)) (rmM (zSt (p2 n - 1) + (n - j))) p (G j) := by
    intro j j0 j1
    rcases hG j j0 j1 with h | h
    · have e1 := h.ln.2.2.2.1
      have e2 := (hx.2.2.1.2.2 (zSt (p2 n - 1) + (n - j)) (by omega) (by omega)).2.ln.2.2.2.1
      unfold adP at e1 h ⊢
      rw [e1] at e2
      rw [← e2]
      exact h
    · exact h
  apply w_Minors_divide_0
  refine loopU (P := fun j S' => At (d + 1) 60 c60_2 [(0, (2, X)), (1, (0, c)), (2, (0, m)), (3, (0, j))] [] S' Q) (I := fun j S' => 1 ≤ j ∧ Md (MX X) S S' ∧ XW S' X ∧ (∀ l, 1 ≤ l → l < j → okK p c T (m * l).toNat (G l)) ∧ (∀ l, 1 ≤ l → l < j → LN S' (adP X n (n - l)) (rmM (zSt (p2 n - 1) + (n - l))) p (dvK p c T (m * l).toNat (G l))) ∧ ∀ l, j ≤ l → l ≤ n → LN S' (adP X n (n - l)) (rmM (zSt (p2 n - 1) + (n - l))) p (G l)) (n + 1) ?_ ?_ 1 S (by omega) ⟨by omega, Md.refl _ _, hx, fun l l0 l1 => by omega, fun l l0 l1 => by omega, fun l l0 l1 => hG' l (by omega) l1⟩
  · rintro j S1 hj ⟨j0, jm, jw, jo, jd, jl⟩ hk
    have e1 : zG S1 X 1 = n := by rw [jm.G (by unfold MX; omega)]; exact h1
    have mj : 0 ≤ m * j ∧ m * j ≤ 80 := by
      rcases (show j = 1 ∨ j = 2 ∨ j = 3 ∨ j = 4 by omega) with rfl | rfl | rfl | rfl <;> omega
    apply w_Minors_divide_2
    rw [e1]
    simp (disch := omega) only [w32_id]
    refine ⟨jw.1, fun hc => by omega, fun _ => ⟨jw.1, jw.1, s_ofPower jw e1 hn (by omega) ⟨_, rfl, ?_⟩⟩⟩
    have nxt : ∀ S2, Md (ML (adP X n (n - j))) S1 S2 → okK p c T (m * j).toNat (G j) → LN S2 (adP X n (n - j)) (rmM (zSt (p2 n - 1) + (n - j))) p (dvK p c T (m * j).toNat (G j)) → At (d + 1) 60 c60_72 [(0, (2, X)), (1, (0, c)), (2, (0, m)), (3, (0, j))] [] S2 Q := by
      intro S2 m2 o2 l2
      apply w_Minors_divide_72
      rintro _ rfl
      rw [w32_id (by omega) (by omega)]
      refine hk _ ⟨by omega, jm.tr (m2.wide (fun x hx => by unfold ML adP at hx; unfold MX; omega)), jw.set m2 (by omega) (by omega) l2.w, fun l l0 l1 => ?_, fun l l0 l1 => ?_, fun l l0 l1 => (jl l (by omega) l1).keep m2 (by unfold ML adP; omega) (by unfold ML adP; omega)⟩
      · by_cases q : l = j
        · rw [q]
          exact o2
        · exact jo l l0 (by omega)
      · by_cases q : l = j
        · rw [q]
          exact l2
        · exact (jd l l0 (by omega)).keep m2 (by unfold ML adP; omega) (by unfold ML adP; omega)
    refine loopU (P := fun e S' => At (d + 1) 60 c60_25 [(0, (2, X)), (1, (0, c)), (2, (0, m)), (3, (0, j)), (4, (2, adP X n (n - j))), (5, (0, e))] [] S' Q) (I := fun e S' => 0 ≤ e ∧ Md (ML (adP X n (n - j))) S1 S' ∧ XW S' X ∧ okK p c T e.toNat (G j) ∧ LN S' (adP X n (n - j)) (rmM (zSt (p2 n - 1) + (n - j))) p (dvK p c T e.toNat (G j))) (m * j) ?_ ?_ 0 S1 (by omega) ⟨by omega, Md.refl _ _, jw, fun l hl => absurd hl (by show ¬ l < 0; omega), jl j (by omega) (by omega)⟩
    · rintro e S2 he ⟨e0, em, ew, eo, el⟩ hk2
      have mm2 := jm.tr (em.wide (N := MX X) (fun x hx => by unfold ML adP at hx; unfold MX; omega))
      have e2 : zG S2 X 2 = p := by rw [mm2.G (by unfold MX; omega)]; exact h2
      have elt := dvK_top (p := p) (c := c) (T := T) (hGt j j0 (by omega)) (by omega) e.toNat
      have el0 := el
      obtain ⟨t, t1, t2, t3⟩ := el
      apply w_Minors_divide_25
      rw [t1.2.1, e2]
      simp (disch := omega) only [w32_id]
      refine ⟨fun _ => t1.1.1, fun hc => ?_, fun hc => ⟨ew.1, t1.1.1, n_valueAt T el0 hcc (by omega) (fun i hi => elt i (by omega)) (by omega) ⟨_, rfl, fun hz => ⟨ew.1, t1.1.1, ?_⟩, fun hz => ⟨Or.inl rfl, H0 (fun z => ?_) S2 mm2 ew⟩⟩⟩⟩
      · have hz : ∀ i, dvK p c T e.toNat (G j) i = 0 := fun i => by
          by_cases q : i < 0
          · exact t1.2.2.2.2.2.2 i q
          · exact t1.2.2.2.2.2.1 i (by omega)
        have hadd : (m * j).toNat = e.toNat + (m * j - e).toNat := by omega
        refine nxt S2 em ?_ (el0.congr fun i => ?_)
        · intro l hl
          by_cases q : l < e.toNat
          · exact eo l q
          · obtain ⟨b, rfl⟩ : ∃ b, l = e.toNat + b := ⟨l - e.toNat, by omega⟩
            rw [dvK_add]
            exact qr_z (dvK_z hz (by omega) b) (by omega) (by omega)
        · rw [hadd, dvK_add, dvK_z hz (by omega), hz i]
      · rw [e2]
        refine n_divideByRoot T el0 hcc (by omega) (fun i hi => elt i (by omega)) (by omega) (fun S3 m3 l3 => ⟨rfl, ?_⟩)
        rintro _ rfl
        refine hk2 _ ⟨by omega, em.tr m3, ew.set m3 (by omega) (by omega) l3.w, fun l hl => ?_, ?_⟩
        · by_cases q : l = e.toNat
          · rw [q]
            exact hz
          · exact eo l (by omega)
        · rw [show (e + 1).toNat = e.toNat + 1 by omega]
          exact l3
      · exact hz (z j j0 (by omega) e.toNat (by omega))
    · rintro S2 ⟨e0, em, ew, eo, el⟩
      have el0 := el
      obtain ⟨t, t1, t2, t3⟩ := el
      apply w_Minors_divide_25
      simp (disch := omega) only [w32_id]
      exact ⟨fun _ => t1.1.1, fun _ => nxt S2 em eo el0, fun hc => absurd (Or.inl (by omega)) hc⟩
  · rintro S1 ⟨j0, jm, jw, jo, jd, jl⟩
    have e1 : zG S1 X 1 = n := by rw [jm.G (by unfold MX; omega)]; exact h1
    apply w_Minors_divide_2
    rw [e1]
    exact ⟨jw.1, fun _ => ⟨Or.inr rfl, H1 (fun j h3 h4 => jo j h3 (by omega)) S1 jm jw (fun j h3 h4 => jd j h3 (by omega))⟩, fun hc => absurd (by omega) hc⟩
