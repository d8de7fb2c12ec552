/-! Curve, third part: the discriminant and its roots. -/
theorem NW.deg {p n w : Int} {C P : Int → Int → Int} (h : NW p n C P) (hw : 0 ≤ w) (hC : ∀ i, 1 ≤ i → i ≤ n → ∀ x, w * i < x → C (n - i) x = 0) : ∀ k, 0 ≤ k → k ≤ 2 * n - 2 → ∀ x, w * k < x → P k x = 0 := by
  have key : ∀ (m : Nat) (k : Int), k.toNat ≤ m → 0 ≤ k → k ≤ 2 * n - 2 → ∀ x, w * k < x → P k x = 0 := by
    have one : ∀ k, 0 ≤ k → k ≤ 2 * n - 2 → (∀ j, 0 ≤ j → j < k → ∀ x, w * j < x → P j x = 0) → ∀ x, w * k < x → P k x = 0 := by
      intro k k0 k1 ih x hx
      have wk := Int.mul_nonneg hw k0
      rw [h k k0 k1 x]
      unfold nwV
      rw [sm_zeros (fun i i0 i1 => ?_)]
      · have : (if k = 0 then (if x = 0 then n else 0) else if k ≤ n then -k * C (n - k) x else 0) = 0 := by
          by_cases e : k = 0
          · rw [if_pos e, if_neg (by omega)]
          · rw [if_neg e]
            by_cases e2 : k ≤ n
            · rw [if_pos e2, hC k (by omega) e2 x hx, Int.mul_zero]
            · rw [if_neg e2]
        rw [this]
        exact Int.zero_emod p
      · rw [show n - 1 - i = n - (i + 1) by omega]
        refine cnv_top (u := w * (i + 1)) (w := w * (k - 1 - i)) (hC (i + 1) (by omega) (by omega)) (ih (k - 1 - i) (by omega) (by omega)) ?_
        rw [← Int.mul_add, show i + 1 + (k - 1 - i) = k by omega]
        exact hx
    intro m
    induction m with
    | zero =>
      intro k hm k0 k1
      exact one k k0 k1 (fun j j0 j1 => by omega)
    | succ m ih =>
      intro k hm k0 k1
      exact one k k0 k1 (fun j j0 j1 => ih j (by omega) j0 (by omega))
  exact fun k k0 k1 => key _ k (Nat.le_refl _) k0 k1
def rwS (s : Int) : Int := pcS s * (pcS s - 1) / 2 + (s / 2 % 2 + 2 * (s / 4 % 2) + 3 * (s / 8 % 2))
theorem rw_all : ∀ s : Fin 16, ∀ j : Fin 4, bitS (s.val : Int) (j.val : Int) = 1 → rwS ((s.val : Int) - p2 (j.val : Int)) + (pcS (s.val : Int) - 1 + (j.val : Int)) = rwS (s.val : Int) := by decide +kernel
theorem rw_ok {s j : Int} (h0 : 0 ≤ s) (h1 : s < 16) (j0 : 0 ≤ j) (j1 : j < 4) (hb : bitS s j = 1) : rwS (s - p2 j) + (pcS s - 1 + j) = rwS s := by
  have := rw_all ⟨s.toNat, by omega⟩ ⟨j.toNat, by omega⟩
  simp only [show ((s.toNat : Nat) : Int) = s by omega, show ((j.toNat : Nat) : Int) = j by omega] at this
  exact this hb
theorem MN.deg {p n w : Int} {E G : Int → Int → Int} (h : MN p n E G) (hn : 2 ≤ n ∧ n ≤ 4) (hw : 0 ≤ w) (hE : ∀ i j, 0 ≤ i → i < n → 0 ≤ j → j < n → ∀ x, w * (i + j) < x → E (4 * i + j) x = 0) : ∀ s, 0 ≤ s → s < p2 n → ∀ d, 0 ≤ d → d ≤ pcS s → ∀ x, w * rwS s < x → G (zSt s + d) x = 0 := by
  have hp2 : p2 n ≤ 16 := by have := p2_top hn; omega
  have key : ∀ (m : Nat) (s : Int), s.toNat ≤ m → 0 ≤ s → s < p2 n → ∀ d, 0 ≤ d → d ≤ pcS s → ∀ x, w * rwS s < x → G (zSt s + d) x = 0 := by
    have one : ∀ s, 0 ≤ s → s < p2 n → (∀ u, 0 ≤ u → u < s → ∀ d, 0 ≤ d → d ≤ pcS u → ∀ x, w * rwS u < x → G (zSt u + d) x = 0) → ∀ d, 0 ≤ d → d ≤ pcS s → ∀ x, w * rwS s < x → G (zSt s + d) x = 0 := by
      intro s s0 s1 ih d d0 d1 x hx
      by_cases q : s = 0
      · subst q
        have e1 : rwS 0 = 0 := by decide
        have e2 : zSt 0 = 0 := by decide
        have e3 : pcS 0 = 0 := by decide
        rw [e3] at d1
        rw [e1, Int.mul_zero] at hx
        rw [e2, show 0 + d = 0 by omega, h.1, if_neg (by omega)]
      · have z7 := sz_pc (s := s) (n := n) s0 (by omega) (by omega) (by omega) s1
        have z6 := (sz_st s0 (show s < 16 by omega)).2.2.2.2 (by omega)
        rw [h.2 s (by omega) s1 d d0 d1 x, sm_zeros (fun j j0 j1 => ?_)]
        · exact Int.zero_emod p
        · unfold mnT
          by_cases hb : bitS s j = 1
          · obtain ⟨r1, r2, r3, r4⟩ := sz_rest s0 (by omega) j0 (by omega) hb
            have r5 := rw_ok s0 (by omega) j0 (by omega) hb
            rw [if_pos hb]
            have hle : w * rwS (s - p2 j) ≤ w * rwS s := Int.mul_le_mul_of_nonneg_left (by omega) hw
            have t1 : (if d < pcS s then -sgS s j * cnv (E (4 * (pcS s - 1) + j)) (G (zSt (s - p2 j) + d)) x else 0) = 0 := by
              by_cases q9 : d < pcS s
              · rw [if_pos q9, cnv_top (u := w * (pcS s - 1 + j)) (w := w * rwS (s - p2 j)) (hE (pcS s - 1) j (by omega) (by omega) j0 (by omega)) (ih (s - p2 j) r2 (by omega) d d0 (by omega)) (by rw [← Int.mul_add, show pcS s - 1 + j + rwS (s - p2 j) = rwS s by omega]; exact hx), Int.mul_zero]
              · rw [if_neg q9]
            have t2 : (if j = pcS s - 1 ∧ 1 ≤ d then sgS s j * G (zSt (s - p2 j) + (d - 1)) x else 0) = 0 := by
              by_cases q9 : j = pcS s - 1 ∧ 1 ≤ d
              · rw [if_pos q9, ih (s - p2 j) r2 (by omega) (d - 1) (by omega) (by omega) x (by omega), Int.mul_zero]
              · rw [if_neg q9]
            rw [t1, t2]
            rfl
          · rw [if_neg hb]
    intro m
    induction m with
    | zero =>
      intro s hm s0 s1
      exact one s s0 s1 (fun u u0 u1 => by omega)
    | succ m ih =>
      intro s hm s0 s1
      exact one s s0 s1 (fun u u0 u1 => ih u (by omega) u0 (by omega))
  exact fun s s0 s1 => key _ s (Nat.le_refl _) s0 s1
/-- how many times x - c divides, k times at most -/
def rtN (p c T : Int) : Nat → (Int → Int) → Int
  | 0, _ => 0
  | k + 1, P => if qr p c P T (-1) = 0 then 1 + rtN p c T k (dv1 p c T P) else 0
theorem rt_char {p c T : Int} : ∀ (m k : Nat) (P : Int → Int), okK p c T m P → m < k → qr p c (dvK p c T m P) T (-1) ≠ 0 → rtN p c T k P = m
  | 0, k + 1, P, _, _, h => if_neg h
  | m + 1, k + 1, P, ho, hk, h => by
    show (if qr p c P T (-1) = 0 then 1 + rtN p c T k (dv1 p c T P) else 0) = _
    have h0 : qr p c P T (-1) = 0 := ho 0 (by omega)
    have e : ∀ l, dvK p c T l (dv1 p c T P) = dvK p c T (l + 1) P := fun l => by
      rw [show l + 1 = 1 + l by omega, dvK_add 1 l]
      rfl
    rw [if_pos h0, rt_char m k (dv1 p c T P) (fun l hl => by rw [e]; exact ho (l + 1) (by omega)) (by omega) (by rw [e]; exact h)]
    omega
theorem dvK_lead {p c T t : Int} {P : Int → Int} (hp : 0 < p) (hP : 0 ≤ P t ∧ P t < p) (ht : ∀ i, t < i → P i = 0) (hT : t ≤ T) : ∀ (k : Nat), (k : Int) ≤ t → (∀ i, t - k < i → dvK p c T k P i = 0) ∧ dvK p c T k P (t - k) = P t
  | 0, _ => ⟨fun i hi => ht i (by omega), by rw [show t - ((0 : Nat) : Int) = t by omega]; rfl⟩
  | k + 1, hk => by
    obtain ⟨h1, h2⟩ := dvK_lead hp hP ht hT k (by omega)
    have e : ∀ i, dvK p c T (k + 1) P i = if i < 0 then 0 else qr p c (dvK p c T k P) (t - k) i := fun i => by
      show dv1 p c T (dvK p c T k P) i = _
      unfold dv1
      rw [qr_T (T := t - k) (T' := T) h1 (by omega)]
    constructor
    · intro i hi
      rw [e]
      split
      · rfl
      · exact qr_top (by omega)
    · rw [e, if_neg (by omega), show t - ((k + 1 : Nat) : Int) = t - k - 1 by omega, qr_step (by omega), qr_top (by omega), Int.mul_zero, Int.add_zero, h2, em_id hP.1 hP.2]
theorem dv1_bd {p c T : Int} {P : Int → Int} (hp : 0 < p) (i : Int) : 0 ≤ dv1 p c T P i ∧ dv1 p c T P i < p := by
  unfold dv1
  split
  · omega
  · exact qr_bd hp i
theorem s_rootsOfDisc {d : Nat} {V rs c p T : Int} {S : Hp} {D : Int → Int} {Q : Vl → Hp → Prop} (h : VW S V) (h0 : zG S V 0 = p) (hp : 2 ≤ p ∧ p ≤ 7) (hc : 0 ≤ c ∧ c < p) (hD : LN S (V + 11) 64 p D) (hr : LW S rs 64) (dr : rs + 1 < V ∨ V + 14 < rs) (hT : 63 ≤ T) (H : ∀ S' v, Md (ML rs) S S' → LW S' rs 64 → 0 ≤ v → v < 100 → ((∃ i, D i ≠ 0) → v = rtN p c T 200 D) → Q (0, v) S') : Ev (d + 1) 23 [(2, V), (0, c), (2, rs)] S Q := by
  apply w_Curve_rootsOfDisc_0
  rw [h.2.2.2.1]
  refine ⟨h.1, hr.ln.1, n_take (n := 64) hr hD (by omega) (fun i hi => hD.hi i hi) (fun S1 m1 l1 => ⟨rfl, l1.ln.1, ?_⟩)⟩
  have hDb := hD.bd
  obtain ⟨t, t1, t2, -⟩ := l1
  rw [t1.2.1]
  have tb := t1.2.2.2.1
  have tb2 := t1.2.2.1
  have l1 : LN S1 rs 64 p D := ⟨t, t1, t2, hDb⟩
  intro x hx
  rw [hx]
  refine loopU (P := fun e S' => At (d + 1) 23 c23_16 [(0, (2, V)), (1, (0, c)), (2, (2, rs)), (3, (0, t)), (4, (0, e))] [] S' Q) (I := fun e S' => 0 ≤ e ∧ Md (ML rs) S S' ∧ okK p c T e.toNat D ∧ LN S' rs 64 p (dvK p c T e.toNat D)) (max t 0) ?_ ?_ 0 S1 (by omega) ⟨by omega, m1, fun l hl => absurd hl (by show ¬ l < 0; omega), l1⟩
  · rintro e S2 he ⟨e0, em, eo, el⟩ hk
    have p0 : zG S2 V 0 = p := by rw [em.G (by unfold ML; omega)]; exact h0
    have elt := dvK_top (p := p) (c := c) (T := T) t1.2.2.2.2.2.1 (by omega) e.toNat
    apply w_Curve_rootsOfDisc_16
    rw [p0]
    refine ⟨fun hc => by omega, fun _ => ⟨by rw [em.K]; exact h.1, el.ln.1, n_valueAt T el hc (by omega) (fun i hi => elt i (by omega)) (by omega) ⟨_, rfl, fun hz => H S2 e em el.w e0 (by omega) (fun _ => ?_), fun hz => ⟨by rw [em.K]; exact h.1, el.ln.1, ?_⟩⟩⟩⟩
    · have := rt_char e.toNat 200 D eo (by omega) hz
      omega
    · rw [p0]
      refine n_divideByRoot T el hc (by omega) (fun i hi => elt i (by omega)) (by omega) (fun S3 m3 l3 => ⟨rfl, ?_⟩)
      rintro _ rfl
      rw [w32_id (by omega) (by omega)]
      refine hk _ ⟨by omega, em.tr m3, fun l hl => ?_, ?_⟩
      · by_cases q : l = e.toNat
        · rw [q]
          exact Decidable.not_not.mp hz
        · exact eo l (by omega)
      · rw [show (e + 1).toNat = e.toNat + 1 by omega]
        exact l3
  · rintro S2 ⟨e0, em, eo, el⟩
    apply w_Curve_rootsOfDisc_16
    refine ⟨fun _ => H S2 _ em el.w e0 (by omega) (fun hnz => ?_), fun hc => absurd (by omega) hc⟩
    have ht0 : 0 ≤ t := by
      by_cases q : 0 ≤ t
      · exact q
      · obtain ⟨i, hi⟩ := hnz
        by_cases q2 : i < 0
        · exact absurd (t1.2.2.2.2.2.2 i q2) hi
        · exact absurd (t1.2.2.2.2.2.1 i (by omega)) hi
    rw [show max t 0 = t by omega] at *
    obtain ⟨a1, a2⟩ := dvK_lead (c := c) (T := T) (show 0 < p by omega) (hDb t) t1.2.2.2.2.2.1 (by omega) t.toNat (by omega)
    rw [show t - ((t.toNat : Nat) : Int) = 0 by omega] at a1 a2
    have hb9 : 0 ≤ dvK p c T t.toNat D 0 ∧ dvK p c T t.toNat D 0 < p := by rw [a2]; exact hDb t
    have := rt_char t.toNat 200 D eo (by omega) (by
      rw [qr_T (T := 0) (T' := T) a1 (by omega), show (-1 : Int) = 0 - 1 by omega, qr_step (by omega), qr_top (by omega), Int.mul_zero, Int.add_zero, em_id hb9.1 hb9.2, a2]
      exact t2 ht0)
    omega
