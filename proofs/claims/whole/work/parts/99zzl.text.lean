/-! The class's reader: a whole text. -/
theorem dgE_dig {T : Int → Int} {n : Int} : ∀ (k : Nat) (i : Int), ∀ x, i ≤ x → x < dgE T n k i → 48 ≤ T x ∧ T x ≤ 57
  | 0, i, x, x0, x1 => absurd x1 (show ¬ x < i by omega)
  | k + 1, i, x, x0, x1 => by
    have e : dgE T n (k + 1) i = if n ≤ i ∨ ¬ (48 ≤ T i ∧ T i ≤ 57) then i else dgE T n k (i + 1) := rfl
    rw [e] at x1
    by_cases q : n ≤ i ∨ ¬ (48 ≤ T i ∧ T i ≤ 57)
    · rw [if_pos q] at x1
      omega
    · rw [if_neg q] at x1
      by_cases q' : x = i
      · rw [q']
        exact Decidable.byContradiction (fun z => q (Or.inr z))
      · exact dgE_dig k (i + 1) x (by omega) x1
theorem vlN_nn {T : Int → Int} {w : Int} : ∀ (k : Nat), (∀ j : Nat, j < k → 48 ≤ T (w + j)) → 0 ≤ vlN T w k
  | 0, _ => Int.le_refl 0
  | k + 1, h => by
    have a := vlN_nn k (fun j hj => h j (by omega))
    have b := h k (by omega)
    show 0 ≤ 10 * vlN T w k + T (w + k) - 48
    omega
theorem tkV_nn {T : Int → Int} {n i : Int} : 0 ≤ tkV T n i := vlN_nn _ (fun j hj => (dgE_dig (T := T) (n := n) (n - tkW T n i).toNat (tkW T n i) (tkW T n i + j) (by omega) (by have : ((j : Nat) : Int) < tkE T n i - tkW T n i := by omega
                                                                                                                                                                                unfold tkE at this
                                                                                                                                                                                omega)).1)
/-- what a whole text comes to -/
def rdA (T : Int → Int) (n p : Int) : Int × Int × Int × (Int → Int) := rdSm T n p (brk T n p 4) 0 (-1)
def rdR0 (T : Int → Int) (n p : Int) : Int := if (rdA T n p).1 = 0 ∨ ¬ tkK T n (rdA T n p).2.1 = 0 then -100 - tkW T n (rdA T n p).2.1 else if (rdA T n p).2.2.1 < 0 then 0 else -300 - (rdA T n p).2.2.1
theorem s_readText {d : Nat} {R n p : Int} {T : Int → Int} {S : Hp} {Q : Vl → Hp → Prop} (h2 : 2 ≤ p ∧ p ≤ 7) (w : RDW S R) (h1 : zG S R 1 = n) (hn : 0 ≤ n ∧ n ≤ 100) (hT : ∀ x, 0 ≤ x → x < n → zG S (R + 1) x = T x) (hb : (rdA T n p).2.2.1 ≤ 1000) (H : ∀ S', Md (fun x => x = R ∨ (R + 3 ≤ x ∧ x ≤ R + 19)) S S' → RDW S' R → zG S' R 1 = 0 → (rdR0 T n p = 0 → ∀ x, 0 ≤ x → x < 49 → zG S' (R + 3) x = (rdA T n p).2.2.2 x ∧ 0 ≤ zG S' (R + 3) x ∧ zG S' (R + 3) x < p) → Q (0, rdR0 T n p) S') : Ev (d + 22) 84 [(2, R), (0, p)] S Q := by
  unfold rdR0 at H
  apply w_Reader_readText_0
  refine ⟨w.1, ?_⟩
  rintro _ rfl
  refine ⟨w.1, ?_⟩
  rintro _ rfl
  refine ⟨w.1, ?_⟩
  rintro _ rfl
  have m3 : Md (fun x => x = R) S (zS (zS (zS S R 5 p) R 6 0) R 10 (-1)) := ((Md.zS _ _ _ _).tr (Md.zS _ _ _ _)).tr (Md.zS _ _ _ _)
  have g : ∀ i, i ≠ 5 → i ≠ 6 → i ≠ 10 → zG (zS (zS (zS S R 5 p) R 6 0) R 10 (-1)) R i = zG S R i := fun i a b c => by
    rw [zG_zS_ne _ (Or.inr c), zG_zS_ne _ (Or.inr b), zG_zS_ne _ (Or.inr a)]
  have g5 : zG (zS (zS (zS S R 5 p) R 6 0) R 10 (-1)) R 5 = p := by
    rw [zG_zS_ne _ (Or.inr (by omega)), zG_zS_ne _ (Or.inr (by omega)), zG_zS_at]
  have g6 : zG (zS (zS (zS S R 5 p) R 6 0) R 10 (-1)) R 6 = 0 := by
    rw [zG_zS_ne _ (Or.inr (by omega)), zG_zS_at]
  have g10 : zG (zS (zS (zS S R 5 p) R 6 0) R 10 (-1)) R 10 = -1 := zG_zS_at _ _ _ _
  have w3 : RDW (zS (zS (zS S R 5 p) R 6 0) R 10 (-1)) R := w.keep m3 (fun i hi => g i (by omega) (by omega) (by omega)) (by omega)
  generalize zS (zS (zS S R 5 p) R 6 0) R 10 (-1) = S3 at m3 g g5 g6 g10 w3
  refine ⟨w3.1, s_step (T := T) (i := 0) hn w3 ((g 1 (by omega) (by omega) (by omega)).trans h1) g6 (by omega) (fun x x0 x1 => (m3.G (by omega) x).trans (hT x x0 x1)) (fun S4 r4 e6 e8 e7 e9 => ⟨rfl, r4.2.1.1, ?_⟩)⟩
  have s4 : RS S4 R T n p 0 (-1) := ⟨r4.2.1, ((r4.2.2 1 (by omega) (by omega) (by omega) (by omega)).trans (g 1 (by omega) (by omega) (by omega))).trans h1, hn, by omega, fun x x0 x1 => (r4.1.G (by omega) x).trans ((m3.G (by omega) x).trans (hT x x0 x1)), (r4.2.2 5 (by omega) (by omega) (by omega) (by omega)).trans g5, e6, e7, e8, e9, (r4.2.2 10 (by omega) (by omega) (by omega) (by omega)).trans g10⟩
  refine s_readSum h2 (fun i _ => tkV_nn) 4 (by omega) d S4 0 (-1) _ s4 (fun S5 m5 s5 n5 o5 => ⟨_, rfl, fun _ => s5.1.1, ?_⟩)
  have o5 : ¬ (rdA T n p).1 = 0 → RO S5 (R + 3) p (rdA T n p).2.2.1 (rdA T n p).2.2.2 := fun y => by
    have := o5 y
    rw [show R + 3 + 3 * (4 - ((4 : Nat) : Int)) = R + 3 by omega] at this
    exact this
  have s5 : RS S5 R T n p (rdA T n p).2.1 (rdA T n p).2.2.1 := s5
  have M5 : Md (fun x => x = R ∨ (R + 3 ≤ x ∧ x ≤ R + 19)) S S5 := ((m3.wide (fun x hx => Or.inl hx)).tr (r4.1.wide (fun x hx => Or.inl hx))).tr (m5.wide (fun x hx => by omega))
  show ∀ x7, x7 = (if (rdA T n p).1 = 0 ∨ ¬ zG S5 R 7 = 0 then 0 else 1) → _
  generalize rdA T n p = t at H s5 o5 hb
  rw [s5.2.2.2.2.2.2.2.1]
  rintro _ rfl
  refine ⟨s5.1.1, ?_⟩
  rintro _ rfl
  have m6 := M5.tr ((Md.zS S5 R 1 0).wide (fun x hx => Or.inl hx))
  have w6 : RDW (zS S5 R 1 0) R := s5.1.keep (Md.zS _ _ _ _) (fun i hi => zG_zS_ne _ (Or.inr (by omega))) (by omega)
  have g10' : zG (zS S5 R 1 0) R 10 = t.2.2.1 := (zG_zS_ne _ (Or.inr (by omega))).trans s5.2.2.2.2.2.2.2.2.2.2
  have g8' : zG (zS S5 R 1 0) R 8 = tkW T n t.2.1 := (zG_zS_ne _ (Or.inr (by omega))).trans s5.2.2.2.2.2.2.2.2.1
  have tb := tk_bd (T := T) s5.2.2.2.1
  have hi5 := s5.2.2.2.1
  rw [g10', g8']
  have HH := H (zS S5 R 1 0) m6 w6 (zG_zS_at _ _ _ _)
  by_cases q : t.1 = 0 ∨ ¬ tkK T n t.2.1 = 0
  · rw [if_pos q]
    rw [if_pos q] at HH
    refine ⟨fun z => absurd rfl z, fun _ => ⟨w6.1, ?_⟩⟩
    rw [w32_id (by omega) (by omega)]
    exact HH (fun z => by omega)
  · rw [if_neg q]
    rw [if_neg q] at HH
    refine ⟨fun _ => ⟨w6.1, fun _ => w6.1, ?_⟩, fun z => absurd (show ¬ (1 : Int) = 0 by decide) z⟩
    by_cases q2 : t.2.2.1 < 0
    · rw [if_pos q2]
      rw [if_pos q2] at HH
      rintro _ rfl
      refine HH (fun _ x x0 x1 => ?_)
      have := o5 (fun y => q (Or.inl y)) x x0 x1
      rw [zG_zS_ne _ (Or.inl (by omega))]
      exact ⟨this.2 q2, this.1⟩
    · rw [if_neg q2]
      rw [if_neg q2] at HH
      rw [w32_id (by omega) (by omega)]
      rintro _ rfl
      exact HH (fun z => by omega)
