/-! The model: grows. -/
/-- all digits above the diagonal are 0 -/
def TRI (S : Hp) (D : Int) : Prop := ∀ K j i m, 0 ≤ K → K < 20 → 0 ≤ j → j < i → i < 4 → 0 ≤ m → m < 21 → zG S (D + 32) (84 * (4 * K + j) + 21 * i + m) = 0
/-- row j of the next ring, as it comes of the old one and of those before it -/
def NX1 (p j g : Int) (fig : Int → Int → Int → Int) (dp : Int → Int) (f' : Int → Int → Int → Int) (dp' : Int → Int) : Prop := dp' j = dp j + gbF g ∧ (∀ m, 0 ≤ m → m < 21 → f' j j m = if m = dp' j then 1 else 0) ∧ (∀ i m, 0 ≤ i → i < j → 0 ≤ m → m ≤ dp' i → f' j i m = 0) ∧ (∀ i m, j < i → i < 4 → 0 ≤ m → m < 21 → f' j i m = 0) ∧ (∀ i m, 0 ≤ i → i < 4 → 0 ≤ m → m < 21 → 0 ≤ f' j i m ∧ f' j i m < p) ∧ ∃ s, ∀ l m, 0 ≤ l → l < j → 0 ≤ m → m < 21 → f' j l m = rdV p j (fun l m => gwV p (gbF g) (gcF p g j) fig (j + 1) l m) f' s l m
theorem rdX_congr {j : Int} {f f' : Int → Int → Int → Int} (hf : ∀ i l m, 0 ≤ i → i < j → 0 ≤ l → l ≤ i → 0 ≤ m → m < 21 → f i l m = f' i l m) {s : Int → Int → Int} (l m : Int) (l0 : 0 ≤ l) (m0 : 0 ≤ m) : ds2 j s (rdX f l m) = ds2 j s (rdX f' l m) := by
  unfold ds2
  refine sm_congr (fun a a0 a1 => sm_congr (fun b b0 b1 => ?_))
  unfold rdX
  by_cases q : l ≤ a ∧ m + b < 21
  · rw [if_pos q, if_pos q, hf a l (m + b) a0 (by omega) l0 q.1 (by omega) q.2]
  · rw [if_neg q, if_neg q]
theorem NX1.congr {p j g : Int} {fig f f' : Int → Int → Int → Int} {dp d d' : Int → Int} (h : NX1 p j g fig dp f d) (j0 : 0 ≤ j) (j4 : j < 4) (hf : ∀ a i m, 0 ≤ a → a ≤ j → 0 ≤ i → i < 4 → 0 ≤ m → m < 21 → f a i m = f' a i m) (hd : ∀ a, 0 ≤ a → a ≤ j → d a = d' a) (hb : ∀ a, 0 ≤ a → a ≤ j → d a ≤ 20) : NX1 p j g fig dp f' d' := by
  obtain ⟨h1, h2, h3, h4, h5, s, h6⟩ := h
  refine ⟨by rw [← hd j j0 (by omega)]; exact h1, fun m m0 m1 => ?_, fun i m i0 i1 m0 m1 => ?_, fun i m i0 i1 m0 m1 => ?_, fun i m i0 i1 m0 m1 => ?_, s, fun l m l0 l1 m0 m1 => ?_⟩
  · rw [← hf j j m j0 (by omega) j0 j4 m0 m1, ← hd j j0 (by omega)]
    exact h2 m m0 m1
  · have := hb i i0 (by omega)
    rw [← hd i i0 (by omega)] at m1
    rw [← hf j i m j0 (by omega) i0 (by omega) m0 (by omega)]
    exact h3 i m i0 i1 m0 m1
  · rw [← hf j i m j0 (by omega) (by omega) i1 m0 m1]
    exact h4 i m i0 i1 m0 m1
  · rw [← hf j i m j0 (by omega) i0 i1 m0 m1]
    exact h5 i m i0 i1 m0 m1
  · rw [← hf j l m j0 (by omega) l0 (by omega) m0 m1, h6 l m l0 l1 m0 m1]
    unfold rdV
    rw [rdX_congr (f' := f') (fun i l m i0 i1 l0 l1 m0 m1 => hf i l m i0 (by omega) l0 (by omega) m0 m1) l m l0 m0]
theorem gw_diag {p b m j : Int} {c : Int → Int} {fig : Int → Int → Int → Int} (j0 : 0 ≤ j) (hc : c j = 1) : gwS b c fig (j + 1) j m = if 0 ≤ m - b then fig j j (m - b) else 0 := by
  rw [gwS_step j0]
  have e : gwS b c fig j j m = 0 := by
    unfold gwS
    exact sm_zeros (fun l l0 l1 => if_neg (by omega))
  rw [e, Int.zero_add, hc, Int.one_mul]
  by_cases q : 0 ≤ m - b
  · rw [if_pos ⟨Int.le_refl j, q⟩, if_pos q]
  · rw [if_neg (fun z => q z.2), if_neg q]
theorem gw_above {b m j i : Int} {c : Int → Int} {fig : Int → Int → Int → Int} (h : j < i) : gwS b c fig (j + 1) i m = 0 := by
  unfold gwS
  exact sm_zeros (fun l l0 l1 => if_neg (by omega))
theorem gcF_top {p g j : Int} (h2 : 2 ≤ p ∧ p ≤ 7) (hj : 0 ≤ j ∧ j < 4) (hg : g = -1 ∨ (pwI p j.toNat ≤ g ∧ g < 2 * pwI p j.toNat)) : gcF p g j j = 1 := by
  unfold gcF
  have b := pwI_bd h2 j.toNat (by omega)
  rcases hg with q | q
  · rw [if_neg (by omega), if_pos rfl]
  · rw [if_pos (by omega)]
    unfold dgt
    have e : g / pwI p j.toNat = 1 := by
      have := blk_div (w := pwI p j.toNat) (b := 1) (y := g - pwI p j.toNat) (by omega) (by omega)
      rw [show pwI p j.toNat * 1 + (g - pwI p j.toNat) = g by omega] at this
      exact this.1
    rw [e, em_id (by omega) (by omega)]
set_option maxHeartbeats 2000000 in
theorem m_grows {d : Nat} {D p n k : Int} {S : Hp} {fig : Int → Int → Int → Int} {dp : Int → Int} {Q : Vl → Hp → Prop} (h : DW S D) (hp : zG S D 0 = p) (h2 : 2 ≤ p ∧ p ≤ 7) (hN : zG S D 1 = n) (hn : 2 ≤ n ∧ n ≤ 4) (hk : 0 ≤ k ∧ k < 19) (hd : DG S D k n p fig dp) (hr : RDC n fig dp) (hT : TRI S D) (hg : ∀ j, 0 ≤ j → j < n → zG S (D + 40) j = -1 ∨ (pwI p j.toNat ≤ zG S (D + 40) j ∧ zG S (D + 40) j < 2 * pwI p j.toNat)) (hgood : ∀ j, 0 ≤ j → j < n → dp j + gbF (zG S (D + 40) j) ≤ 20) (H : ∀ S' f' dp', Md (fun x => x = D + 32 ∨ x = D + 33) S S' → DW S' D → TRI S' D → (∀ x, ¬ (336 * (k + 1) ≤ x ∧ x < 336 * (k + 2)) → zG S' (D + 32) x = zG S (D + 32) x) → (∀ x, ¬ (4 * (k + 1) ≤ x ∧ x < 4 * (k + 2)) → zG S' (D + 33) x = zG S (D + 33) x) → DG S' D (k + 1) n p f' dp' → (∀ j, 0 ≤ j → j < n → NX1 p j (zG S (D + 40) j) fig dp f' dp') → Q (3, 0) S') : Ev (d + 3) 229 [(2, D), (0, k)] S Q := by
  apply w_Model_grows_0
  have gb01 : ∀ g, 0 ≤ gbF g ∧ gbF g ≤ 1 := fun g => by
    unfold gbF
    split <;> omega
  refine loopU2 (α := Int → Int → Int → Int) (β := Hp) (P := fun j _ S' => At (d + 3) 229 c229_2 [(0, (2, D)), (1, (0, k)), (2, (0, j))] [] S' Q) (I := fun j f S' => 0 ≤ j ∧ Md (fun x => x = D + 32 ∨ x = D + 33) S S' ∧ TRI S' D ∧ (∀ x, ¬ (336 * (k + 1) ≤ x ∧ x < 336 * (k + 2)) → zG S' (D + 32) x = zG S (D + 32) x) ∧ (∀ x, ¬ (4 * (k + 1) ≤ x ∧ x < 4 * (k + 2)) → zG S' (D + 33) x = zG S (D + 33) x) ∧ (∀ a i m, 0 ≤ a → a < j → 0 ≤ i → i < 4 → 0 ≤ m → m < 21 → zG S' (D + 32) (84 * (4 * (k + 1) + a) + 21 * i + m) = f a i m) ∧ (∀ a, 0 ≤ a → a < j → zG S' (D + 33) (4 * (k + 1) + a) = dp a + gbF (zG S (D + 40) a)) ∧ ∀ a, 0 ≤ a → a < j → NX1 p a (zG S (D + 40) a) fig dp f (fun a => dp a + gbF (zG S (D + 40) a))) n ?_ ?_ 0 (fun _ _ _ => 0) S (by omega) ⟨by omega, Md.refl _ _, hT, fun x _ => rfl, fun x _ => rfl, fun a i m a0 a1 => by omega, fun a a0 a1 => by omega, fun a a0 a1 => by omega⟩
  · rintro j f S1 hj ⟨j0, m1, T1, o1, q1, v1, e1, n1⟩ hnx
    have w1 : DW S1 D := h.md m1 (by omega)
    have p1 : zG S1 D 0 = p := (m1.G (by omega) 0).trans hp
    have d1 : DG S1 D k n p fig dp := ⟨fun l i m l0 l1 i0 i1 m0 m1' => by rw [o1 _ (by omega)]; exact hd.1 l i m l0 l1 i0 i1 m0 m1', fun l l0 l1 => by rw [q1 _ (by omega)]; exact hd.2 l l0 l1⟩
    have gj := hg j j0 hj
    have pj := pwI_bd h2 j.toNat (by omega)
    have dj := hr.1 j j0 hj
    have good := hgood j j0 hj
    have g1 : zG S1 (D + 40) j = zG S (D + 40) j := m1.G (by omega) j
    obtain ⟨g, hgg⟩ : ∃ g, g = zG S (D + 40) j := ⟨_, rfl⟩
    rw [← hgg] at gj good g1
    have gbb := gb01 g
    apply w_Model_grows_2
    rw [(m1.G (a := D) (by omega) 1).trans hN]
    refine ⟨w1.1, fun z => by omega, fun _ => ⟨w1.1, m_growsOne (g := g) w1 p1 h2 ((m1.G (by omega) 1).trans hN) hn hk ⟨j0, hj⟩ d1 (by omega) g1 (by omega) (fun S2 m2 w2 a2 b2 c2 x2 => ⟨rfl, w2.1, ?_⟩)⟩⟩
    rw [w32_id (x := k + 1) (by omega) (by omega)]
    have e2 : ∀ a, 0 ≤ a → a < j → zG S2 (D + 33) (4 * (k + 1) + a) = dp a + gbF (zG S (D + 40) a) := fun a a0 a1 => by
      rw [a2 _ (by omega)]
      exact e1 a a0 a1
    have v2 : ∀ a i m, 0 ≤ a → a < j → 0 ≤ i → i < 4 → 0 ≤ m → m < 21 → zG S2 (D + 32) (84 * (4 * (k + 1) + a) + 21 * i + m) = f a i m := fun a i m a0 a1 i0 i1 m0 m1' => by
      rw [x2 _ (by omega)]
      exact v1 a i m a0 a1 i0 i1 m0 m1'
    refine m_reducesOne (K := k + 1) (j := j) (R0 := fun l m => gwV p (gbF g) (gcF p g j) fig (j + 1) l m) (fx := f) (dp := fun a => dp a + gbF (zG S (D + 40) a)) w2 ((m2.G (by omega) 0).trans p1) h2 (by omega) (by omega) (fun i l m i0 i1 l0 l1 m0 m1' => ⟨v2 i l m i0 i1 l0 (by omega) m0 m1', (n1 i i0 i1).2.2.2.2.1 l m l0 (by omega) m0 m1'⟩) (fun i m i0 i1 m0 m1' => (n1 i i0 i1).2.1 m m0 m1') (fun i i0 i1 => ⟨e2 i i0 i1, by have := hr.1 i i0 (by omega); have := gb01 (zG S (D + 40) i); (try dsimp only); omega, hgood i i0 (by omega)⟩) (fun l m l0 l1 m0 m1' => ⟨c2 l m l0 (by omega) m0 m1', gwV_bd h2.1⟩) (fun S3 s m3 w3 x3 r3 z3 => ⟨rfl, ?_⟩)
    rintro _ rfl
    rw [w32_id (by omega) (by omega)]
    -- the new row
    obtain ⟨F, hF⟩ : ∃ F : Int → Int → Int → Int, F = fun a i m => if a = j then zG S3 (D + 32) (84 * (4 * (k + 1) + j) + 21 * i + m) else f a i m := ⟨_, rfl⟩
    have Fj : ∀ i m, F j i m = zG S3 (D + 32) (84 * (4 * (k + 1) + j) + 21 * i + m) := fun i m => by rw [hF]; exact if_pos rfl
    have Fo : ∀ a i m, a ≠ j → F a i m = f a i m := fun a i m ha => by rw [hF]; exact if_neg ha
    have up : ∀ i m, j ≤ i → i < 4 → 0 ≤ m → m < 21 → F j i m = zG S2 (D + 32) (84 * (4 * (k + 1) + j) + 21 * i + m) := fun i m i0 i1 m0 m1' => by
      rw [Fj, x3 _ (by omega)]
    have hi0 : ∀ i m, j < i → i < 4 → 0 ≤ m → m < 21 → F j i m = 0 := fun i m i0 i1 m0 m1' => by
      rw [up i m (by omega) i1 m0 m1']
      rcases Int.lt_or_le i n with q | q
      · rw [c2 i m (by omega) q m0 m1']
        unfold gwV
        rw [gw_above i0]
        rfl
      · rw [x2 _ (by omega)]
        exact T1 (k + 1) j i m (by omega) (by omega) j0 i0 i1 m0 m1'
    have Fd : ∀ m, 0 ≤ m → m < 21 → F j j m = if m = dp j + gbF (zG S (D + 40) j) then 1 else 0 := fun m m0 m1' => by
      rw [up j m (by omega) (by omega) m0 m1', c2 j m j0 hj m0 m1', ← hgg]
      unfold gwV
      rw [gw_diag (p := p) j0 (gcF_top h2 (by omega) gj)]
      by_cases q : 0 ≤ m - gbF g
      · rw [if_pos q, hr.2.1 j (m - gbF g) j0 hj q (by omega)]
        by_cases q2 : m = dp j + gbF g
        · rw [if_pos (by omega), if_pos q2, em_id (by omega) (by omega)]
        · rw [if_neg (by omega), if_neg q2]
          rfl
      · rw [if_neg q, if_neg (by omega)]
        rfl
    have Fl : ∀ l m, 0 ≤ l → l < j → 0 ≤ m → m < 21 → F j l m = rdV p j (fun l m => gwV p (gbF g) (gcF p g j) fig (j + 1) l m) f s l m := fun l m l0 l1 m0 m1' => by
      rw [Fj]
      exact r3 l m l0 l1 m0 m1'
    have dle : ∀ a, 0 ≤ a → a < j → dp a + gbF (zG S (D + 40) a) ≤ 20 := fun a a0 a1 => hgood a a0 (by omega)
    have M3 : Md (fun x => x = D + 32 ∨ x = D + 33) S S3 := (m1.tr m2).tr (m3.wide (fun x hx => Or.inl hx))
    refine hnx F S3 ⟨by omega, M3, fun K a i m K0 K1 a0 ai i1 m0 m1' => ?_, fun x hx => ?_, fun x hx => ?_, fun a i m a0 a1 i0 i1 m0 m1' => ?_, fun a a0 a1 => ?_, fun a a0 a1 => ?_⟩
    · by_cases q : K = k + 1 ∧ a = j
      · have := hi0 i m (by omega) i1 m0 m1'
        rw [Fj] at this
        rw [q.1, q.2]
        exact this
      · rw [x3 _ (by omega), x2 _ (by omega)]
        exact T1 K a i m K0 K1 a0 ai i1 m0 m1'
    · rw [x3 _ (by omega), x2 _ (by omega)]
      exact o1 x hx
    · rw [m3.G (by omega), a2 _ (by omega)]
      exact q1 x hx
    · by_cases q : a = j
      · rw [q, Fj]
      · rw [Fo a i m q, x3 _ (by omega)]
        exact v2 a i m a0 (by omega) i0 i1 m0 m1'
    · rw [m3.G (by omega)]
      by_cases q : a = j
      · rw [q, b2, hgg]
      · exact e2 a a0 (by omega)
    · by_cases q : a = j
      · subst q
        rw [← hgg]
        refine ⟨by (try dsimp only); rw [hgg], Fd, fun i m i0 i1 m0 m1' => ?_, fun i m i0 i1 m0 m1' => hi0 i m i0 i1 m0 m1', fun i m i0 i1 m0 m1' => ?_, s, fun l m l0 l1 m0 m1' => ?_⟩
        · have := dle i i0 i1
          rw [Fl i m i0 i1 m0 (by (try dsimp only at m1'); omega)]
          exact z3 i m i0 i1 m0 m1'
        · rcases Int.lt_or_le i a with y | y
          · rw [Fl i m i0 y m0 m1']
            exact ⟨em_ge (by omega), em_lt (by omega)⟩
          · by_cases y2 : i = a
            · rw [y2, Fd m m0 m1']
              split <;> omega
            · rw [hi0 i m (by omega) i1 m0 m1']
              omega
        · rw [Fl l m l0 l1 m0 m1']
          unfold rdV
          rw [rdX_congr (f' := F) (fun i l m i0 i1 l0 l1 m0 m1' => (Fo i l m (by omega)).symm) l m l0 m0]
      · exact (n1 a a0 (by omega)).congr a0 (by omega) (fun c i m c0 c1 i0 i1 m0 m1' => (Fo c i m (by omega)).symm) (fun c c0 c1 => rfl) (fun c c0 c1 => dle c c0 (by omega))
  · rintro f S1 ⟨-, m1, T1, o1, q1, v1, e1, n1⟩
    apply w_Model_grows_2
    rw [(m1.G (a := D) (by omega) 1).trans hN]
    refine ⟨by rw [m1.K]; exact h.1, fun _ => H S1 f (fun a => dp a + gbF (zG S (D + 40) a)) m1 (h.md m1 (by omega)) T1 o1 q1 ⟨fun l i m l0 l1 i0 i1 m0 m1' => ⟨v1 l i m l0 l1 i0 i1 m0 m1', (n1 l l0 l1).2.2.2.2.1 i m i0 i1 m0 m1'⟩, e1⟩ n1, fun z => absurd (Int.le_refl n) z⟩
