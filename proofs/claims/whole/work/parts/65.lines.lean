/-! Lines that are settled, and rows of lines. -/
/-- a line that holds something -/
def LW (S : Hp) (a n : Int) : Prop := ∃ t P, LI S a n t P
/-- a settled line: numbers 0 .. p - 1, the top one not 0 -/
def LN (S : Hp) (a n p : Int) (P : Int → Int) : Prop := ∃ t, LI S a n t P ∧ (0 ≤ t → P t ≠ 0) ∧ ∀ i, 0 ≤ P i ∧ P i < p
theorem LN.w {S : Hp} {a n p : Int} {P : Int → Int} (h : LN S a n p P) : LW S a n := ⟨_, _, h.choose_spec.1⟩
theorem LN.ln {S : Hp} {a n p : Int} {P : Int → Int} (h : LN S a n p P) : Ln S a n := h.choose_spec.1.1
theorem LW.ln {S : Hp} {a n : Int} (h : LW S a n) : Ln S a n := by
  obtain ⟨t, P, h⟩ := h
  exact h.1
theorem LN.bd {S : Hp} {a n p : Int} {P : Int → Int} (h : LN S a n p P) (i : Int) : 0 ≤ P i ∧ P i < p := h.choose_spec.2.2 i
theorem LN.neg {S : Hp} {a n p : Int} {P : Int → Int} (h : LN S a n p P) (i : Int) (hi : i < 0) : P i = 0 := h.choose_spec.1.2.2.2.2.2.2 i hi
theorem LN.hi {S : Hp} {a n p : Int} {P : Int → Int} (h : LN S a n p P) (i : Int) (hi : n ≤ i) : P i = 0 := by
  obtain ⟨t, h, -⟩ := h
  exact h.2.2.2.2.2.1 i (by have := h.2.2.2.1; omega)
/-- a settled line whose numbers above D are 0 has no higher top -/
theorem LN.deg {S : Hp} {a n p D : Int} {P : Int → Int} (h : LN S a n p P) (hD : ∀ i, D < i → P i = 0) (h1 : -1 ≤ D) : ∃ t, LI S a n t P ∧ (0 ≤ t → P t ≠ 0) ∧ t ≤ D := by
  obtain ⟨t, h, h2, h3⟩ := h
  refine ⟨t, h, h2, ?_⟩
  by_cases ht : t ≤ D
  · exact ht
  · exact absurd (hD t (by omega)) (h2 (by omega))
theorem LW.keep {M : Int → Prop} {S S' : Hp} {a n : Int} (h : LW S a n) (hm : Md M S S') (h1 : ¬ M a) (h2 : ¬ M (a + 1)) : LW S' a n := by
  obtain ⟨t, P, h⟩ := h
  exact ⟨t, P, h.keep hm h1 h2⟩
theorem LN.keep {M : Int → Prop} {S S' : Hp} {a n p : Int} {P : Int → Int} (h : LN S a n p P) (hm : Md M S S') (h1 : ¬ M a) (h2 : ¬ M (a + 1)) : LN S' a n p P := by
  obtain ⟨t, h, h3⟩ := h
  exact ⟨t, h.keep hm h1 h2, h3⟩
theorem LN.congr {S : Hp} {a n p : Int} {P R : Int → Int} (h : LN S a n p P) (hp : ∀ i, P i = R i) : LN S a n p R := by
  have : P = R := funext hp
  rw [← this]
  exact h
theorem n_number {d : Nat} {a i n p : Int} {S : Hp} {P : Int → Int} {Q : Vl → Hp → Prop} (h : LN S a n p P) (H : Q (0, P i) S) : Ev d 39 [(2, a), (0, i)] S Q := by
  obtain ⟨t, h, -⟩ := h
  exact s_number h H
theorem n_zero {d : Nat} {a n p : Int} {S : Hp} {Q : Vl → Hp → Prop} (h : LW S a n) (hp : 0 < p) (H : ∀ S', Md (ML a) S S' → LN S' a n p (fun _ => 0) → Q (3, 0) S') : Ev d 40 [(2, a)] S Q := by
  obtain ⟨t, P, h⟩ := h
  exact s_zero h (fun S' h1 h2 => H S' h1 ⟨-1, h2, fun q => absurd q (by omega), fun _ => ⟨Int.le_refl _, hp⟩⟩)
theorem n_take {d : Nat} {a b n m p : Int} {S : Hp} {R : Int → Int} {Q : Vl → Hp → Prop} (h : LW S a n) (h' : LN S b m p R) (hne : a ≠ b) (hu : ∀ i, n ≤ i → R i = 0) (H : ∀ S', Md (ML a) S S' → LN S' a n p R → Q (3, 0) S') : Ev d 41 [(2, a), (2, b)] S Q := by
  have hn := h.ln.2.2.2.2.1
  obtain ⟨t, P, h⟩ := h
  have hb := h'.bd
  obtain ⟨u, h1, h2, h3⟩ := h'.deg (D := n - 1) (fun i hi => hu i (by omega)) (by omega)
  exact s_take h h1 hne (by omega) (fun S' g1 g2 => H S' g1 ⟨u, g2, h2, hb⟩)
theorem n_settle {d : Nat} {a n t p : Int} {S : Hp} {P : Int → Int} {Q : Vl → Hp → Prop} (h : LI S a n t P) (hp : 0 < p ∧ p < 1000) (H : ∀ S', Md (ML a) S S' → LN S' a n p (fun i => P i % p) → Q (3, 0) S') : Ev d 45 [(2, a), (0, p)] S Q :=
  s_settle h hp.1 hp.2 (fun S' t' h1 h2 h3 _ => H S' h1 ⟨t', h2, h3, fun i => ⟨em_ge hp.1, em_lt hp.1⟩⟩)
theorem n_write {d : Nat} {a i v n p : Int} {S : Hp} {P : Int → Int} {Q : Vl → Hp → Prop} (h : LN S a n p P) (hz : ∀ j, i ≤ j → P j = 0) (hn : i < n) (h0 : 0 ≤ i) (hv : 0 ≤ v ∧ v < p) (H : ∀ S', Md (ML a) S S' → LN S' a n p (fun j => if j = i then v else P j) → Q (3, 0) S') : Ev d 42 [(2, a), (0, i), (0, v)] S Q := by
  have hb := h.bd
  obtain ⟨t, h1, h2, h3⟩ := h.deg (D := i - 1) (fun j hj => hz j (by omega)) (by omega)
  refine s_write h1 (by omega) hn h0 (fun S' g1 g2 => H S' g1 ⟨_, g2, fun q => ?_, fun j => ?_⟩)
  · by_cases hv0 : v = 0
    · rw [if_pos hv0] at q ⊢
      dsimp only
      rw [if_neg (by omega)]
      exact h2 q
    · rw [if_neg hv0]
      dsimp only
      rw [if_pos rfl]
      exact hv0
  · dsimp only
    split
    · exact hv
    · exact hb j
theorem n_valueAt {d : Nat} {a n c p : Int} {S : Hp} {P : Int → Int} {Q : Vl → Hp → Prop} (T : Int) (h : LN S a n p P) (hc : 0 ≤ c ∧ c < p) (hp : 0 < p ∧ p < 1000) (hT : ∀ i, T < i → P i = 0) (hT1 : -1 ≤ T) (H : Q (0, qr p c P T (-1)) S) : Ev d 46 [(2, a), (0, c), (0, p)] S Q := by
  have hb := h.bd
  obtain ⟨t, h1, h2, h3⟩ := h.deg hT hT1
  refine s_valueAt h1 (fun i => by have := hb i; omega) (by omega) hp ?_
  rw [← qr_T h1.2.2.2.2.2.1 h3]
  exact H
theorem n_divideByRoot {d : Nat} {a n c p : Int} {S : Hp} {P : Int → Int} {Q : Vl → Hp → Prop} (T : Int) (h : LN S a n p P) (hc : 0 ≤ c ∧ c < p) (hp : 0 < p ∧ p < 1000) (hT : ∀ i, T < i → P i = 0) (hT1 : -1 ≤ T) (H : ∀ S', Md (ML a) S S' → LN S' a n p (fun i => if i < 0 then 0 else qr p c P T i) → Q (3, 0) S') : Ev d 47 [(2, a), (0, c), (0, p)] S Q := by
  have hb := h.bd
  obtain ⟨t, h1, h2, h3⟩ := h.deg hT hT1
  refine s_divideByRoot h1 (fun i => by have := hb i; omega) (by omega) hp (fun S' g1 g2 => H S' g1 ⟨_, g2.congr (fun i => by rw [qr_T h1.2.2.2.2.2.1 h3]), fun q => ?_, fun i => ?_⟩)
  · by_cases ht : t < 0
    · rw [if_pos ht] at q
      omega
    · rw [if_neg ht] at q ⊢
      dsimp only
      rw [if_neg (by omega), qr_T h1.2.2.2.2.2.1 h3, qr_step (by omega), qr_top (by omega), Int.mul_zero, Int.add_zero, em_id (hb t).1 (hb t).2]
      exact h2 (by omega)
  · dsimp only
    split
    · omega
    · exact qr_bd hp.1 i
theorem n_timesRoot {d : Nat} {a n c p : Int} {S : Hp} {P : Int → Int} {Q : Vl → Hp → Prop} (h : LN S a n p P) (hc : 0 ≤ c ∧ c < p) (hp : 0 < p ∧ p < 1000) (hfit : P (n - 1) = 0) (H : ∀ S', Md (ML a) S S' → LN S' a n p (fun i => (P (i - 1) + (p - c) * P i) % p) → Q (3, 0) S') : Ev d 48 [(2, a), (0, c), (0, p)] S Q := by
  have hb := h.bd
  have hn := h.ln.2.2.2.2.1
  have hhi := h.hi
  obtain ⟨t, h1, h2, h3⟩ := h.deg (D := n - 2) (fun i hi => by
    by_cases q : i = n - 1
    · rw [q]; exact hfit
    · exact hhi i (by omega)) (by omega)
  refine s_timesRoot h1 hb hc hp (by omega) (fun S' g1 g2 => H S' g1 ⟨_, g2, fun q => ?_, fun i => ⟨em_ge hp.1, em_lt hp.1⟩⟩)
  by_cases ht : t < 0
  · rw [if_pos ht] at q
    omega
  · rw [if_neg ht]
    dsimp only
    rw [h1.2.2.2.2.2.1 (t + 1) (by omega), Int.mul_zero, Int.add_zero, show t + 1 - 1 = t by omega, em_id (hb t).1 (hb t).2]
    exact h2 (by omega)
theorem mvN_T {p c T : Int} {P : Int → Int} (hp : 0 < p) (hP : ∀ i, 0 ≤ P i ∧ P i < p) (h0 : 0 ≤ T) : ∀ (k : Nat), (k : Int) ≤ T → mvN p c T k P T = P T
  | 0, _ => rfl
  | k + 1, hk => by
    show mvp p c T k (mvN p c T k P) T = P T
    unfold mvp
    have hb := mvN_bd (c := c) (T := T) hp hP k T
    rw [if_neg (by omega), qr_step (by omega), qr_top (by omega), Int.mul_zero, Int.add_zero, em_id hb.1 hb.2]
    exact mvN_T hp hP h0 k (by omega)
theorem n_moveBy {d : Nat} {a n c p : Int} {S : Hp} {P : Int → Int} {Q : Vl → Hp → Prop} (h : LN S a n p P) (hc : 0 ≤ c ∧ c < 1000) (hp : 0 < p ∧ p < 1000) (H : ∀ S' t, (∀ i, t < i → P i = 0) → -1 ≤ t → t < n → Md (ML a) S S' → LN S' a n p (mvN p c t t.toNat P) → Q (3, 0) S') : Ev d 49 [(2, a), (0, c), (0, p)] S Q := by
  obtain ⟨t, h1, h2, hb⟩ := h
  refine s_moveBy h1 hb hc hp (fun S' g1 g2 => H S' t h1.2.2.2.2.2.1 h1.2.2.1 h1.2.2.2.1 g1 ⟨t, g2, fun q => ?_, mvN_bd hp.1 hb _⟩)
  rw [mvN_T hp.1 hb q _ (by omega)]
  exact h2 q
/-- rows of lines: line i lies at b + 1 + 2 i -/
def LAW (S : Hp) (b c : Int) (N : Int → Int) : Prop := zK S b = 104 ∧ zL S b = c ∧ ∀ i, 0 ≤ i → i < c → zG S b i = b + 1 + 2 * i ∧ LW S (b + 1 + 2 * i) (N i)
def LAN (S : Hp) (b c : Int) (N : Int → Int) (p : Int) (F : Int → Int → Int) : Prop := zK S b = 104 ∧ zL S b = c ∧ ∀ i, 0 ≤ i → i < c → zG S b i = b + 1 + 2 * i ∧ LN S (b + 1 + 2 * i) (N i) p (F i)
/-- the cells of the lines of a row -/
def MA (b c : Int) : Int → Prop := fun x => b < x ∧ x ≤ b + 2 * c
theorem LAN.w {S : Hp} {b c p : Int} {N : Int → Int} {F : Int → Int → Int} (h : LAN S b c N p F) : LAW S b c N := ⟨h.1, h.2.1, fun i h0 h1 => ⟨(h.2.2 i h0 h1).1, (h.2.2 i h0 h1).2.w⟩⟩
theorem LAW.keep {M : Int → Prop} {S S' : Hp} {b c : Int} {N : Int → Int} (h : LAW S b c N) (hm : Md M S S') (hM : ∀ x, b ≤ x → x ≤ b + 2 * c → ¬ M x) (hc : 0 ≤ c) : LAW S' b c N :=
  ⟨by rw [hm.K]; exact h.1, by rw [hm.L]; exact h.2.1, fun i h0 h1 => ⟨by rw [hm.G (hM b (by omega) (by omega))]; exact (h.2.2 i h0 h1).1, (h.2.2 i h0 h1).2.keep hm (hM _ (by omega) (by omega)) (hM _ (by omega) (by omega))⟩⟩
theorem LAN.keep {M : Int → Prop} {S S' : Hp} {b c p : Int} {N : Int → Int} {F : Int → Int → Int} (h : LAN S b c N p F) (hm : Md M S S') (hM : ∀ x, b ≤ x → x ≤ b + 2 * c → ¬ M x) (hc : 0 ≤ c) : LAN S' b c N p F :=
  ⟨by rw [hm.K]; exact h.1, by rw [hm.L]; exact h.2.1, fun i h0 h1 => ⟨by rw [hm.G (hM b (by omega) (by omega))]; exact (h.2.2 i h0 h1).1, (h.2.2 i h0 h1).2.keep hm (hM _ (by omega) (by omega)) (hM _ (by omega) (by omega))⟩⟩
theorem LAN.congr {S : Hp} {b c p : Int} {N : Int → Int} {F G : Int → Int → Int} (h : LAN S b c N p F) (hF : ∀ i, 0 ≤ i → i < c → ∀ j, F i j = G i j) : LAN S b c N p G := ⟨h.1, h.2.1, fun i h0 h1 => ⟨(h.2.2 i h0 h1).1, (h.2.2 i h0 h1).2.congr (hF i h0 h1)⟩⟩
theorem LAW.set {S S' : Hp} {b c i : Int} {N : Int → Int} (h : LAW S b c N) (hm : Md (ML (b + 1 + 2 * i)) S S') (h0 : 0 ≤ i) (h1 : i < c) (hl : LW S' (b + 1 + 2 * i) (N i)) : LAW S' b c N := by
  refine ⟨by rw [hm.K]; exact h.1, by rw [hm.L]; exact h.2.1, fun j j0 j1 => ⟨?_, ?_⟩⟩
  · rw [hm.G (by unfold ML; omega)]
    exact (h.2.2 j j0 j1).1
  · by_cases e : j = i
    · subst e
      exact hl
    · exact (h.2.2 j j0 j1).2.keep hm (by unfold ML; omega) (by unfold ML; omega)
theorem LAN.set {S S' : Hp} {b c i p : Int} {N : Int → Int} {F : Int → Int → Int} {P : Int → Int} (h : LAN S b c N p F) (hm : Md (ML (b + 1 + 2 * i)) S S') (h0 : 0 ≤ i) (h1 : i < c) (hl : LN S' (b + 1 + 2 * i) (N i) p P) : LAN S' b c N p (fun j => if j = i then P else F j) := by
  refine ⟨by rw [hm.K]; exact h.1, by rw [hm.L]; exact h.2.1, fun j j0 j1 => ⟨?_, ?_⟩⟩
  · rw [hm.G (by unfold ML; omega)]
    exact (h.2.2 j j0 j1).1
  · by_cases e : j = i
    · subst e
      dsimp only
      rw [if_pos rfl]
      exact hl
    · dsimp only
      rw [if_neg e]
      exact (h.2.2 j j0 j1).2.keep hm (by unfold ML; omega) (by unfold ML; omega)
theorem LAW.ptr {S : Hp} {b c : Int} {N : Int → Int} (h : LAW S b c N) {i : Int} (h0 : 0 ≤ i) (h1 : i < c) : zG S b i = b + 1 + 2 * i := (h.2.2 i h0 h1).1
theorem LAN.ptr {S : Hp} {b c p : Int} {N : Int → Int} {F : Int → Int → Int} (h : LAN S b c N p F) {i : Int} (h0 : 0 ≤ i) (h1 : i < c) : zG S b i = b + 1 + 2 * i := (h.2.2 i h0 h1).1
theorem LAN.at {S : Hp} {b c p : Int} {N : Int → Int} {F : Int → Int → Int} (h : LAN S b c N p F) {i : Int} (h0 : 0 ≤ i) (h1 : i < c) : LN S (b + 1 + 2 * i) (N i) p (F i) := (h.2.2 i h0 h1).2
theorem s_zeroLines {d : Nat} {b c p : Int} {N : Int → Int} {S : Hp} {Q : Vl → Hp → Prop} (h : LAW S b c N) (hc : 0 ≤ c ∧ c < 1000) (hp : 0 < p) (H : ∀ S', Md (MA b c) S S' → LAN S' b c N p (fun _ _ => 0) → Q (3, 0) S') : Ev (d + 1) 160 [(2, b)] S Q := by
  apply w_Crc_zeroLines_0
  refine loopU (P := fun i S' => At (d + 1) 160 c160_2 [(0, (2, b)), (1, (0, i))] [] S' Q) (I := fun i S' => 0 ≤ i ∧ Md (MA b c) S S' ∧ LAW S' b c N ∧ ∀ j, 0 ≤ j → j < i → LN S' (b + 1 + 2 * j) (N j) p (fun _ => 0)) c ?_ ?_ 0 S (by omega) ⟨by omega, Md.refl _ _, h, fun j j0 j1 => by omega⟩
  · rintro i S1 hi ⟨h0, hm, hw, hz⟩ hk
    apply w_Crc_zeroLines_2
    have hl := (hw.2.2 i h0 hi).2
    refine ⟨hw.1, fun hc => by rw [hw.2.1] at hc; omega, fun _ => ⟨⟨hw.1, h0, by rw [hw.2.1]; exact hi⟩, by rw [hw.ptr h0 hi]; exact hl.ln.1, ?_⟩⟩
    rw [hw.ptr h0 hi]
    refine n_zero hl hp (fun S2 g1 g2 => ⟨rfl, ?_⟩)
    rintro _ rfl
    rw [w32_id (by omega) (by omega)]
    refine hk _ ⟨by omega, hm.tr (g1.wide (fun x hx => by unfold ML at hx; unfold MA; omega)), hw.set g1 h0 hi g2.w, fun j j0 j1 => ?_⟩
    by_cases e : j = i
    · subst e
      exact g2
    · exact (hz j j0 (by omega)).keep g1 (by unfold ML; omega) (by unfold ML; omega)
  · rintro S1 ⟨h0, hm, hw, hz⟩
    apply w_Crc_zeroLines_2
    exact ⟨hw.1, fun _ => H S1 hm ⟨hw.1, hw.2.1, fun i i0 i1 => ⟨hw.ptr i0 i1, hz i i0 i1⟩⟩, fun hc => absurd (by rw [hw.2.1]; omega) hc⟩
