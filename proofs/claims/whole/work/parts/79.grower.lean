/-! Grower: lets the rings over one number grow. First: spreading out, and telling by a basis. -/
def GW (S : Hp) (B A : Int) : Prop := zK S B = 3 ∧ zG S B 0 = B + 1 ∧ zG S B 1 = B + 16 ∧ zG S B 2 = B + 25 ∧ zG S B 3 = B + 34 ∧ zG S B 4 = B + 43 ∧ zG S B 5 = B + 52 ∧ zG S B 6 = B + 61 ∧ zG S B 7 = A ∧ LAW S (B + 16) 4 (fun _ => 128) ∧ LAW S (B + 25) 4 (fun _ => 128) ∧ LAW S (B + 34) 4 (fun _ => 7) ∧ LAW S (B + 43) 4 (fun _ => 21) ∧ LAW S (B + 52) 4 (fun _ => 80) ∧ rowI S (B + 61) 84
def Gu (S : Hp) (B n p : Int) : Prop := zG S B 8 = n ∧ zG S B 9 = p
theorem GW.keep {M : Int → Prop} {S S' : Hp} {B A : Int} (h : GW S B A) (hm : Md M S S') (hM : ∀ x, (x = B ∨ (B + 16 ≤ x ∧ x ≤ B + 60)) → ¬ M x) : GW S' B A := by
  obtain ⟨h1, h2, h3, h4, h5, h6, h7, h8, h9, h10, h11, h12, h13, h14, h15⟩ := h
  have h0 := hM B (by omega)
  exact ⟨by rw [hm.K]; exact h1, by rw [hm.G h0]; exact h2, by rw [hm.G h0]; exact h3, by rw [hm.G h0]; exact h4, by rw [hm.G h0]; exact h5, by rw [hm.G h0]; exact h6, by rw [hm.G h0]; exact h7, by rw [hm.G h0]; exact h8, by rw [hm.G h0]; exact h9, h10.keep hm (fun x x1 x2 => hM x (by omega)) (by omega), h11.keep hm (fun x x1 x2 => hM x (by omega)) (by omega), h12.keep hm (fun x x1 x2 => hM x (by omega)) (by omega), h13.keep hm (fun x x1 x2 => hM x (by omega)) (by omega), h14.keep hm (fun x x1 x2 => hM x (by omega)) (by omega), h15.keep hm⟩
theorem Gu.keep {M : Int → Prop} {S S' : Hp} {B n p : Int} (h : Gu S B n p) (hm : Md M S S') (hM : ¬ M B) : Gu S' B n p := ⟨by rw [hm.G hM]; exact h.1, by rw [hm.G hM]; exact h.2⟩
/-- the lines of one of a grower's rows written -/
theorem GW.r16 {S S' : Hp} {B A : Int} (h : GW S B A) (hm : Md (MA (B + 16) 4) S S') (hl : LAW S' (B + 16) 4 (fun _ => 128)) : GW S' B A := by
  obtain ⟨h1, h2, h3, h4, h5, h6, h7, h8, h9, h10, h11, h12, h13, h14, h15⟩ := h
  have h0 : ¬ MA (B + 16) 4 B := by unfold MA; omega
  exact ⟨by rw [hm.K]; exact h1, by rw [hm.G h0]; exact h2, by rw [hm.G h0]; exact h3, by rw [hm.G h0]; exact h4, by rw [hm.G h0]; exact h5, by rw [hm.G h0]; exact h6, by rw [hm.G h0]; exact h7, by rw [hm.G h0]; exact h8, by rw [hm.G h0]; exact h9, hl, h11.keep hm (fun x x1 x2 => by unfold MA; omega) (by omega), h12.keep hm (fun x x1 x2 => by unfold MA; omega) (by omega), h13.keep hm (fun x x1 x2 => by unfold MA; omega) (by omega), h14.keep hm (fun x x1 x2 => by unfold MA; omega) (by omega), h15.keep hm⟩
theorem GW.r25 {S S' : Hp} {B A : Int} (h : GW S B A) (hm : Md (MA (B + 25) 4) S S') (hl : LAW S' (B + 25) 4 (fun _ => 128)) : GW S' B A := by
  obtain ⟨h1, h2, h3, h4, h5, h6, h7, h8, h9, h10, h11, h12, h13, h14, h15⟩ := h
  have h0 : ¬ MA (B + 25) 4 B := by unfold MA; omega
  exact ⟨by rw [hm.K]; exact h1, by rw [hm.G h0]; exact h2, by rw [hm.G h0]; exact h3, by rw [hm.G h0]; exact h4, by rw [hm.G h0]; exact h5, by rw [hm.G h0]; exact h6, by rw [hm.G h0]; exact h7, by rw [hm.G h0]; exact h8, by rw [hm.G h0]; exact h9, h10.keep hm (fun x x1 x2 => by unfold MA; omega) (by omega), hl, h12.keep hm (fun x x1 x2 => by unfold MA; omega) (by omega), h13.keep hm (fun x x1 x2 => by unfold MA; omega) (by omega), h14.keep hm (fun x x1 x2 => by unfold MA; omega) (by omega), h15.keep hm⟩
theorem GW.r34 {S S' : Hp} {B A : Int} (h : GW S B A) (hm : Md (MA (B + 34) 4) S S') (hl : LAW S' (B + 34) 4 (fun _ => 7)) : GW S' B A := by
  obtain ⟨h1, h2, h3, h4, h5, h6, h7, h8, h9, h10, h11, h12, h13, h14, h15⟩ := h
  have h0 : ¬ MA (B + 34) 4 B := by unfold MA; omega
  exact ⟨by rw [hm.K]; exact h1, by rw [hm.G h0]; exact h2, by rw [hm.G h0]; exact h3, by rw [hm.G h0]; exact h4, by rw [hm.G h0]; exact h5, by rw [hm.G h0]; exact h6, by rw [hm.G h0]; exact h7, by rw [hm.G h0]; exact h8, by rw [hm.G h0]; exact h9, h10.keep hm (fun x x1 x2 => by unfold MA; omega) (by omega), h11.keep hm (fun x x1 x2 => by unfold MA; omega) (by omega), hl, h13.keep hm (fun x x1 x2 => by unfold MA; omega) (by omega), h14.keep hm (fun x x1 x2 => by unfold MA; omega) (by omega), h15.keep hm⟩
theorem GW.r43 {S S' : Hp} {B A : Int} (h : GW S B A) (hm : Md (MA (B + 43) 4) S S') (hl : LAW S' (B + 43) 4 (fun _ => 21)) : GW S' B A := by
  obtain ⟨h1, h2, h3, h4, h5, h6, h7, h8, h9, h10, h11, h12, h13, h14, h15⟩ := h
  have h0 : ¬ MA (B + 43) 4 B := by unfold MA; omega
  exact ⟨by rw [hm.K]; exact h1, by rw [hm.G h0]; exact h2, by rw [hm.G h0]; exact h3, by rw [hm.G h0]; exact h4, by rw [hm.G h0]; exact h5, by rw [hm.G h0]; exact h6, by rw [hm.G h0]; exact h7, by rw [hm.G h0]; exact h8, by rw [hm.G h0]; exact h9, h10.keep hm (fun x x1 x2 => by unfold MA; omega) (by omega), h11.keep hm (fun x x1 x2 => by unfold MA; omega) (by omega), h12.keep hm (fun x x1 x2 => by unfold MA; omega) (by omega), hl, h14.keep hm (fun x x1 x2 => by unfold MA; omega) (by omega), h15.keep hm⟩
theorem GW.r52 {S S' : Hp} {B A : Int} (h : GW S B A) (hm : Md (MA (B + 52) 4) S S') (hl : LAW S' (B + 52) 4 (fun _ => 80)) : GW S' B A := by
  obtain ⟨h1, h2, h3, h4, h5, h6, h7, h8, h9, h10, h11, h12, h13, h14, h15⟩ := h
  have h0 : ¬ MA (B + 52) 4 B := by unfold MA; omega
  exact ⟨by rw [hm.K]; exact h1, by rw [hm.G h0]; exact h2, by rw [hm.G h0]; exact h3, by rw [hm.G h0]; exact h4, by rw [hm.G h0]; exact h5, by rw [hm.G h0]; exact h6, by rw [hm.G h0]; exact h7, by rw [hm.G h0]; exact h8, by rw [hm.G h0]; exact h9, h10.keep hm (fun x x1 x2 => by unfold MA; omega) (by omega), h11.keep hm (fun x x1 x2 => by unfold MA; omega) (by omega), h12.keep hm (fun x x1 x2 => by unfold MA; omega) (by omega), h13.keep hm (fun x x1 x2 => by unfold MA; omega) (by omega), hl, h15.keep hm⟩
/-- a by t^m, t^e at e + 40, without what is above t^u -/
def sprd (n m u : Int) (F : Int → Int → Int) : Int → Int → Int := fun j x => if 0 ≤ j ∧ j < n ∧ x - 40 ≤ u ∧ 0 ≤ x - 40 + m then F j (x - 40 + m) else 0
set_option maxHeartbeats 1000000 in
theorem s_spreadOut {d : Nat} {B A a n p m u D : Int} {N : Int → Int} {S : Hp} {F : Int → Int → Int} {Q : Vl → Hp → Prop} (h : GW S B A) (hu : Gu S B n p) (hn : 2 ≤ n ∧ n ≤ 4) (hp : 2 ≤ p ∧ p ≤ 7) (hm : 0 ≤ m ∧ m ≤ 40) (hu1 : -1 ≤ u ∧ u < 1000) (ha : LAN S a 4 N p F) (hD : ∀ j, 0 ≤ j → j < n → ∀ x, D < x → F j x = 0) (hD1 : -1 ≤ D ∧ D - m + 40 < 128 ∧ D < 200) (d1 : a + 8 < B + 25 ∨ B + 33 < a)
    (H : ∀ S', Md (MA (B + 25) 4) S S' → GW S' B A → LAN S' (B + 25) 4 (fun _ => 128) p (sprd n m u F) → Q (3, 0) S') : Ev (d + 2) 32 [(2, B), (2, a), (0, m), (0, u)] S Q := by
  apply w_Grower_spreadOut_0
  rw [h.2.2.2.1]
  refine ⟨h.1, s_zeroLines (p := p) h.2.2.2.2.2.2.2.2.2.2.1 (by omega) (by omega) (fun S1 m1 z1 => ⟨rfl, ?_⟩)⟩
  refine loopU (P := fun j S' => At (d + 2) 32 c32_10 [(0, (2, B)), (1, (2, a)), (2, (0, m)), (3, (0, u)), (4, (0, j))] [] S' Q) (I := fun j S' => 0 ≤ j ∧ Md (MA (B + 25) 4) S S' ∧ LAN S' (B + 25) 4 (fun _ => 128) p (fun l => if l < j then sprd n m u F l else fun _ => 0)) n ?_ ?_ 0 S1 (by omega) ⟨by omega, m1, z1.congr fun l l0 l1 x => by rw [if_neg (by omega)]⟩
  · rintro j S2 hj ⟨j0, jm, jz⟩ hk
    have nB : ∀ k, zG S2 B k = zG S B k := fun k => jm.G (by unfold MA; omega) k
    apply w_Grower_spreadOut_10
    rw [nB 8, hu.1]
    refine ⟨by rw [jm.K]; exact h.1, fun hc => by omega, fun _ => ?_⟩
    have a2 := ha.keep jm (fun x x1 x2 => by unfold MA; omega) (by omega)
    obtain ⟨t, t1, t2, t3⟩ := (a2.at j0 (show j < 4 by omega)).deg (hD j j0 hj) hD1.1
    have tb := t1.2.2.1
    obtain ⟨e9, he9, he1, he2, he3⟩ : ∃ e9 : Int, 0 ≤ e9 ∧ (t < e9 ∨ u < e9 - m) ∧ (∀ e, 0 ≤ e → e < e9 → e ≤ t ∧ e - m ≤ u) ∧ e9 ≤ max 0 (t + 1) := ⟨max 0 (min (t + 1) (u + m + 1)), by omega, by omega, fun e h1 h2 => by omega, by omega⟩
    refine loopU (P := fun e S' => At (d + 2) 32 c32_22 [(0, (2, B)), (1, (2, a)), (2, (0, m)), (3, (0, u)), (4, (0, j)), (5, (0, e))] [] S' Q) (I := fun e S' => 0 ≤ e ∧ Md (MA (B + 25) 4) S S' ∧ LAN S' (B + 25) 4 (fun _ => 128) p (fun l x => if l < j then sprd n m u F l x else if l = j ∧ 0 ≤ x - 40 + m ∧ x - 40 + m < e then F j (x - 40 + m) else 0)) e9 ?_ ?_ 0 S2 he9 ⟨by omega, jm, jz.congr fun l l0 l1 x => ?_⟩
    · rintro e S3 he ⟨e0, em, ez⟩ hk2
      have a3 := ha.keep em (fun x x1 x2 => by unfold MA; omega) (by omega)
      have l3 := a3.at j0 (show j < 4 by omega)
      have hl3 := t1.keep (M := MA (B + 25) 4) (S' := S3) (S := S2) ⟨by rw [em.1, jm.1], by rw [em.2.1, jm.2.1], fun x i hx => by rw [em.2.2 x i hx, jm.2.2 x i hx]⟩ (by unfold MA; omega) (by unfold MA; omega)
      have hq := he2 e e0 he
      have nB3 : ∀ k, zG S3 B k = zG S B k := fun k => em.G (by unfold MA; omega) k
      apply w_Grower_spreadOut_22
      rw [a3.ptr j0 (by omega), hl3.2.1, nB3 2, h.2.2.2.1, ez.ptr j0 (by omega)]
      simp (disch := omega) only [w32_id]
      refine ⟨⟨a3.1, j0, by rw [a3.2.1]; omega⟩, hl3.1.1, fun hc => by omega, fun _ => ⟨by rw [em.K]; exact h.1, ⟨ez.1, j0, by rw [ez.2.1]; omega⟩, ⟨a3.1, j0, by rw [a3.2.1]; omega⟩, hl3.1.1, n_number l3 ⟨_, rfl, (ez.at j0 (by omega)).ln.1, ?_⟩⟩⟩
      refine n_write (n := 128) (ez.at j0 (show j < 4 by omega)) (fun x hx => ?_) (by omega) (by omega) (l3.bd e) (fun S4 m4 l4 => ⟨rfl, ?_⟩)
      · (try dsimp only)
        rw [if_neg (by omega), if_neg (by omega)]
      · rintro _ rfl
        refine hk2 _ ⟨by omega, em.tr (m4.wide (fun x hx => by unfold ML at hx; unfold MA; omega)), (ez.set m4 j0 (by omega) l4).congr fun l l0 l1 x => ?_⟩
        by_cases q : l = j
        · rw [if_pos q, if_neg (show ¬ l < j by omega)]
          by_cases q2 : x = e - m + 40
          · rw [if_pos q2, if_pos (by omega), show x - 40 + m = e by omega]
          · rw [if_neg q2, if_neg (show ¬ j < j by omega)]
            by_cases q3 : 0 ≤ x - 40 + m ∧ x - 40 + m < e
            · rw [if_pos (by omega), if_pos (by omega)]
            · rw [if_neg (by omega), if_neg (by omega)]
        · rw [if_neg q]
          by_cases q2 : l < j
          · rw [if_pos q2, if_pos q2]
          · rw [if_neg q2, if_neg q2, if_neg (by omega), if_neg (by omega)]
    · rintro S3 ⟨e0, em, ez⟩
      have a3 := ha.keep em (fun x x1 x2 => by unfold MA; omega) (by omega)
      have hl3 := t1.keep (M := MA (B + 25) 4) (S' := S3) (S := S2) ⟨by rw [em.1, jm.1], by rw [em.2.1, jm.2.1], fun x i hx => by rw [em.2.2 x i hx, jm.2.2 x i hx]⟩ (by unfold MA; omega) (by unfold MA; omega)
      apply w_Grower_spreadOut_22
      rw [a3.ptr j0 (by omega), hl3.2.1]
      simp (disch := omega) only [w32_id]
      refine ⟨⟨a3.1, j0, by rw [a3.2.1]; omega⟩, hl3.1.1, fun _ => ?_, fun hc => absurd he1 hc⟩
      apply w_Grower_spreadOut_74
      rintro _ rfl
      rw [w32_id (by omega) (by omega)]
      refine hk _ ⟨by omega, em, ez.congr fun l l0 l1 x => ?_⟩
      by_cases q : l < j
      · rw [if_pos q, if_pos (by omega)]
      · rw [if_neg q]
        by_cases q2 : l = j
        · rw [if_pos (show l < j + 1 by omega)]
          unfold sprd
          rw [q2]
          by_cases q3 : 0 ≤ x - 40 + m ∧ x - 40 + m < e9
          · have := he2 (x - 40 + m) q3.1 q3.2
            rw [if_pos (by omega), if_pos (by omega)]
          · rw [if_neg (by omega)]
            by_cases q4 : 0 ≤ j ∧ j < n ∧ x - 40 ≤ u ∧ 0 ≤ x - 40 + m
            · rw [if_pos q4]
              exact (t1.2.2.2.2.2.1 (x - 40 + m) (by omega)).symm
            · rw [if_neg q4]
        · rw [if_neg (by omega), if_neg (by omega)]
    · by_cases q : l < j
      · rw [if_pos q, if_pos q]
      · rw [if_neg q, if_neg q, if_neg (by omega)]
  · rintro S2 ⟨j0, jm, jz⟩
    have nB : ∀ k, zG S2 B k = zG S B k := fun k => jm.G (by unfold MA; omega) k
    apply w_Grower_spreadOut_10
    rw [nB 8, hu.1]
    refine ⟨by rw [jm.K]; exact h.1, fun _ => H S2 jm (h.r25 jm jz.w) (jz.congr fun l l0 l1 x => ?_), fun hc => absurd (by omega) hc⟩
    by_cases q : l < n
    · rw [if_pos q]
    · rw [if_neg q]
      unfold sprd
      rw [if_neg (by omega)]
