/-! The model: reducesOne. -/
def ds2 (j : Int) (s F : Int → Int → Int) : Int := sm j.toNat (fun a => sm 21 (fun b => s a b * F a b))
theorem ds2_upd {j i e v : Int} {s F : Int → Int → Int} (hi : 0 ≤ i ∧ i < j) (he : 0 ≤ e ∧ e < 21) (hs : s i e = 0) : ds2 j (fun a b => if a = i ∧ b = e then v else s a b) F = ds2 j s F + v * F i e := by
  unfold ds2
  have e1 : ∀ a b, (if a = i ∧ b = e then v else s a b) * F a b = s a b * F a b + (if b = e then (if a = i then v * F a b else 0) else 0) := fun a b => by
    by_cases q : a = i ∧ b = e
    · rw [if_pos q, q.1, q.2, hs, if_pos rfl, if_pos rfl, Int.zero_mul, Int.zero_add]
    · rw [if_neg q]
      by_cases q1 : b = e
      · rw [if_pos q1, if_neg (fun z => q ⟨z, q1⟩), Int.add_zero]
      · rw [if_neg q1, Int.add_zero]
  have e2 : ∀ a, sm 21 (fun b => (if a = i ∧ b = e then v else s a b) * F a b) = sm 21 (fun b => s a b * F a b) + (if a = i then v * F a e else 0) := fun a => by
    rw [sm_congr (fun b _ _ => e1 a b), sm_add, sm_ind (K := 21) (F := fun b => if a = i then v * F a b else 0) (t := e), if_pos (by omega)]
  rw [sm_congr (fun a _ _ => e2 a), sm_add, sm_ind (K := j.toNat) (F := fun a => v * F a e) (t := i), if_pos (by omega)]
theorem ds2_0 {j : Int} {F : Int → Int → Int} : ds2 j (fun _ _ => 0) F = 0 := by
  unfold ds2
  exact sm_zeros (fun a _ _ => sm_zeros (fun b _ _ => Int.zero_mul _))
def rdX (fx : Int → Int → Int → Int) (l m : Int) : Int → Int → Int := fun i e => if l ≤ i ∧ m + e < 21 then fx i l (m + e) else 0
/-- part l of row j as it stands after s was taken off -/
def rdV (p j : Int) (R0 : Int → Int → Int) (fx : Int → Int → Int → Int) (s : Int → Int → Int) (l m : Int) : Int := (R0 l m + (-1) * ds2 j s (rdX fx l m)) % p
theorem rdV_upd {p j i e v : Int} {R0 s : Int → Int → Int} {fx : Int → Int → Int → Int} (hi : 0 ≤ i ∧ i < j) (he : 0 ≤ e ∧ e < 21) (hs : s i e = 0) (l m : Int) : rdV p j R0 fx (fun a b => if a = i ∧ b = e then v else s a b) l m = (rdV p j R0 fx s l m + (-1) * (v * rdX fx l m i e)) % p := by
  unfold rdV
  rw [ds2_upd hi he hs, Int.emod_add_emod, Int.mul_add, Int.add_assoc]
set_option maxHeartbeats 2000000 in
theorem m_reducesOne {d : Nat} {D p K j : Int} {S : Hp} {R0 : Int → Int → Int} {fx : Int → Int → Int → Int} {dp : Int → Int} {Q : Vl → Hp → Prop} (h : DW S D) (hp : zG S D 0 = p) (h2 : 2 ≤ p ∧ p ≤ 7) (hK : 0 ≤ K ∧ K < 20) (hj : 0 ≤ j ∧ j < 4) (hf : ∀ i l m, 0 ≤ i → i < j → 0 ≤ l → l ≤ i → 0 ≤ m → m < 21 → zG S (D + 32) (84 * (4 * K + i) + 21 * l + m) = fx i l m ∧ 0 ≤ fx i l m ∧ fx i l m < p) (hg : ∀ i m, 0 ≤ i → i < j → 0 ≤ m → m < 21 → fx i i m = if m = dp i then 1 else 0) (hdp : ∀ i, 0 ≤ i → i < j → zG S (D + 33) (4 * K + i) = dp i ∧ 0 ≤ dp i ∧ dp i ≤ 20) (hR : ∀ l m, 0 ≤ l → l < j → 0 ≤ m → m < 21 → zG S (D + 32) (84 * (4 * K + j) + 21 * l + m) = R0 l m ∧ 0 ≤ R0 l m ∧ R0 l m < p) (H : ∀ S' s, Md (fun x => x = D + 32) S S' → DW S' D → (∀ x, ¬ (84 * (4 * K + j) ≤ x ∧ x < 84 * (4 * K + j) + 21 * j) → zG S' (D + 32) x = zG S (D + 32) x) → (∀ l m, 0 ≤ l → l < j → 0 ≤ m → m < 21 → zG S' (D + 32) (84 * (4 * K + j) + 21 * l + m) = rdV p j R0 fx s l m) → (∀ i m, 0 ≤ i → i < j → 0 ≤ m → m ≤ dp i → rdV p j R0 fx s i m = 0) → Q (3, 0) S') : Ev (d + 2) 227 [(2, D), (0, K), (0, j)] S Q := by
  obtain ⟨o, ho⟩ : ∃ o, o = 84 * (4 * K + j) := ⟨_, rfl⟩
  rw [← ho] at H hR
  have bV : ∀ s l m, 0 ≤ rdV p j R0 fx s l m ∧ rdV p j R0 fx s l m < p := fun s l m => ⟨em_ge (by omega), em_lt (by omega)⟩
  apply w_Model_reducesOne_0
  rintro _ rfl
  rw [w32_id (by omega) (by omega)]
  refine loopD (P := fun i S' => At (d + 2) 227 c227_4 [(0, (2, D)), (1, (0, K)), (2, (0, j)), (3, (0, i))] [] S' Q) (I := fun i S' => i < j ∧ Md (fun x => x = D + 32) S S' ∧ (∀ x, ¬ (o ≤ x ∧ x < o + 21 * j) → zG S' (D + 32) x = zG S (D + 32) x) ∧ ∃ s, (∀ a e, a ≤ i → s a e = 0) ∧ (∀ l m, 0 ≤ l → l < j → 0 ≤ m → m < 21 → zG S' (D + 32) (o + 21 * l + m) = rdV p j R0 fx s l m) ∧ ∀ a m, i < a → a < j → 0 ≤ m → m ≤ dp a → rdV p j R0 fx s a m = 0) 0 ?_ ?_ (j - 1) S (by omega) ⟨by omega, Md.refl _ _, fun x _ => rfl, fun _ _ => 0, fun a e _ => rfl, fun l m l0 l1 m0 m1 => ?_, fun a m a0 a1 => by omega⟩
  · rintro i S1 hi ⟨ij, m1, o1, s1, z1, v1, n1⟩ hnx
    have w1 : DW S1 D := h.md m1 (by omega)
    have di := hdp i hi ij
    apply w_Model_reducesOne_4
    rw [w1.x_depths.1, w1.x_depths.2.1, w1.x_depths.2.2, w32_id (x := 4 * K) (by omega) (by omega), w32_id (x := 4 * K + i) (by omega) (by omega), m1.G (a := D + 33) (by omega), di.1]
    refine ⟨fun z => by omega, fun _ => ⟨w1.1, ⟨rfl, by omega, by omega⟩, ?_⟩⟩
    intro dd hdd
    subst hdd
    refine loopD (P := fun m S' => At (d + 2) 227 c227_24 [(0, (2, D)), (1, (0, K)), (2, (0, j)), (3, (0, i)), (4, (0, dp i)), (5, (0, m))] [] S' Q) (I := fun m S' => m ≤ dp i ∧ Md (fun x => x = D + 32) S S' ∧ (∀ x, ¬ (o ≤ x ∧ x < o + 21 * j) → zG S' (D + 32) x = zG S (D + 32) x) ∧ ∃ s, (∀ a e, a < i → s a e = 0) ∧ (∀ e, dp i - m ≤ e → s i e = 0) ∧ (∀ l m, 0 ≤ l → l < j → 0 ≤ m → m < 21 → zG S' (D + 32) (o + 21 * l + m) = rdV p j R0 fx s l m) ∧ (∀ a m, i < a → a < j → 0 ≤ m → m ≤ dp a → rdV p j R0 fx s a m = 0) ∧ ∀ u, m < u → u ≤ dp i → rdV p j R0 fx s i u = 0) 0 ?_ ?_ (dp i) S1 (by omega) ⟨by omega, m1, o1, s1, fun a e ha => z1 a e (by omega), fun e _ => z1 i e (by omega), v1, n1, fun u u0 u1 => by omega⟩
    · rintro m S2 hm ⟨md, m2, o2, s2, z2, y2, v2, n2, u2⟩ hk
      have w2 : DW S2 D := h.md m2 (by omega)
      have vm := v2 i m hi ij hm (by omega)
      have bv := bV s2 i m
      have nxt : ∀ S3 s3, Md (fun x => x = D + 32) S S3 → (∀ x, ¬ (o ≤ x ∧ x < o + 21 * j) → zG S3 (D + 32) x = zG S (D + 32) x) → (∀ a e, a < i → s3 a e = 0) → (∀ e, dp i - (m - 1) ≤ e → s3 i e = 0) → (∀ l m, 0 ≤ l → l < j → 0 ≤ m → m < 21 → zG S3 (D + 32) (o + 21 * l + m) = rdV p j R0 fx s3 l m) → (∀ a m, i < a → a < j → 0 ≤ m → m ≤ dp a → rdV p j R0 fx s3 a m = 0) → (∀ u, m - 1 < u → u ≤ dp i → rdV p j R0 fx s3 i u = 0) → At (d + 2) 227 c227_81 [(0, (2, D)), (1, (0, K)), (2, (0, j)), (3, (0, i)), (4, (0, dp i)), (5, (0, m))] [] S3 Q := fun S3 s3 m3 o3 z3 y3 v3 n3 u3 => by
        apply w_Model_reducesOne_81
        rintro _ rfl
        rw [w32_id (by omega) (by omega)]
        exact hk _ ⟨by omega, m3, o3, s3, z3, y3, v3, n3, u3⟩
      apply w_Model_reducesOne_24
      refine ⟨fun z => by omega, fun _ => ⟨w2.1, w2.1, m_digitAt hK hj (by omega) (by omega) ⟨_, rfl, ?_⟩⟩⟩
      rw [w2.x_digits.1, w2.x_digits.2.1, w2.x_digits.2.2, ← ho, vm]
      refine ⟨⟨rfl, by omega, by omega⟩, ?_⟩
      rintro _ rfl
      by_cases vz : rdV p j R0 fx s2 i m = 0
      · apply w_Model_reducesOne_48
        refine ⟨fun _ => nxt S2 s2 m2 o2 z2 (fun e he => y2 e (by omega)) v2 n2 (fun u u0 u1 => ?_), fun z => absurd (Or.inr vz) z⟩
        by_cases q : u = m
        · rw [q, vz]
        · exact u2 u (by omega) u1
      · generalize hvv : rdV p j R0 fx s2 i m = v at *
        -- what is taken off
        have up := fun l u => rdV_upd (p := p) (R0 := R0) (fx := fx) (v := v) (i := i) (e := dp i - m) ⟨hi, ij⟩ (by omega) (y2 _ (Int.le_refl _)) l u
        refine loopU (P := fun l S' => At (d + 2) 227 c227_48 [(0, (2, D)), (1, (0, K)), (2, (0, j)), (3, (0, i)), (4, (0, dp i)), (5, (0, m)), (6, (0, v)), (7, (0, l))] [] S' Q) (I := fun l S' => 0 ≤ l ∧ Md (fun x => x = D + 32) S S' ∧ (∀ x, ¬ (o ≤ x ∧ x < o + 21 * j) → zG S' (D + 32) x = zG S (D + 32) x) ∧ ∀ c u, 0 ≤ c → c < j → 0 ≤ u → u < 21 → zG S' (D + 32) (o + 21 * c + u) = if c < l then rdV p j R0 fx (fun a b => if a = i ∧ b = dp i - m then v else s2 a b) c u else rdV p j R0 fx s2 c u) (i + 1) ?_ ?_ 0 S2 (by omega) ⟨by omega, m2, o2, fun c u c0 c1 u0 u1 => by rw [if_neg (by omega)]; exact v2 c u c0 c1 u0 u1⟩
        · rintro l S3 hl ⟨l0, m3, o3, v3⟩ hk2
          have w3 : DW S3 D := h.md m3 (by omega)
          have fo : ∀ m', 0 ≤ m' → m' < 21 → zG S3 (D + 32) (84 * (4 * K + i) + 21 * l + m') = fx i l m' := fun m' a0 a1 => by
            rw [o3 _ (by omega)]
            exact (hf i l m' hi ij l0 (by omega) a0 a1).1
          apply w_Model_reducesOne_48
          rw [w32_id (x := dp i - m) (by omega) (by omega)]
          refine ⟨fun z => absurd z (by omega), fun _ => ⟨w3.1, ?_⟩⟩
          refine m_takesDigits w3 ((m3.G (by omega) 0).trans hp) h2 hK hj ⟨hi, ij⟩ (by omega) (by omega) bv (fun a m' a0 a1 aa m0' m1' => ?_) ⟨rfl, ?_⟩
          · rcases aa with q | q
            · rw [q, ← ho, v3 l m' l0 (by omega) m0' m1', if_neg (by omega)]
              exact bV _ _ _
            · rw [q, fo m' m0' m1']
              exact (hf i l m' hi ij l0 (by omega) m0' m1').2
          · rw [← ho]
            rintro _ rfl
            rw [w32_id (by omega) (by omega)]
            refine hk2 _ ⟨by omega, m3.tr (Md.zR _ _ _), fun x hx => ?_, fun c u c0 c1 u0 u1 => ?_⟩
            · rw [zG_zR_at, if_neg (by omega)]
              exact o3 x hx
            · rw [zG_zR_at]
              by_cases q : c = l
              · rw [if_pos (show c < l + 1 by omega), q, up]
                by_cases q2 : u < 21 - (dp i - m)
                · rw [if_pos (by omega), v3 l u l0 (by omega) u0 u1, if_neg (by omega), show o + 21 * l + u - (o + 21 * l) + (dp i - m) = u + (dp i - m) by omega, fo _ (by omega) (by omega)]
                  unfold rdX
                  rw [if_pos (by omega)]
                · rw [if_neg (by omega), v3 l u l0 (by omega) u0 u1, if_neg (by omega)]
                  unfold rdX
                  have bb := bV s2 l u
                  rw [if_neg (by omega), Int.mul_zero, Int.mul_zero, Int.add_zero, em_id bb.1 bb.2]
              · rw [if_neg (by omega), v3 c u c0 c1 u0 u1]
                by_cases q2 : c < l
                · rw [if_pos q2, if_pos (by omega)]
                · rw [if_neg q2, if_neg (by omega)]
        · rintro S3 ⟨-, m3, o3, v3⟩
          apply w_Model_reducesOne_48
          refine ⟨fun _ => nxt S3 (fun a b => if a = i ∧ b = dp i - m then v else s2 a b) m3 o3 (fun a e ha => ?_) (fun e he => ?_) (fun c u c0 c1 u0 u1 => ?_) (fun a u a0 a1 u0 u1 => ?_) (fun u u0 u1 => ?_), fun z => absurd (Or.inl (show i < i + 1 by omega)) z⟩
          · rw [if_neg (by omega)]
            exact z2 a e ha
          · rw [if_neg (by omega)]
            exact y2 e (by omega)
          · rw [v3 c u c0 c1 u0 u1]
            by_cases q : c < i + 1
            · rw [if_pos q]
            · rw [if_neg q, up]
              unfold rdX
              have bb := bV s2 c u
              rw [if_neg (by omega), Int.mul_zero, Int.mul_zero, Int.add_zero, em_id bb.1 bb.2]
          · rw [up, n2 a u a0 a1 u0 u1]
            unfold rdX
            rw [if_neg (by omega), Int.mul_zero, Int.mul_zero]
            rfl
          · rw [up]
            unfold rdX
            by_cases q : u = m
            · rw [if_pos (by omega), hg i (u + (dp i - m)) hi ij (by omega) (by omega), if_pos (by omega), q, hvv, Int.mul_one, show v + -1 * v = 0 by omega]
              rfl
            · rw [u2 u (by omega) u1]
              by_cases q2 : i ≤ i ∧ u + (dp i - m) < 21
              · rw [if_pos q2, hg i (u + (dp i - m)) hi ij (by omega) (by omega), if_neg (by omega), Int.mul_zero, Int.mul_zero]
                rfl
              · rw [if_neg q2, Int.mul_zero, Int.mul_zero]
                rfl
    · rintro S2 ⟨-, m2, o2, s2, z2, y2, v2, n2, u2⟩
      apply w_Model_reducesOne_24
      refine ⟨fun _ => ?_, fun z => absurd (show (0 : Int) - 1 < 0 by decide) z⟩
      rintro _ rfl
      rw [w32_id (by omega) (by omega)]
      refine hnx _ ⟨by omega, m2, o2, s2, fun a e ha => z2 a e (by omega), v2, fun a m a0 a1 m0 m1 => ?_⟩
      by_cases q : a = i
      · rw [q]
        exact u2 m (by omega) (by rw [← q]; exact m1)
      · exact n2 a m (by omega) a1 m0 m1
  · rintro S1 ⟨-, m1, o1, s1, z1, v1, n1⟩
    apply w_Model_reducesOne_4
    exact ⟨fun _ => H S1 s1 m1 (h.md m1 (by omega)) o1 v1 (fun i m i0 i1 m0 m1 => n1 i m (by omega) i1 m0 m1), fun z => absurd (show (0 : Int) - 1 < 0 by decide) z⟩
  · have := hR l m l0 l1 m0 m1
    unfold rdV
    rw [ds2_0, Int.mul_zero, Int.add_zero, em_id this.2.1 this.2.2]
    exact this.1
