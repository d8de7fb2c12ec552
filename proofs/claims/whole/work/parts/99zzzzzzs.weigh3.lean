/-! weigh. -/
theorem s_weigh {d : Nat} {S : Hp} {v u p n g s w : Int} {F Δ : Int → Int} {W : Int → Int → Int} {m c : Int} {Q : Vl → Hp → Prop} (cl : CLS S v u p n g F Δ) (n4 : 0 ≤ n ∧ n ≤ 4) (hs : 0 ≤ s ∧ s < 6) (h1 : zG S (343 + 12 * s) 0 = 1) (qn : QN S (343 + 12 * s + 1) 31 p m c W) (H1 : (∀ k, 0 ≤ k → k < 31 * n → wgK w (wgG n W) k) → Q (1, wgS w (wgG n W) (31 * n).toNat) S) (H0 : ¬ (∀ k, 0 ≤ k → k < 31 * n → wgK w (wgG n W) k) → Q (9, 3) S) : Ev (d + 1) 129 [(2, 1), (0, s), (0, w)] S Q := by
  have sw := cl.sw hs.1 hs.2
  apply w_Crc_weigh_0
  refine s_isShelf ⟨_, rfl, fun _ => ?_, fun z => absurd hs (i2 z)⟩
  rw [cl.1.a6, cl.1.p6 s hs.1 hs.2]
  refine ⟨cl.1.1, ⟨cl.1.k68.1, hs.1, by rw [cl.1.k68.2]; exact hs.2⟩, sw.1, fun _ => ⟨cl.1.1, ⟨cl.1.k68.1, hs.1, by rw [cl.1.k68.2]; exact hs.2⟩, sw.1, ?_⟩, fun z => absurd h1 z⟩
  rintro _ rfl
  rw [cl.1.a1, cl.c1, sw.2.1, w32_id (by omega) (by omega)]
  refine ⟨cl.1.1, cl.vw.1, ?_⟩
  rintro _ rfl
  rw [show n - 1 = n - 1 - 0 by omega]
  refine loopU2 (α := Int) (β := Hp) (P := fun t x S' => At (d + 1) 129 c129_66 [(2, (0, w)), (3, (2, 343 + 12 * s + 1)), (4, (1, x)), (6, (0, n - 1 - t)), (1000, (0, 0)), (1001, (0, 0)), (1002, (0, 4)), (1003, (0, 60))] [] S' Q) (I := fun t x S' => S' = S ∧ 0 ≤ t ∧ x = wgS w (wgG n W) (31 * t).toNat ∧ ∀ k, 0 ≤ k → k < 31 * t → wgK w (wgG n W) k) n ?_ ?_ 0 0 S n4.1 ⟨rfl, by omega, rfl, fun k k0 k1 => by omega⟩
  · rintro t x S1 ht ⟨e1, t0, hx, hk⟩ next
    subst e1
    apply w_Crc_weigh_66
    refine ⟨fun z => by omega, fun _ => ?_⟩
    refine loopU2 (α := Int) (β := Hp) (P := fun e x S' => At (d + 1) 129 c129_75 [(2, (0, w)), (3, (2, 343 + 12 * s + 1)), (4, (1, x)), (6, (0, n - 1 - t)), (7, (0, 30 - e)), (1000, (0, 0)), (1001, (0, 0)), (1002, (0, 4)), (1003, (0, 60))] [] S' Q) (I := fun e x S' => S' = S1 ∧ 0 ≤ e ∧ x = wgS w (wgG n W) (31 * t + e).toNat ∧ ∀ k, 0 ≤ k → k < 31 * t + e → wgK w (wgG n W) k) 31 ?_ ?_ 0 x S1 (by omega) ⟨rfl, by omega, by rw [hx, show 31 * t + 0 = 31 * t by omega], fun k k0 k1 => hk k k0 (by omega)⟩
    · rintro e x S2 he ⟨e2, e0, hx, hk⟩ next2
      subst e2
      have lan := qn.2.2.2.2
      have ln := lan.at (i := n - 1 - t) (by omega) (by omega)
      apply w_Crc_weigh_75
      rw [qn.2.1, lan.ptr (show 0 ≤ n - 1 - t by omega) (by omega)]
      refine ⟨fun z => by omega, fun _ => ⟨qn.1, ⟨lan.1, by omega, by rw [lan.2.1]; omega⟩, ln.ln.1, n_number ln ⟨_, rfl, ?_⟩⟩⟩
      have gk : wgG n W (31 * t + e) = W (n - 1 - t) (30 - e) := by
        unfold wgG
        rw [show (31 * n - 1 - (31 * t + e)) / 31 = n - 1 - t by omega, show (31 * n - 1 - (31 * t + e)) % 31 = 30 - e by omega]
      have st : wgS w (wgG n W) (31 * t + (e + 1)).toNat = w64 (w64 (x * w) + W (n - 1 - t) (30 - e)) := by
        rw [show (31 * t + (e + 1)).toNat = (31 * t + e).toNat + 1 by omega, hx]
        show w64 (w64 (wgS w (wgG n W) (31 * t + e).toNat * w) + wgG n W (((31 * t + e).toNat : Nat) : Int)) = _
        rw [show (((31 * t + e).toNat : Nat) : Int) = 31 * t + e by omega, gk]
      have kk : wgK w (wgG n W) (31 * t + e) ↔ lgB x w ∧ ¬ 0 < lCmp (w64 (x * w)) (w64 (9223372036854775807 - W (n - 1 - t) (30 - e))) := by
        unfold wgK
        rw [← hx, gk]
      have bad : ¬ (lgB x w ∧ ¬ 0 < lCmp (w64 (x * w)) (w64 (9223372036854775807 - W (n - 1 - t) (30 - e)))) → Q (9, 3) S2 := fun z => H0 (fun all => z (kk.mp (all (31 * t + e) (by omega) (by omega))))
      refine s_productIsLong (fun lg => ⟨_, rfl, fun z => ⟨by omega, bad (fun y => ?_)⟩, fun z => ?_⟩) (fun nlg => ⟨_, rfl, fun _ => ⟨by omega, bad (fun y => nlg y.1)⟩, fun z => absurd (Or.inl rfl) z⟩)
      · rcases z with z | z
        · omega
        · exact y.2 (by omega)
      · rintro _ rfl
        rintro _ rfl
        rw [w32_id (by omega) (by omega), show 30 - e + -1 = 30 - (e + 1) by omega, ← st]
        refine next2 _ S2 ⟨rfl, by omega, rfl, fun k k0 k1 => ?_⟩
        by_cases q : k = 31 * t + e
        · rw [q]
          exact kk.mpr ⟨lg, fun y => z (Or.inr (by omega))⟩
        · exact hk k k0 (by omega)
    · rintro x S2 ⟨e2, -, hx, hk⟩
      subst e2
      apply w_Crc_weigh_75
      refine ⟨fun _ => ?_, fun z => absurd (by omega) z⟩
      rintro _ rfl
      rw [w32_id (by omega) (by omega), show n - 1 - t + -1 = n - 1 - (t + 1) by omega]
      exact next _ S2 ⟨rfl, by omega, by rw [hx, show 31 * t + 31 = 31 * (t + 1) by omega], fun k k0 k1 => hk k k0 (by omega)⟩
  · rintro x S1 ⟨e1, -, hx, hk⟩
    subst e1
    apply w_Crc_weigh_66
    refine ⟨fun _ => ?_, fun z => absurd (by omega) z⟩
    rw [hx]
    exact H1 hk
theorem x_weigh {S : Hp} {s w : Int} (R : Rel S 485) : ∃ t y, (∀ d, Ev (d + 20) 129 [(2, 1), (0, s), (0, w)] S (fun r S1 => S1 = S ∧ ((t = 0 ∧ r = (1, y)) ∨ (t ≠ 0 ∧ r = (9, t))))) ∧ ∀ d T, OUTX S T → Ev (d + 20) 269 [(2, 485), (0, s), (0, w)] T (fun r S' => S' = zS T 485 5 t ∧ (∃ x, r = (1, x) ∧ (t = 0 → x = y))) := by
  obtain ⟨v, u, p, n, g, F, Δ, kn, cl, md, re⟩ := R
  have sh := re.2.1
  have n4 := kn.n4
  have dw : ∀ T, OUTX S T → DW T 485 := fun T o => ⟨(o.1 _).trans md.1.1, fun j hj => ⟨(o.2.2 _ _ (by omega)).trans (md.1.2 j hj).1, (o.1 _).trans (md.1.2 j hj).2.1, (o.2.1 _).trans (md.1.2 j hj).2.2⟩⟩
  have hN : ∀ T, OUTX S T → zG T 485 1 = n := fun T o => (o.2.2 _ _ (by omega)).trans md.2.2.1
  by_cases hs : 0 ≤ s ∧ s < 6
  · obtain ⟨a1, a2, a3, a4, a5, a6, a7, a8⟩ := sh s hs.1 hs.2
    have sw := cl.sw hs.1 hs.2
    by_cases q : zG S (485 + 3) s = 1
    · obtain ⟨n0, W, el⟩ := a8 q
      have hW : ∀ T, OUTX S T → 0 ≤ s ∧ s < 6 → zG T (485 + 3) s = 1 → ∀ j i, 0 ≤ j → j < n → 0 ≤ i → i < 31 → zG T (485 + 4) (124 * s + 31 * j + i) = W j i := fun T o _ _ j i j0 j1 i0 i1 => (o.2.2 _ _ (by omega)).trans (el.2.1.1 j i j0 (by omega) i0 i1)
      by_cases all : ∀ k, 0 ≤ k → k < 31 * n → wgK w (wgG n W) k
      · refine ⟨0, wgS w (wgG n W) (31 * n).toNat, fun d => ?_, fun d T o => ?_⟩
        · exact s_weigh cl n4 hs (a1.trans q) el.1 (fun _ => ⟨rfl, Or.inl ⟨rfl, rfl⟩⟩) (fun z => absurd all z)
        · have g3 := o.2.2 (485 + 3) s (by omega)
          exact m_weigh (W := W) (dw T o) (hN T o) n4 (hW T o) (fun z => absurd hs z) (fun _ z => absurd (g3.trans q) z) (fun _ _ z => absurd all z) (fun _ _ _ => ⟨rfl, _, rfl, fun _ => rfl⟩)
      · refine ⟨3, 0, fun d => ?_, fun d T o => ?_⟩
        · exact s_weigh cl n4 hs (a1.trans q) el.1 (fun z => absurd z all) (fun _ => ⟨rfl, Or.inr ⟨by decide, rfl⟩⟩)
        · have g3 := o.2.2 (485 + 3) s (by omega)
          exact m_weigh (W := W) (dw T o) (hN T o) n4 (hW T o) (fun z => absurd hs z) (fun _ z => absurd (g3.trans q) z) (fun _ _ _ => ⟨rfl, _, rfl, fun z => absurd z (by decide)⟩) (fun _ _ z => absurd z all)
    · refine ⟨2, 0, fun d => ?_, fun d T o => ?_⟩
      · apply w_Crc_weigh_0
        refine s_isShelf ⟨_, rfl, fun _ => ?_, fun z => absurd hs (i2 z)⟩
        rw [cl.1.a6, cl.1.p6 s hs.1 hs.2, a1]
        exact ⟨cl.1.1, ⟨cl.1.k68.1, hs.1, by rw [cl.1.k68.2]; exact hs.2⟩, sw.1, fun z => absurd z q, fun _ => ⟨by omega, rfl, Or.inr ⟨by decide, rfl⟩⟩⟩
      · have g3 := o.2.2 (485 + 3) s (by omega)
        exact m_weigh (W := fun _ _ => 0) (dw T o) (hN T o) n4 (fun _ z => absurd (g3.symm.trans z) q) (fun z => absurd hs z) (fun _ _ => ⟨rfl, _, rfl, fun z => absurd z (by decide)⟩) (fun _ z => absurd (g3.symm.trans z) q) (fun _ z => absurd (g3.symm.trans z) q)
  · refine ⟨1, 0, fun d => ?_, fun d T o => ?_⟩
    · apply w_Crc_weigh_0
      exact s_isShelf ⟨_, rfl, fun z => absurd (i1 z) hs, fun _ => ⟨by omega, rfl, Or.inr ⟨by decide, rfl⟩⟩⟩
    · exact m_weigh (W := fun _ _ => 0) (dw T o) (hN T o) n4 (fun z => absurd z hs) (fun _ => ⟨rfl, _, rfl, fun z => absurd z (by decide)⟩) (fun z => absurd z hs) (fun z => absurd z hs) (fun z => absurd z hs)
