/-! Calls that only read shelves and book: count, at, as, place, find. -/
theorem CLS.sw {S : Hp} {v u p n g : Int} {F Δ : Int → Int} (cl : CLS S v u p n g F Δ) {s : Int} (s0 : 0 ≤ s) (s1 : s < 6) : SW S (343 + 12 * s) := cl.2.1.2.2.2.2.2.2.2.2.2.2.2.1 s s0 s1
theorem CLS.bw {S : Hp} {v u p n g : Int} {F Δ : Int → Int} (cl : CLS S v u p n g F Δ) {k : Int} (k0 : 0 ≤ k) (k1 : k < 7) : QW S (415 + 10 * k) 31 := cl.2.1.2.2.2.2.2.2.2.2.2.2.2.2 k k0 k1
theorem CLS.rd {S : Hp} {v u p n g : Int} {F Δ : Int → Int} (cl : CLS S v u p n g F Δ) : RDW S 2 := cl.2.1.1
theorem s_refusal {d : Nat} {S : Hp} {D v u p n g s x : Int} {F Δ : Int → Int} {f : Prop} [Decidable f] {Q : Vl → Hp → Prop} (cl : CLS S v u p n g F Δ) (sh : SHE S D p n) (hx : ¬ x = 0 ↔ f) (H : Q (0, rfE n s f (zG S (D + 3) s)) S) : Ev (d + 1) 147 [(2, 1), (0, s), (0, x)] S Q := by
  apply w_Crc_refusal_0
  rw [cl.1.a1, cl.c1]
  refine ⟨cl.1.1, cl.vw.1, fun n0 => s_isShelf ⟨_, rfl, fun z => ?_, fun z => ?_⟩, fun n0 => ?_⟩
  · have e : rfE n s f (zG S (D + 3) s) = -1 := by
      unfold rfE
      rw [if_neg n0, if_neg]
      rintro ⟨a, b, c⟩
      rcases z with z | z
      · exact i0 z ⟨a, b⟩
      · exact z (hx.mpr c)
    rw [e] at H
    exact H
  · have hs : 0 ≤ s ∧ s < 6 := i1 (fun w => z (Or.inl w))
    have hf : f := hx.mp (fun w => z (Or.inr (fun q => q w)))
    have e : rfE n s f (zG S (D + 3) s) = if zG S (D + 3) s = 0 then -11 else if zG S (D + 3) s = 2 then -13 else 0 := by
      unfold rfE
      rw [if_neg n0, if_pos ⟨hs.1, hs.2, hf⟩]
    rw [e] at H
    rw [cl.1.a6, cl.1.p6 s hs.1 hs.2]
    refine ⟨cl.1.1, ⟨cl.1.k68.1, hs.1, by rw [cl.1.k68.2]; exact hs.2⟩, (cl.sw hs.1 hs.2).1, ?_⟩
    rintro _ rfl
    rw [(sh s hs.1 hs.2).1]
    refine ⟨fun a => ⟨fun b => ?_, fun b => ?_⟩, fun a => ?_⟩
    · rw [if_neg a, if_neg b] at H
      exact H
    · rw [if_neg a, if_pos (Classical.not_not.mp b)] at H
      exact H
    · rw [if_pos (Classical.not_not.mp a)] at H
      exact H
  · have e : rfE n s f (zG S (D + 3) s) = -2 := by
      unfold rfE
      rw [if_pos (Classical.not_not.mp n0)]
    rw [e] at H
    exact H
theorem rfE_congr {n s h : Int} {f f' : Prop} [Decidable f] [Decidable f'] (e : f ↔ f') : rfE n s f h = rfE n s f' h := by
  unfold rfE
  by_cases q : n = 0
  · rw [if_pos q, if_pos q]
  · rw [if_neg q, if_neg q]
    by_cases r : 0 ≤ s ∧ s < 6 ∧ f
    · have r' : 0 ≤ s ∧ s < 6 ∧ f' := ⟨r.1, r.2.1, e.mp r.2.2⟩
      rw [if_pos r, if_pos r']
    · rw [if_neg r, if_neg (fun w => r ⟨w.1, w.2.1, e.mpr w.2.2⟩)]
theorem rfE_ok {n s h : Int} {f : Prop} [Decidable f] (e : rfE n s f h = 0) : n ≠ 0 ∧ (0 ≤ s ∧ s < 6) ∧ f ∧ h ≠ 0 ∧ h ≠ 2 := by
  unfold rfE at e
  by_cases q : n = 0
  · rw [if_pos q] at e
    omega
  · rw [if_neg q] at e
    by_cases r : 0 ≤ s ∧ s < 6 ∧ f
    · rw [if_pos r] at e
      by_cases a : h = 0
      · rw [if_pos a] at e
        omega
      · rw [if_neg a] at e
        by_cases b : h = 2
        · rw [if_pos b] at e
          omega
        · exact ⟨q, ⟨r.1, r.2.1⟩, r.2.2, a, b⟩
    · rw [if_neg r] at e
      omega
/-- the element on shelf s, when nothing stands against it -/
theorem rf_el {S : Hp} {D p n s : Int} {f : Prop} [Decidable f] (sh : SHE S D p n) (e : rfE n s f (zG S (D + 3) s) = 0) : (0 ≤ s ∧ s < 6) ∧ f ∧ zG S (D + 3) s = 1 ∧ n ≠ 0 ∧ ∃ W, ELE S D p n s W := by
  obtain ⟨a, b, c, e0, e2⟩ := rfE_ok e
  obtain ⟨-, h, -, -, -, -, -, w⟩ := sh s b.1 b.2
  have h1 : zG S (D + 3) s = 1 := by omega
  exact ⟨b, c, h1, w h1⟩
theorem s_shelvesHold {d : Nat} {S : Hp} {D v u p n g w : Int} {F Δ : Int → Int} {Q : Vl → Hp → Prop} (cl : CLS S v u p n g F Δ) (sh : SHE S D p n) (H : Q (0, bsN (fun s => if zG S (D + 3) s = w then 1 else 0) 6) S) : Ev d 157 [(2, 1), (0, w)] S Q := by
  apply w_Crc_shelvesThatHold_0
  refine loopU2 (α := Int) (P := fun s set S' => At d 157 c157_4 [(0, (2, 1)), (1, (0, w)), (2, (0, set)), (3, (0, s))] [] S' Q) (I := fun s set S' => S' = S ∧ 0 ≤ s ∧ set = bsN (fun s => if zG S (D + 3) s = w then 1 else 0) s.toNat) 6 ?_ ?_ 0 0 S (by omega) ⟨rfl, by omega, rfl⟩
  · rintro s set S1 s1 ⟨e1, s0, hs⟩ next
    subst e1
    have nn : ((s.toNat : Nat) : Int) = s := by omega
    apply w_Crc_shelvesThatHold_4
    rw [cl.1.a6, cl.1.p6 s s0 s1]
    refine ⟨fun q => by omega, fun _ => ⟨cl.1.1, ⟨cl.1.k68.1, s0, by rw [cl.1.k68.2]; exact s1⟩, (cl.sw s0 s1).1, ?_⟩⟩
    rw [(sh s s0 s1).1]
    refine ⟨fun q => ?_, fun q => ?_⟩
    · apply w_Crc_shelvesThatHold_29
      rintro _ rfl
      rw [w32_id (by omega) (by omega)]
      refine next set S1 ⟨rfl, by omega, ?_⟩
      rw [hs, show (s + 1).toNat = s.toNat + 1 by omega]
      exact (bsN_skip (by (try dsimp only); rw [nn, if_neg q])).symm
    · rintro _ rfl
      apply w_Crc_shelvesThatHold_29
      rintro _ rfl
      rw [w32_id (by omega) (by omega)]
      refine next _ S1 ⟨rfl, by omega, ?_⟩
      rw [hs, show (s + 1).toNat = s.toNat + 1 by omega, bsN_at (by (try dsimp only); rw [nn, if_pos (Classical.not_not.mp q)]; decide), nn]
  · rintro set S1 ⟨e1, -, hs⟩
    subst e1
    apply w_Crc_shelvesThatHold_4
    refine ⟨fun _ => ?_, fun z => absurd (Int.le_refl _) z⟩
    rw [hs]
    exact H
theorem r_count {d : Nat} {S : Hp} {D w : Int} (R : Rel S D) : TW (d + 20) 142 285 [(0, w)] S D := by
  obtain ⟨v, u, p, n, g, F, Δ, kn, cl, md, re⟩ := R
  have id0 := rel_id kn cl md re
  have sh := re.2.1
  unfold TW
  have fin : ∀ x, x = (if w = 0 then zG S D 0 else if w = 1 then zG S D 1 else if w = 2 then zG S D 2 else if w = 3 then zG S D 18 else if w = 4 then bsN (fun s => if zG S (D + 3) s = 1 then 1 else 0) 6 else if w = 5 then bsN (fun s => if zG S (D + 3) s = 2 then 1 else 0) 6 else if w = 6 then zG S D 16 else -1) → ∃ y, ((0, x) : Vl) = (0, y) ∧ MID S S D ∧ Ev (d + 20) 285 [(2, D), (0, w)] S (fun r' S2 => r' = (0, y) ∧ MID S S2 D ∧ Rel S2 D) := fun x hx => ⟨x, rfl, id0.1, m_count md.1 (by rw [← hx]; exact ⟨rfl, id0⟩)⟩
  apply w_Crc_count_0
  rw [cl.1.a1, cl.c0, cl.c1, cl.1.2.1]
  have vw := cl.vw
  refine ⟨fun z => ⟨cl.1.1, vw.1, fin _ ?_⟩, fun z => ⟨cl.1.1, vw.1, fin _ ?_⟩, fun z => ⟨cl.1.1, vw.1, fun _ => ⟨cl.1.1, vw.1⟩, ?_⟩, fun z => ⟨cl.1.1, cl.rd.1, fin _ ?_⟩, fun z => ⟨cl.1.1, s_shelvesHold cl sh ⟨_, rfl, fin _ ?_⟩⟩, fun z => ⟨cl.1.1, s_shelvesHold cl sh ⟨_, rfl, fin _ ?_⟩⟩, fun z => ⟨cl.1.1, fin _ ?_⟩, fun z => fin _ ?_⟩
  · rw [if_pos z, md.2.1]
  · rw [if_neg (by omega), if_pos z, md.2.2.1]
  · rintro _ rfl
    refine fin _ ?_
    rw [if_neg (show ¬ w = 0 by omega), if_neg (show ¬ w = 1 by omega), if_pos z, md.2.2.2.1]
    by_cases n0 : n = 0
    · rw [if_neg (fun q => q n0), kn.2.2.1 n0]
    · rw [if_pos n0, (cl.2.2.1.2.2 n0).1]
  · rw [if_neg (by omega), if_neg (by omega), if_neg (by omega), if_pos z, re.1.1]
  · rw [if_neg (by omega), if_neg (by omega), if_neg (by omega), if_neg (by omega), if_pos z]
  · rw [if_neg (by omega), if_neg (by omega), if_neg (by omega), if_neg (by omega), if_neg (by omega), if_pos z]
  · rw [if_neg (by omega), if_neg (by omega), if_neg (by omega), if_neg (by omega), if_neg (by omega), if_neg (by omega), if_pos z, re.2.2.1.1]
  · rw [if_neg (by omega), if_neg (by omega), if_neg (by omega), if_neg (by omega), if_neg (by omega), if_neg (by omega), if_neg (by omega)]
theorem r_at {d : Nat} {S : Hp} {D s j i : Int} (R : Rel S D) : TW (d + 20) 123 259 [(0, s), (0, j), (0, i)] S D := by
  obtain ⟨v, u, p, n, g, F, Δ, kn, cl, md, re⟩ := R
  have id0 := rel_id kn cl md re
  have sh := re.2.1
  have n4 := kn.n4
  unfold TW
  apply w_Crc_at_0
  refine ⟨cl.1.1, s_isPow cl ⟨_, rfl, ?_⟩⟩
  rintro _ rfl
  refine ⟨cl.1.1, s_refusal cl sh (f := (0 ≤ j ∧ j < n) ∧ 0 ≤ i ∧ i ≤ 30) ?_ ⟨_, rfl, fun z => ?_, fun z => ?_⟩⟩
  · by_cases a : 0 ≤ j ∧ j < n
    · rw [if_pos a]
      by_cases b : 0 ≤ i ∧ i ≤ 30
      · rw [if_neg (by omega)]
        exact ⟨fun _ => ⟨a, b⟩, fun _ => by decide⟩
      · rw [if_pos (by omega)]
        exact ⟨fun q => absurd rfl q, fun q => absurd q.2 b⟩
    · rw [if_neg a, if_pos (Or.inl rfl)]
      exact ⟨fun q => absurd rfl q, fun q => absurd q.1 a⟩
  · obtain ⟨hs, ⟨hj, hi⟩, -, n0, W, qn, el, -⟩ := rf_el sh z
    have sw := cl.sw hs.1 hs.2
    have lan := qn.2.2.2.2
    have ln := lan.at hj.1 (by omega)
    rw [cl.1.a6, cl.1.p6 s hs.1 hs.2, sw.2.1, qn.2.1, lan.ptr hj.1 (by omega)]
    refine ⟨cl.1.1, ⟨cl.1.k68.1, hs.1, by rw [cl.1.k68.2]; exact hs.2⟩, sw.1, qn.1, ⟨lan.1, hj.1, by rw [lan.2.1]; omega⟩, ln.ln.1, n_number ln ⟨_, rfl, ?_⟩⟩
    refine ⟨_, rfl, id0.1, m_at md.1 md.2.2.1 kn.2.1 (fun q => absurd z q) (fun _ => ?_)⟩
    rw [el.1 j i hj.1 (by omega) hi.1 (by omega)]
    exact ⟨rfl, id0⟩
  · exact ⟨_, rfl, id0.1, m_at md.1 md.2.2.1 kn.2.1 (fun _ => ⟨rfl, id0⟩) (fun q => absurd q z)⟩
theorem r_as {d : Nat} {S : Hp} {D s k : Int} (R : Rel S D) : TW (d + 20) 124 260 [(0, s), (0, k)] S D := by
  obtain ⟨v, u, p, n, g, F, Δ, kn, cl, md, re⟩ := R
  have id0 := rel_id kn cl md re
  have sh := re.2.1
  unfold TW
  apply w_Crc_as_0
  rintro _ rfl
  refine ⟨cl.1.1, s_refusal cl sh (f := k = 0 ∨ k = 1) ?_ ⟨_, rfl, fun z => ?_, fun z => ?_⟩⟩
  · by_cases a : k = 0 ∨ k = 1
    · rw [if_pos (by omega)]
      exact ⟨fun _ => a, fun _ => by decide⟩
    · rw [if_neg (by omega)]
      exact ⟨fun q => absurd rfl q, fun q => absurd q a⟩
  · obtain ⟨hs, hk, -, n0, W, qn, -⟩ := rf_el sh z
    have sw := cl.sw hs.1 hs.2
    rw [cl.1.a6, cl.1.p6 s hs.1 hs.2, sw.2.1, qn.2.2.1]
    refine ⟨cl.1.1, ⟨cl.1.k68.1, hs.1, by rw [cl.1.k68.2]; exact hs.2⟩, sw.1, qn.1, ?_⟩
    rintro _ rfl
    rintro _ rfl
    refine ⟨_, rfl, id0.1, m_as md.1 md.2.2.1 (fun q => absurd z q) (fun _ => ?_)⟩
    refine ⟨?_, id0⟩
    by_cases q : k = 1 ∧ zG S (D + 5) s = 0
    · rw [if_pos q, if_neg (by omega)]
    · rw [if_neg q, if_pos (by omega)]
  · exact ⟨_, rfl, id0.1, m_as md.1 md.2.2.1 (fun _ => ⟨rfl, id0⟩) (fun q => absurd q z)⟩
theorem r_place {d : Nat} {S : Hp} {D s : Int} (R : Rel S D) : TW (d + 20) 125 261 [(0, s)] S D := by
  obtain ⟨v, u, p, n, g, F, Δ, kn, cl, md, re⟩ := R
  have id0 := rel_id kn cl md re
  have sh := re.2.1
  unfold TW
  apply w_Crc_place_0
  refine ⟨cl.1.1, s_refusal cl sh (f := True) ⟨fun _ => trivial, fun _ => by decide⟩ ⟨_, rfl, fun z => ?_, fun z => ?_⟩⟩
  · obtain ⟨hs, -, -, n0, W, qn, -⟩ := rf_el sh z
    have sw := cl.sw hs.1 hs.2
    rw [cl.1.a6, cl.1.p6 s hs.1 hs.2, sw.2.1]
    refine ⟨cl.1.1, ⟨cl.1.k68.1, hs.1, by rw [cl.1.k68.2]; exact hs.2⟩, sw.1, ?_⟩
    rintro _ rfl
    rw [qn.2.2.1, qn.2.2.2.1]
    refine ⟨qn.1, fun _ => qn.1, ?_⟩
    rintro _ rfl
    refine ⟨_, rfl, id0.1, m_place md.1 md.2.2.1 (fun q => absurd z q) (fun _ => ?_)⟩
    refine ⟨?_, id0⟩
    by_cases q : zG S (D + 5) s = 0
    · rw [if_pos q, if_neg (fun w => w q)]
    · rw [if_neg q, if_pos q]
  · exact ⟨_, rfl, id0.1, m_place md.1 md.2.2.1 (fun _ => ⟨rfl, id0⟩) (fun q => absurd q z)⟩
/-- the book's entry and the shelf's element are one -/
theorem same_bk {S : Hp} {D p n s b : Int} {W W' : Int → Int → Int} (el : elW S D s n p W) (h10 : ∀ j i, 0 ≤ j → j < 4 → 0 ≤ i → i < 31 → zG S (D + 10) (124 * b + 31 * j + i) = W' j i) (hz : ∀ j i, (i < 0 ∨ 30 < i) → W' j i = 0) : (zG S (D + 11) b = zG S (D + 5) s ∧ zG S (D + 12) b = zG S (D + 6) s ∧ ∀ j, 0 ≤ j → j < 4 → ∀ i, W' j i = W j i) ↔ bkEq S D s b := by
  constructor
  · rintro ⟨a, c, e⟩
    refine ⟨a, c, fun k k0 k1 => ?_⟩
    have q := e (k / 31) (by omega) (by omega) (k % 31)
    rw [← h10 _ _ (by omega) (by omega) (by omega) (by omega), ← el.1 _ _ (by omega) (by omega) (by omega) (by omega), show 124 * b + 31 * (k / 31) + k % 31 = 124 * b + k by omega, show 124 * s + 31 * (k / 31) + k % 31 = 124 * s + k by omega] at q
    exact q
  · rintro ⟨a, c, e⟩
    refine ⟨a, c, fun j j0 j1 i => ?_⟩
    by_cases q : 0 ≤ i ∧ i < 31
    · rw [← h10 j i j0 j1 q.1 q.2, ← el.1 j i j0 j1 q.1 q.2]
      have := e (31 * j + i) (by omega) (by omega)
      rw [← Int.add_assoc, ← Int.add_assoc] at this
      exact this
    · rw [hz j i (by omega), el.2.2.1 j i (by omega)]
theorem s_numberInBook {d : Nat} {S : Hp} {D v u p n g s : Int} {F Δ : Int → Int} {W : Int → Int → Int} {Q : Vl → Hp → Prop} (cl : CLS S v u p n g F Δ) (bk : BKE S D p n) (el : ELE S D p n s W) (H0 : (∀ b, 0 ≤ b → b < zG S D 16 → ¬ bkEq S D s b) → Q (0, -1) S) (H1 : ∀ b, 0 ≤ b → b < zG S D 16 → bkEq S D s b → (∀ a, 0 ≤ a → a < b → ¬ bkEq S D s a) → Q (0, b) S) : Ev (d + 1) 156 [(2, 1), (2, 343 + 12 * s + 1)] S Q := by
  obtain ⟨b1, b2, b3⟩ := bk
  apply w_Crc_numberInBook_0
  refine loopU (P := fun b S' => At (d + 1) 156 c156_2 [(0, (2, 1)), (1, (2, 343 + 12 * s + 1)), (2, (0, b))] [] S' Q) (I := fun b S' => S' = S ∧ 0 ≤ b ∧ ∀ a, 0 ≤ a → a < b → ¬ bkEq S D s a) (zG S D 16) ?_ ?_ 0 S b2.1 ⟨rfl, by omega, fun a a0 a1 => by omega⟩
  · rintro b S1 hb ⟨e1, c0, no⟩ next
    subst e1
    obtain ⟨-, W', q1, q2, -, q4, -⟩ := b3 b c0 hb
    have sb := same_bk el.2.1 q2 q4
    apply w_Crc_numberInBook_2
    rw [cl.1.a7, cl.1.p7 b c0 (by omega), b1]
    refine ⟨cl.1.1, fun q => by omega, fun _ => ⟨cl.1.1, ⟨cl.1.k69.1, c0, by rw [cl.1.k69.2]; omega⟩, q1.1, s_isSame q1 el.1 (fun z => ⟨_, rfl, fun q => by omega, fun _ => H1 b c0 hb (sb.mp z) no⟩) (fun z => ⟨_, rfl, fun _ => ?_, fun q => absurd rfl q⟩)⟩⟩
    rintro _ rfl
    rw [w32_id (by omega) (by omega)]
    refine next S1 ⟨rfl, by omega, fun a a0 a1 => ?_⟩
    by_cases q : a = b
    · rw [q]
      exact fun w => z (sb.mpr w)
    · exact no a a0 (by omega)
  · rintro S1 ⟨e1, c0, no⟩
    subst e1
    apply w_Crc_numberInBook_2
    rw [b1]
    exact ⟨cl.1.1, fun _ => H0 no, fun z => absurd (Int.le_refl _) z⟩
theorem r_find {d : Nat} {S : Hp} {D s : Int} (R : Rel S D) : TW (d + 20) 131 272 [(0, s)] S D := by
  obtain ⟨v, u, p, n, g, F, Δ, kn, cl, md, re⟩ := R
  have id0 := rel_id kn cl md re
  have sh := re.2.1
  have bk := re.2.2.1
  unfold TW
  apply w_Crc_find_0
  refine ⟨cl.1.1, s_refusal cl sh (f := True) ⟨fun _ => trivial, fun _ => by decide⟩ ⟨_, rfl, fun z => ?_, fun z => ?_⟩⟩
  · obtain ⟨hs, -, -, n0, W, el⟩ := rf_el sh z
    have sw := cl.sw hs.1 hs.2
    rw [cl.1.a6, cl.1.p6 s hs.1 hs.2, sw.2.1]
    refine ⟨cl.1.1, ⟨cl.1.k68.1, hs.1, by rw [cl.1.k68.2]; exact hs.2⟩, sw.1, cl.1.1, s_numberInBook cl bk el (fun no => ⟨_, rfl, ?_⟩) (fun b b0 b1 e no => ⟨_, rfl, ?_⟩)⟩
    · rintro _ rfl
      rw [if_pos (by omega)]
      exact ⟨_, rfl, id0.1, m_find md.1 md.2.2.1 bk.2.1 (fun q => absurd z q) (fun _ _ => ⟨rfl, id0⟩) (fun _ b b0 b1 e => absurd e (no b b0 b1))⟩
    · rintro _ rfl
      rw [if_neg (by omega)]
      refine ⟨_, rfl, id0.1, m_find md.1 md.2.2.1 bk.2.1 (fun q => absurd z q) (fun _ n' => absurd e (n' b b0 b1)) (fun _ a a0 a1 e' no' => ?_)⟩
      have ab : a = b := by
        by_cases q : a < b
        · exact absurd e' (no a a0 q)
        · by_cases q2 : b < a
          · exact absurd e (no' b b0 q2)
          · omega
      rw [ab]
      exact ⟨rfl, id0⟩
  · exact ⟨_, rfl, id0.1, m_find md.1 md.2.2.1 bk.2.1 (fun _ => ⟨rfl, id0⟩) (fun q => absurd q z) (fun q => absurd q z)⟩
