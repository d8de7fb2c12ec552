/-! What is lost counts twice in the discriminant. -/
theorem ds_o2 {p : Int} {O : Type} [I : Lean.Grind.CommRing O] {φ : (Int → Int) → O} (h : HM p φ) {E : Int → Int → Int} : φ (dsM p 2 E) = dt2 (fun i j => φ (E (4 * i + j))) := by
  have b := (bk_ch2 (E := E) h).2
  rw [show dsM p 2 E = bkQ p E 2 2 from funext fun x => if_neg (by decide), b]
  show _ = φ (E 0) * φ (E 5) - φ (E 1) * φ (E 4)
  clear b
  grind
set_option maxHeartbeats 1000000 in
theorem lost2 {O E : Type} [I : Lean.Grind.CommRing O] [J : Lean.Grind.CommRing E] {p k : Int} {C P : Int → Int → Int} {φ : (Int → Int) → O} {ι : O → E} {y : E} {fig : Int → Int → Int → Int} {dp : Int → Int} (v : RNV p 2 C φ ι y k fig dp) (zC : ∀ j x, x < 0 → C j x = 0) (hP : NW p 2 C P) : ∃ x, φ (dsM p 2 (trE 2 P)) = φ t1 ^ (2 * lsF 2 dp).toNat * x := by
  obtain ⟨G, hG⟩ := v.gram
  have nt := newt2 (P := P) v.1.1 v.2.2.2.1 zC hP
  obtain ⟨h, hp, hn, A, hk, r⟩ := v
  have lo : ∀ j i : Int, 0 ≤ j → j < i → i < 2 → φ (bR fig j i) = 0 := fun j i j0 q i1 => bR_0 h r.2.1 j0 (by omega) q (by omega)
  have e1 := (dtC2 (R := fun i j => φ t1 ^ 40 * G i j) (fun i j i0 i1 j0 j1 => hG i j i0 i1 j0 j1)).symm.trans (dtB2 (fun j i => φ (bR fig j i)) (fun a b => TrE A (y ^ a.toNat * y ^ b.toNat)) lo)
  rw [dtM2] at e1
  (try dsimp only at e1)
  have b0 := r.1.1 0 (by decide) (by decide)
  have b1 := r.1.1 1 (by decide) (by decide)
  rw [bR_d h r.1 (l := 0) (by decide) (by decide), bR_d h r.1 (l := 1) (by decide) (by decide)] at e1
  refine ⟨dt2 G, ?_⟩
  have e2 : φ (dsM p 2 (trE 2 P)) = dt2 (fun a b => TrE A (y ^ a.toNat * y ^ b.toNat)) := by
    rw [ds_o2 h.1]
    refine dtC2 (fun i j i0 i1 j0 j1 => ?_)
    rw [show trE 2 P (4 * i + j) = P (i + j) from funext fun x => by unfold trE; rw [if_pos (by omega), show (4 * i + j) / 4 + (4 * i + j) % 4 = i + j by omega], ← Lean.Grind.Semiring.pow_add, show i.toNat + j.toNat = (i + j).toNat by omega]
    rcases (show i + j = 0 ∨ i + j = 1 ∨ i + j = 2 by omega) with q | q | q
    · rw [q]
      exact (nt.1).symm
    · rw [q]
      exact (nt.2.1).symm
    · rw [q]
      exact (nt.2.2).symm
  rw [e2]
  generalize dt2 (fun a b => TrE A (y ^ a.toNat * y ^ b.toNat)) = X at *
  have ls : lsF 2 dp = dp 0 + dp 1 := by
    show 0 + dp 0 + dp 1 = _
    omega
  refine h.can (2 * ((20 - dp 0).toNat + (20 - dp 1).toNat)) ?_
  rw [show φ t1 ^ (2 * ((20 - dp 0).toNat + (20 - dp 1).toNat)) * (φ t1 ^ (2 * lsF 2 dp).toNat * dt2 G) = φ t1 ^ (2 * ((20 - dp 0).toNat + (20 - dp 1).toNat)) * φ t1 ^ (2 * lsF 2 dp).toNat * dt2 G by clear e1; grind, ← Lean.Grind.Semiring.pow_add, show 2 * ((20 - dp 0).toNat + (20 - dp 1).toNat) + (2 * lsF 2 dp).toNat = 80 by rw [ls]; omega]
  rw [show φ t1 ^ 80 * dt2 G = (φ t1 ^ 40) ^ 2 * dt2 G by clear e1; grind, e1]
  clear e1 e2 nt
  generalize (20 - dp 0).toNat = x0
  generalize (20 - dp 1).toNat = x1
  rw [show 2 * (x0 + x1) = (x0 + x1) + (x0 + x1) by omega]
  rw [Lean.Grind.Semiring.pow_add, Lean.Grind.Semiring.pow_add]
  generalize φ t1 ^ x0 = y0
  generalize φ t1 ^ x1 = y1
  grind
theorem ds_o3 {p : Int} {O : Type} [I : Lean.Grind.CommRing O] {φ : (Int → Int) → O} (h : HM p φ) {E : Int → Int → Int} : φ (dsM p 3 E) = dt3 (fun i j => φ (E (4 * i + j))) := by
  have b := (bk_ch3 (E := E) h).2.2
  rw [show dsM p 3 E = fun x => (fun x => -1 * bkQ p E 3 3 x) x % p from funext fun x => if_pos (by decide), h.2.2.1, h.2.2.2.1, b]
  show _ = φ (E 0) * φ (E 5) * φ (E 10) - φ (E 0) * φ (E 6) * φ (E 9) - φ (E 1) * φ (E 4) * φ (E 10) + φ (E 1) * φ (E 6) * φ (E 8) + φ (E 2) * φ (E 4) * φ (E 9) - φ (E 2) * φ (E 5) * φ (E 8)
  clear b
  grind
set_option maxHeartbeats 1000000 in
theorem lost3 {O E : Type} [I : Lean.Grind.CommRing O] [J : Lean.Grind.CommRing E] {p k : Int} {C P : Int → Int → Int} {φ : (Int → Int) → O} {ι : O → E} {y : E} {fig : Int → Int → Int → Int} {dp : Int → Int} (v : RNV p 3 C φ ι y k fig dp) (zC : ∀ j x, x < 0 → C j x = 0) (hP : NW p 3 C P) : ∃ x, φ (dsM p 3 (trE 3 P)) = φ t1 ^ (2 * lsF 3 dp).toNat * x := by
  obtain ⟨G, hG⟩ := v.gram
  have nt := newt3 (P := P) v.1.1 v.2.2.2.1 zC hP
  obtain ⟨h, hp, hn, A, hk, r⟩ := v
  have lo : ∀ j i : Int, 0 ≤ j → j < i → i < 3 → φ (bR fig j i) = 0 := fun j i j0 q i1 => bR_0 h r.2.1 j0 (by omega) q (by omega)
  have e1 := (dtC3 (R := fun i j => φ t1 ^ 40 * G i j) (fun i j i0 i1 j0 j1 => hG i j i0 i1 j0 j1)).symm.trans (dtB3 (fun j i => φ (bR fig j i)) (fun a b => TrE A (y ^ a.toNat * y ^ b.toNat)) lo)
  rw [dtM3] at e1
  (try dsimp only at e1)
  have b0 := r.1.1 0 (by decide) (by decide)
  have b1 := r.1.1 1 (by decide) (by decide)
  have b2 := r.1.1 2 (by decide) (by decide)
  rw [bR_d h r.1 (l := 0) (by decide) (by decide), bR_d h r.1 (l := 1) (by decide) (by decide), bR_d h r.1 (l := 2) (by decide) (by decide)] at e1
  refine ⟨dt3 G, ?_⟩
  have e2 : φ (dsM p 3 (trE 3 P)) = dt3 (fun a b => TrE A (y ^ a.toNat * y ^ b.toNat)) := by
    rw [ds_o3 h.1]
    refine dtC3 (fun i j i0 i1 j0 j1 => ?_)
    rw [show trE 3 P (4 * i + j) = P (i + j) from funext fun x => by unfold trE; rw [if_pos (by omega), show (4 * i + j) / 4 + (4 * i + j) % 4 = i + j by omega], ← Lean.Grind.Semiring.pow_add, show i.toNat + j.toNat = (i + j).toNat by omega]
    rcases (show i + j = 0 ∨ i + j = 1 ∨ i + j = 2 ∨ i + j = 3 ∨ i + j = 4 by omega) with q | q | q | q | q
    · rw [q]
      exact (nt.1).symm
    · rw [q]
      exact (nt.2.1).symm
    · rw [q]
      exact (nt.2.2.1).symm
    · rw [q]
      exact (nt.2.2.2.1).symm
    · rw [q]
      exact (nt.2.2.2.2).symm
  rw [e2]
  generalize dt3 (fun a b => TrE A (y ^ a.toNat * y ^ b.toNat)) = X at *
  have ls : lsF 3 dp = dp 0 + dp 1 + dp 2 := by
    show 0 + dp 0 + dp 1 + dp 2 = _
    omega
  refine h.can (2 * ((20 - dp 0).toNat + (20 - dp 1).toNat + (20 - dp 2).toNat)) ?_
  rw [show φ t1 ^ (2 * ((20 - dp 0).toNat + (20 - dp 1).toNat + (20 - dp 2).toNat)) * (φ t1 ^ (2 * lsF 3 dp).toNat * dt3 G) = φ t1 ^ (2 * ((20 - dp 0).toNat + (20 - dp 1).toNat + (20 - dp 2).toNat)) * φ t1 ^ (2 * lsF 3 dp).toNat * dt3 G by clear e1; grind, ← Lean.Grind.Semiring.pow_add, show 2 * ((20 - dp 0).toNat + (20 - dp 1).toNat + (20 - dp 2).toNat) + (2 * lsF 3 dp).toNat = 120 by rw [ls]; omega]
  rw [show φ t1 ^ 120 * dt3 G = (φ t1 ^ 40) ^ 3 * dt3 G by clear e1; grind, e1]
  clear e1 e2 nt
  generalize (20 - dp 0).toNat = x0
  generalize (20 - dp 1).toNat = x1
  generalize (20 - dp 2).toNat = x2
  rw [show 2 * (x0 + x1 + x2) = (x0 + x1 + x2) + (x0 + x1 + x2) by omega]
  rw [Lean.Grind.Semiring.pow_add, Lean.Grind.Semiring.pow_add, Lean.Grind.Semiring.pow_add]
  generalize φ t1 ^ x0 = y0
  generalize φ t1 ^ x1 = y1
  generalize φ t1 ^ x2 = y2
  grind
theorem ds_o4 {p : Int} {O : Type} [I : Lean.Grind.CommRing O] {φ : (Int → Int) → O} (h : HM p φ) {E : Int → Int → Int} : φ (dsM p 4 E) = dt4 (fun i j => φ (E (4 * i + j))) := by
  have b := (bk_ch4 (E := E) h).2.2.2
  rw [show dsM p 4 E = bkQ p E 4 4 from funext fun x => if_neg (by decide), b]
  show _ = φ (E 0) * φ (E 5) * φ (E 10) * φ (E 15) - φ (E 0) * φ (E 5) * φ (E 11) * φ (E 14) - φ (E 0) * φ (E 6) * φ (E 9) * φ (E 15) + φ (E 0) * φ (E 6) * φ (E 11) * φ (E 13) + φ (E 0) * φ (E 7) * φ (E 9) * φ (E 14) - φ (E 0) * φ (E 7) * φ (E 10) * φ (E 13) - φ (E 1) * φ (E 4) * φ (E 10) * φ (E 15) + φ (E 1) * φ (E 4) * φ (E 11) * φ (E 14) + φ (E 1) * φ (E 6) * φ (E 8) * φ (E 15) - φ (E 1) * φ (E 6) * φ (E 11) * φ (E 12) - φ (E 1) * φ (E 7) * φ (E 8) * φ (E 14) + φ (E 1) * φ (E 7) * φ (E 10) * φ (E 12) + φ (E 2) * φ (E 4) * φ (E 9) * φ (E 15) - φ (E 2) * φ (E 4) * φ (E 11) * φ (E 13) - φ (E 2) * φ (E 5) * φ (E 8) * φ (E 15) + φ (E 2) * φ (E 5) * φ (E 11) * φ (E 12) + φ (E 2) * φ (E 7) * φ (E 8) * φ (E 13) - φ (E 2) * φ (E 7) * φ (E 9) * φ (E 12) - φ (E 3) * φ (E 4) * φ (E 9) * φ (E 14) + φ (E 3) * φ (E 4) * φ (E 10) * φ (E 13) + φ (E 3) * φ (E 5) * φ (E 8) * φ (E 14) - φ (E 3) * φ (E 5) * φ (E 10) * φ (E 12) - φ (E 3) * φ (E 6) * φ (E 8) * φ (E 13) + φ (E 3) * φ (E 6) * φ (E 9) * φ (E 12)
  clear b
  grind
set_option maxHeartbeats 1000000 in
theorem lost4 {O E : Type} [I : Lean.Grind.CommRing O] [J : Lean.Grind.CommRing E] {p k : Int} {C P : Int → Int → Int} {φ : (Int → Int) → O} {ι : O → E} {y : E} {fig : Int → Int → Int → Int} {dp : Int → Int} (v : RNV p 4 C φ ι y k fig dp) (zC : ∀ j x, x < 0 → C j x = 0) (hP : NW p 4 C P) : ∃ x, φ (dsM p 4 (trE 4 P)) = φ t1 ^ (2 * lsF 4 dp).toNat * x := by
  obtain ⟨G, hG⟩ := v.gram
  have nt := newt4 (P := P) v.1.1 v.2.2.2.1 zC hP
  obtain ⟨h, hp, hn, A, hk, r⟩ := v
  have lo : ∀ j i : Int, 0 ≤ j → j < i → i < 4 → φ (bR fig j i) = 0 := fun j i j0 q i1 => bR_0 h r.2.1 j0 (by omega) q (by omega)
  have e1 := (dtC4 (R := fun i j => φ t1 ^ 40 * G i j) (fun i j i0 i1 j0 j1 => hG i j i0 i1 j0 j1)).symm.trans (dtB4 (fun j i => φ (bR fig j i)) (fun a b => TrE A (y ^ a.toNat * y ^ b.toNat)) lo)
  rw [dtM4] at e1
  (try dsimp only at e1)
  have b0 := r.1.1 0 (by decide) (by decide)
  have b1 := r.1.1 1 (by decide) (by decide)
  have b2 := r.1.1 2 (by decide) (by decide)
  have b3 := r.1.1 3 (by decide) (by decide)
  rw [bR_d h r.1 (l := 0) (by decide) (by decide), bR_d h r.1 (l := 1) (by decide) (by decide), bR_d h r.1 (l := 2) (by decide) (by decide), bR_d h r.1 (l := 3) (by decide) (by decide)] at e1
  refine ⟨dt4 G, ?_⟩
  have e2 : φ (dsM p 4 (trE 4 P)) = dt4 (fun a b => TrE A (y ^ a.toNat * y ^ b.toNat)) := by
    rw [ds_o4 h.1]
    refine dtC4 (fun i j i0 i1 j0 j1 => ?_)
    rw [show trE 4 P (4 * i + j) = P (i + j) from funext fun x => by unfold trE; rw [if_pos (by omega), show (4 * i + j) / 4 + (4 * i + j) % 4 = i + j by omega], ← Lean.Grind.Semiring.pow_add, show i.toNat + j.toNat = (i + j).toNat by omega]
    rcases (show i + j = 0 ∨ i + j = 1 ∨ i + j = 2 ∨ i + j = 3 ∨ i + j = 4 ∨ i + j = 5 ∨ i + j = 6 by omega) with q | q | q | q | q | q | q
    · rw [q]
      exact (nt.1).symm
    · rw [q]
      exact (nt.2.1).symm
    · rw [q]
      exact (nt.2.2.1).symm
    · rw [q]
      exact (nt.2.2.2.1).symm
    · rw [q]
      exact (nt.2.2.2.2.1).symm
    · rw [q]
      exact (nt.2.2.2.2.2.1).symm
    · rw [q]
      exact (nt.2.2.2.2.2.2).symm
  rw [e2]
  generalize dt4 (fun a b => TrE A (y ^ a.toNat * y ^ b.toNat)) = X at *
  have ls : lsF 4 dp = dp 0 + dp 1 + dp 2 + dp 3 := by
    show 0 + dp 0 + dp 1 + dp 2 + dp 3 = _
    omega
  refine h.can (2 * ((20 - dp 0).toNat + (20 - dp 1).toNat + (20 - dp 2).toNat + (20 - dp 3).toNat)) ?_
  rw [show φ t1 ^ (2 * ((20 - dp 0).toNat + (20 - dp 1).toNat + (20 - dp 2).toNat + (20 - dp 3).toNat)) * (φ t1 ^ (2 * lsF 4 dp).toNat * dt4 G) = φ t1 ^ (2 * ((20 - dp 0).toNat + (20 - dp 1).toNat + (20 - dp 2).toNat + (20 - dp 3).toNat)) * φ t1 ^ (2 * lsF 4 dp).toNat * dt4 G by clear e1; grind, ← Lean.Grind.Semiring.pow_add, show 2 * ((20 - dp 0).toNat + (20 - dp 1).toNat + (20 - dp 2).toNat + (20 - dp 3).toNat) + (2 * lsF 4 dp).toNat = 160 by rw [ls]; omega]
  rw [show φ t1 ^ 160 * dt4 G = (φ t1 ^ 40) ^ 4 * dt4 G by clear e1; grind, e1]
  clear e1 e2 nt
  generalize (20 - dp 0).toNat = x0
  generalize (20 - dp 1).toNat = x1
  generalize (20 - dp 2).toNat = x2
  generalize (20 - dp 3).toNat = x3
  rw [show 2 * (x0 + x1 + x2 + x3) = (x0 + x1 + x2 + x3) + (x0 + x1 + x2 + x3) by omega]
  rw [Lean.Grind.Semiring.pow_add, Lean.Grind.Semiring.pow_add, Lean.Grind.Semiring.pow_add, Lean.Grind.Semiring.pow_add]
  generalize φ t1 ^ x0 = y0
  generalize φ t1 ^ x1 = y1
  generalize φ t1 ^ x2 = y2
  generalize φ t1 ^ x3 = y3
  grind
theorem RNV.lost {O E : Type} [I : Lean.Grind.CommRing O] [J : Lean.Grind.CommRing E] {p n k : Int} {C P : Int → Int → Int} {φ : (Int → Int) → O} {ι : O → E} {y : E} {fig : Int → Int → Int → Int} {dp : Int → Int} (v : RNV p n C φ ι y k fig dp) (zC : ∀ j x, x < 0 → C j x = 0) (hP : NW p n C P) : ∃ x, φ (dsM p n (trE n P)) = φ t1 ^ (2 * lsF n dp).toNat * x := by
  rcases (show n = 2 ∨ n = 3 ∨ n = 4 by have := v.2.2.1; omega) with rfl | rfl | rfl
  · exact lost2 v zC hP
  · exact lost3 v zC hP
  · exact lost4 v zC hP
