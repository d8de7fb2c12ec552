/-! Solving equations: the whole of it. -/
/-- columns below J are done, u rows are used -/
def SvI (p n c : Int) (E0 : Int → Int) (J u : Int) (E fr pt : Int → Int) : Prop :=
  (0 ≤ u ∧ u ≤ J ∧ u ≤ c) ∧ (∀ x, ker p n c E x ↔ ker p n c E0 x) ∧ (∀ x, 0 ≤ x → x < 64 → 0 ≤ E x ∧ E x < 20) ∧ (∀ k, 0 ≤ k → k < J → fr k = 0 ∨ fr k = 1) ∧ (∀ k, 0 ≤ k → k < J → fr k = 0 → (0 ≤ pt k ∧ pt k < u) ∧ E (4 * pt k + k) % p = 1 ∧ (∀ r, 0 ≤ r → r < c → r ≠ pt k → p ∣ E (4 * r + k)) ∧ ∀ i, 0 ≤ i → i < k → p ∣ E (4 * pt k + i)) ∧ (∀ k, 0 ≤ k → k < J → ∀ r, u ≤ r → r < c → p ∣ E (4 * r + k)) ∧ (∀ r, 0 ≤ r → r < u → ∃ k, 0 ≤ k ∧ k < J ∧ fr k = 0 ∧ pt k = r) ∧ (∀ r, 0 ≤ r → r < u → ∀ i, 0 ≤ i → i < n → 0 ≤ E (4 * r + i) ∧ E (4 * r + i) < p) ∧ sm J.toNat fr = J - u
theorem SvI.zero {p n c : Int} {E fr pt : Int → Int} (hc : 0 ≤ c) (hE : ∀ x, 0 ≤ x → x < 64 → 0 ≤ E x ∧ E x < 20) : SvI p n c E 0 0 E fr pt := ⟨by omega, fun x => Iff.rfl, hE, fun k k0 k1 => by omega, fun k k0 k1 => by omega, fun k k0 k1 => by omega, fun r r0 r1 => by omega, fun r r0 r1 => by omega, rfl⟩
theorem sm_next {J : Int} {f g : Int → Int} {s : Int} (hJ : 0 ≤ J) (h : sm J.toNat f = s) (hg : ∀ k, 0 ≤ k → k < J → g k = f k) : sm (J + 1).toNat g = s + g J := by
  rw [show (J + 1).toNat = J.toNat + 1 by omega, sm_succ, show ((J.toNat : Nat) : Int) = J by omega, sm_congr (g := f) (fun i i0 i1 => hg i i0 (by omega)), h]
theorem SvI.free {p n c J u : Int} {E0 E fr pt fr' : Int → Int} (h : SvI p n c E0 J u E fr pt) (hJ : 0 ≤ J) (hz : ∀ r, u ≤ r → r < c → p ∣ E (4 * r + J)) (hf : ∀ k, 0 ≤ k → k < J → fr' k = fr k) (hf1 : fr' J = 1) : SvI p n c E0 (J + 1) u E fr' pt := by
  obtain ⟨h1, h2, h3, h4, h5, h6, h7, h8, h9⟩ := h
  refine ⟨by omega, h2, h3, fun k k0 k1 => ?_, fun k k0 k1 hk => ?_, fun k k0 k1 r r0 r1 => ?_, fun r r0 r1 => ?_, h8, ?_⟩
  · by_cases q : k = J
    · rw [q]
      exact Or.inr hf1
    · rw [hf k k0 (by omega)]
      exact h4 k k0 (by omega)
  · by_cases q : k = J
    · rw [q, hf1] at hk
      omega
    · rw [hf k k0 (by omega)] at hk
      exact h5 k k0 (by omega) hk
  · by_cases q : k = J
    · rw [q]
      exact hz r r0 r1
    · exact h6 k k0 (by omega) r r0 r1
  · obtain ⟨k, k0, k1, k2, k3⟩ := h7 r r0 r1
    exact ⟨k, k0, by omega, by rw [hf k k0 k1]; exact k2, k3⟩
  · rw [sm_next hJ h9 hf, hf1]
    omega
theorem SvI.piv {p n c J u f v : Int} {E0 E fr pt fr' pt' : Int → Int} (h : SvI p n c E0 J u E fr pt) (hp : 2 ≤ p ∧ p ≤ 7) (hn : 2 ≤ n ∧ n ≤ 4) (hc : c ≤ 16) (hJ : 0 ≤ J ∧ J < n) (hu : u ≤ f ∧ f < c) (hv : E (4 * f + J) * v % p = 1) (hf : ∀ k, 0 ≤ k → k < J → fr' k = fr k) (hf1 : fr' J = 0) (hq : ∀ k, 0 ≤ k → k < J → pt' k = pt k) (hq1 : pt' J = u) : SvI p n c E0 (J + 1) (u + 1) (swB p n (swA p E u f v n) u J c 0) fr' pt' := by
  obtain ⟨h1, h2, h3, h4, h5, h6, h7, h8, h9⟩ := h
  have hpv := sw_piv hn hJ ⟨h1.1, hu.1, hu.2⟩ hv
  have hcol : ∀ k, 0 ≤ k → k < J → ∀ r, 0 ≤ r → r < c → (r < u → p ∣ swB p n (swA p E u f v n) u J c 0 (4 * r + k) - E (4 * r + k)) ∧ (u ≤ r → p ∣ swB p n (swA p E u f v n) u J c 0 (4 * r + k)) := fun k k0 k1 r r0 r1 => sw_col hn hJ ⟨k0, by omega⟩ ⟨h1.1, hu.1, hu.2⟩ (h6 k k0 k1) r r0 r1
  refine ⟨by omega, fun x => (sw_ker hn hJ ⟨h1.1, hu.1, hu.2⟩ hv).trans (h2 x), swB_bd hp (swA_bd hp (by omega) (by omega) h3), fun k k0 k1 => ?_, fun k k0 k1 hk => ?_, fun k k0 k1 r r0 r1 => ?_, fun r r0 r1 => ?_, fun r r0 r1 i i0 i1 => sw_low hp.1 hn ⟨i0, i1⟩ ⟨h1.1, hu.1⟩ (fun r r0 r1 => h8 r r0 r1 i i0 i1) r r0 (by omega), ?_⟩
  · by_cases q : k = J
    · rw [q]
      exact Or.inl hf1
    · rw [hf k k0 (by omega)]
      exact h4 k k0 (by omega)
  · by_cases q : k = J
    · rw [q, hq1]
      refine ⟨by omega, ?_, fun r r0 r1 hr => hpv.2 r r0 r1 hr, fun i i0 i1 => (hcol i i0 (by omega) u h1.1 (by omega)).2 (by omega)⟩
      rw [hpv.1]
      exact Int.emod_eq_of_lt (by omega) (by omega)
    · rw [hf k k0 (by omega)] at hk
      rw [hq k k0 (by omega)]
      obtain ⟨g1, g2, g3, g4⟩ := h5 k k0 (by omega) hk
      refine ⟨by omega, ?_, fun r r0 r1 hr => ?_, fun i i0 i1 => ?_⟩
      · have := (hcol k k0 (by omega) (pt k) g1.1 (by omega)).1 g1.2
        rw [← g2]
        exact (Int.emod_eq_emod_iff_emod_sub_eq_zero).2 (Int.emod_eq_zero_of_dvd this)
      · have := hcol k k0 (by omega) r r0 r1
        by_cases q2 : r < u
        · exact dvd_of_sub (this.1 q2) (g3 r r0 r1 hr)
        · exact this.2 (by omega)
      · exact dvd_of_sub ((hcol i i0 (by omega) (pt k) g1.1 (by omega)).1 g1.2) (g4 i i0 i1)
  · by_cases q : k = J
    · rw [q]
      exact hpv.2 r (by omega) r1 (by omega)
    · exact (hcol k k0 (by omega) r (by omega) r1).2 (by omega)
  · by_cases q : r = u
    · exact ⟨J, hJ.1, by omega, hf1, by rw [q]; exact hq1⟩
    · obtain ⟨k, k0, k1, k2, k3⟩ := h7 r r0 (by omega)
      exact ⟨k, k0, by omega, by rw [hf k k0 k1]; exact k2, by rw [hq k k0 k1]; exact k3⟩
  · rw [sm_next hJ.1 h9 hf, hf1]
    omega
/-- what solve leaves: free unknowns, and the one that has 1 there and nothing above -/
def solved (p n c : Int) (E fr so : Int → Int) (k : Int) : Prop :=
  (∀ j, 0 ≤ j → j < n → fr j = 0 ∨ fr j = 1) ∧ (∀ j i, 0 ≤ j → j < n → 0 ≤ i → i < n → 0 ≤ so (4 * j + i) ∧ so (4 * j + i) < p) ∧ (∀ j, 0 ≤ j → j < n → fr j = 1 → ker p n c E (fun i => so (4 * j + i))) ∧ (∀ j, 0 ≤ j → j < n → so (4 * j + j) = 1) ∧ (∀ j i, 0 ≤ j → j < n → 0 ≤ i → i < n → i ≠ j → fr i = 1 → so (4 * j + i) = 0) ∧ (∀ j i, 0 ≤ j → j < i → i < n → so (4 * j + i) = 0) ∧ (∀ x, ker p n c E x → ∀ i, 0 ≤ i → i < n → fr i = 0 → p ∣ x i - sm n.toNat (fun j => if fr j = 1 then x j * so (4 * j + i) else 0)) ∧ k = sm n.toNat fr
def soF (p : Int) (E fr pt : Int → Int) (j i : Int) : Int := if i = j then 1 else if fr i = 0 then (p - E (4 * pt i + j)) % p else 0
theorem SvI.solved {p n c u : Int} {E0 E fr pt so : Int → Int} (h : SvI p n c E0 n u E fr pt) (hp : 2 ≤ p) (hn : 2 ≤ n ∧ n ≤ 4) (hs : ∀ j i, 0 ≤ j → j < n → 0 ≤ i → i < n → so (4 * j + i) = soF p E fr pt j i) : solved p n c E0 fr so (n - u) := by
  obtain ⟨h1, h2, h3, h4, h5, h6, h7, h8, h9⟩ := h
  have neg : ∀ i j, p ∣ (p - E (4 * pt i + j)) % p - -E (4 * pt i + j) := fun i j => dvd_tr (emod_sub_dvd p _) ⟨1, by omega⟩
  have one : ∀ k, 0 ≤ k → k < n → fr k = 0 → p ∣ E (4 * pt k + k) - 1 := fun k k0 k1 hk => by
    have := dvd_neg' (emod_sub_dvd p (E (4 * pt k + k)))
    rw [(h5 k k0 k1 hk).2.1] at this
    exact this
  have inj : ∀ k l, 0 ≤ k → k < n → 0 ≤ l → l < n → fr k = 0 → fr l = 0 → k ≠ l → pt k ≠ pt l := fun k l k0 k1 l0 l1 hk hl hkl e => by
    have n1 : ∀ a b, 0 ≤ a → a < b → b < n → fr a = 0 → fr b = 0 → pt a ≠ pt b := fun a b a0 ab b1 ha hb e => by
      have g1 := (h5 b (by omega) b1 hb).2.2.2 a a0 ab
      rw [← e] at g1
      have g2 := (h5 a a0 (by omega) ha).2.1
      rw [Int.emod_eq_zero_of_dvd g1] at g2
      omega
    by_cases q : k < l
    · exact n1 k l k0 q l1 hk hl e
    · exact n1 l k l0 (by omega) k1 hl hk e.symm
  refine ⟨h4, fun j i j0 j1 i0 i1 => ?_, fun j j0 j1 hj => ?_, fun j j0 j1 => ?_, fun j i j0 j1 i0 i1 hij hi => ?_, fun j i j0 ji i1 => ?_, fun x hx i i0 i1 hi => ?_, by rw [h9]⟩
  · rw [hs j i j0 j1 i0 i1]
    unfold soF
    split
    · omega
    · split
      · exact ⟨Int.emod_nonneg _ (by omega), Int.emod_lt_of_pos _ (by omega)⟩
      · omega
  · rw [← h2]
    intro r r0 r1
    by_cases hr : r < u
    · obtain ⟨k, k0, k1, k2, k3⟩ := h7 r r0 hr
      have hkj : k ≠ j := fun e => by
        rw [e, hj] at k2
        omega
      have key : p ∣ dot n E r (fun i => so (4 * j + i)) - sm n.toNat (fun i => (if i = j then E (4 * r + j) else 0) + (if i = k then -E (4 * r + j) else 0)) := by
        refine sm_dvd fun i i0 i1 => ?_
        (try dsimp only)
        rw [hs j i j0 j1 i0 (by omega)]
        unfold soF
        by_cases q : i = j
        · rw [if_pos q, if_pos q, if_neg (show ¬ i = k by omega), q]
          exact ⟨0, by omega⟩
        · rw [if_neg q, if_neg q]
          by_cases q2 : i = k
          · rw [if_pos q2, q2, if_pos k2, ← k3]
            have g := dvdL (one k k0 k1 k2) ((p - E (4 * pt k + j)) % p)
            rw [Int.sub_mul, Int.one_mul] at g
            have g2 := dvd_tr g (neg k j)
            rw [Int.zero_add]
            exact g2
          · rw [if_neg q2]
            rcases h4 i i0 (by omega) with q3 | q3
            · rw [if_pos q3]
              have g := (h5 i i0 (by omega) q3).2.2.1 r r0 r1 (by rw [← k3]; exact inj k i k0 k1 i0 (by omega) k2 q3 (fun e => q2 e.symm))
              have g2 := dvdL g ((p - E (4 * pt i + j)) % p)
              rw [Int.add_zero, Int.sub_zero]
              exact g2
            · rw [if_neg (by omega)]
              exact ⟨0, by omega⟩
      rw [sm_add, sm_one j0 (by omega), sm_one k0 (by omega)] at key
      exact dvd_of_sub key ⟨0, by omega⟩
    · have key : p ∣ dot n E r (fun i => so (4 * j + i)) - sm n.toNat (fun _ => 0) := sm_dvd fun i i0 i1 => by
        have g := dvdL (h6 i i0 (by omega) r (by omega) r1) (so (4 * j + i))
        rw [Int.sub_zero]
        exact g
      rw [sm_none] at key
      exact dvd_of_sub key ⟨0, by omega⟩
  · rw [hs j j j0 j1 j0 j1]
    exact if_pos rfl
  · rw [hs j i j0 j1 i0 i1]
    unfold soF
    rw [if_neg hij, if_neg (by omega)]
  · rw [hs j i j0 (by omega) (by omega) i1]
    unfold soF
    rw [if_neg (by omega)]
    by_cases q : fr i = 0
    · rw [if_pos q]
      refine Int.emod_eq_zero_of_dvd (Int.dvd_sub ⟨1, by omega⟩ ?_)
      exact (h5 i (by omega) i1 q).2.2.2 j j0 ji
    · rw [if_neg q]
  · have hr := (h5 i i0 i1 hi).1
    have hx : p ∣ dot n E (pt i) x := (h2 x).2 hx (pt i) hr.1 (by omega)
    have key : p ∣ dot n E (pt i) x - sm n.toNat (fun j => (if j = i then x i else 0) + (-1) * (if fr j = 1 then x j * so (4 * j + i) else 0)) := by
      refine sm_dvd fun j j0 j1 => ?_
      (try dsimp only)
      rcases h4 j j0 (by omega) with q3 | q3
      · rw [if_neg (show ¬ fr j = 1 by omega)]
        by_cases q : j = i
        · rw [if_pos q, q]
          have g := dvdL (one i i0 i1 hi) (x i)
          rw [Int.sub_mul, Int.one_mul] at g
          rw [Int.mul_zero, Int.add_zero]
          exact g
        · rw [if_neg q]
          have g := (h5 j j0 (by omega) q3).2.2.1 (pt i) hr.1 (by omega) (fun e => inj i j i0 i1 j0 (by omega) hi q3 (fun e => q e.symm) e)
          have g2 := dvdL g (x j)
          rw [Int.mul_zero, Int.add_zero, Int.sub_zero]
          exact g2
      · rw [if_pos q3]
        have q : j ≠ i := fun e => by
          rw [e] at q3
          omega
        rw [if_neg q, hs j i j0 (by omega) i0 i1]
        unfold soF
        rw [if_neg (fun e => q e.symm), if_pos hi]
        have g := dvdR (neg i j) (x j)
        rw [show E (4 * pt i + j) * x j - (0 + -1 * (x j * ((p - E (4 * pt i + j)) % p))) = x j * ((p - E (4 * pt i + j)) % p - -E (4 * pt i + j)) by grind]
        exact g
    rw [sm_add, sm_mul, sm_one i0 (by omega)] at key
    have g := dvd_of_sub' key hx
    rw [show x i - sm n.toNat (fun j => if fr j = 1 then x j * so (4 * j + i) else 0) = x i + -1 * sm n.toNat (fun j => if fr j = 1 then x j * so (4 * j + i) else 0) by omega]
    exact g
