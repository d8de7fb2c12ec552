/-! The discriminant of a moved curve is the discriminant moved. -/
theorem hm_m1 {p : Int} {O : Type} [I : Lean.Grind.CommRing O] {φ : (Int → Int) → O} (h : HM p φ) : φ (nC (-1)) = -1 := by
  have a := h.nC_add (-1) 1
  rw [show (-1 : Int) + 1 = 0 from rfl, h.nC_0, h.nC_1] at a
  grind
theorem hmd_ev {p : Int} {O : Type} [I : Lean.Grind.CommRing O] {φ : (Int → Int) → O} (h : HM p φ) (a : O) : HMd p (evF φ a 400) := by
  refine ⟨fun f g => ev_add h a 400 f g, fun f g df dg => ?_, fun f => ev_mod h a 400 f, fun f => ?_, ?_, ev_zero h a 400⟩
  · have e := ev_mul h a 200 g (fun x hx => dg x (by omega)) 200 f (fun x hx => df x (by omega))
    rw [ev_more h a (N := 200) (M := 400) (f := f) (by omega) (fun x hx => df x (by omega)), ev_more h a (N := 200) (M := 400) (f := g) (by omega) (fun x hx => dg x (by omega))]
    exact e
  · rw [ev_sca h, hm_m1 h]
    grind
  · unfold evF
    rw [su_one 0 (by decide) (by decide) (fun i _ _ ni => by (try dsimp only); rw [if_neg ni, h.nC_0]; grind)]
    (try dsimp only)
    rw [if_pos rfl, h.nC_1, show (0 : Int).toNat = 0 from rfl, Lean.Grind.Semiring.pow_zero]
    grind
theorem hmd_smsu {p : Int} {O : Type} [I : Lean.Grind.CommRing O] {φ : (Int → Int) → O} (h : HMd p φ) (f : Int → Int → Int) : ∀ n : Nat, φ (fun x => sm n (fun l => f l x)) = su n (fun l => φ (f l))
  | 0 => h.2.2.2.2.2
  | n + 1 => by rw [hmd_sm h, hmd_smsu h f n, su_succ]
theorem NW_ex (p n : Int) (C : Int → Int → Int) : ∃ P, NW p n C P := by
  have st : ∀ m : Nat, ∃ P : Int → Int → Int, ∀ k : Int, 0 ≤ k → k < m → ∀ x, P k x = nwV n C P k x % p := fun m => by
    induction m with
    | zero => exact ⟨fun _ _ => 0, fun k a b => by omega⟩
    | succ m ih =>
      obtain ⟨P, hP⟩ := ih
      have cg : ∀ k : Int, k ≤ m → ∀ x, nwV n C (fun k x => if k = m then nwV n C P m x % p else P k x) k x = nwV n C P k x := fun k hk x => nwV_congr (fun j j0 j1 i => if_neg (by omega))
      refine ⟨fun k x => if k = m then nwV n C P m x % p else P k x, fun k k0 k1 x => ?_⟩
      rw [cg k (by omega) x]
      (try dsimp only)
      by_cases q : k = m
      · rw [if_pos q, q]
      · rw [if_neg q]
        exact hP k k0 (by omega) x
  obtain ⟨P, hP⟩ := st (2 * n).toNat
  exact ⟨P, fun k k0 k1 x => hP k k0 (by omega) x⟩
theorem nw_mv {p n : Int} {O : Type} [I : Lean.Grind.CommRing O] {φ : (Int → Int) → O} {a : O} (h : HM p φ) (hn : 2 ≤ n ∧ n ≤ 4) {C Cc P Pc : Int → Int → Int} (zC : ∀ j x, x < 0 → Cc j x = 0) (dC : ∀ j, PDg (C j)) (dP : ∀ j, j ≤ 6 → PDg (P j)) (eC : ∀ l, 0 ≤ l → l < n → evF φ a 400 (C l) = φ (Cc l)) (hP : NW p n C P) (hPc : NW p n Cc Pc) : ∀ (m : Nat) (k : Int), k < m → 0 ≤ k → k ≤ 2 * n - 2 → evF φ a 400 (P k) = φ (Pc k)
  | 0, k, km, k0, k1 => by omega
  | m + 1, k, km, k0, k1 => by
    have d := hmd_ev h a
    have ih := nw_mv (a := a) h hn zC dC dP eC hP hPc m
    rw [nw_o h hPc k0 k1, show P k = fun x => (fun x => (fun x => if k = 0 then (if x = 0 then n else 0) else if k ≤ n then -k * C (n - k) x else 0) x + (fun x => -1 * (fun x => sm (min (k - 1) n).toNat (fun i => cnv (C (n - 1 - i)) (P (k - 1 - i)) x)) x) x) x % p from funext fun x => hP k k0 k1 x, d.2.2.1, d.1, d.2.2.2.1, hmd_smsu d, hm_smsu h]
    have e2 : su (min (k - 1) n).toNat (fun i => evF φ a 400 (cnv (C (n - 1 - i)) (P (k - 1 - i)))) = su (min (k - 1) n).toNat (fun i => φ (cnv (Cc (n - 1 - i)) (Pc (k - 1 - i)))) := su_congr fun i i0 i1 => by
      rw [d.2.1 _ _ (dC _) (dP _ (by omega)), h.2.1, eC _ (by omega) (by omega), ih _ (by omega) (by omega) (by omega)]
    have e1 : evF φ a 400 (fun x => if k = 0 then (if x = 0 then n else 0) else if k ≤ n then -k * C (n - k) x else 0) = φ (fun x => if k = 0 then (if x = 0 then n else 0) else if k ≤ n then -k * Cc (n - k) x else 0) := by
      by_cases q : k = 0
      · rw [show (fun x : Int => if k = 0 then (if x = 0 then n else 0) else if k ≤ n then -k * C (n - k) x else 0) = nC n from funext fun x => if_pos q, show (fun x : Int => if k = 0 then (if x = 0 then n else 0) else if k ≤ n then -k * Cc (n - k) x else 0) = nC n from funext fun x => if_pos q]
        unfold evF
        rw [su_one 0 (by decide) (by decide) (fun i _ _ ni => by rw [show nC n i = 0 from if_neg ni, h.nC_0]; grind), show nC n 0 = n from rfl, show (0 : Int).toNat = 0 from rfl, Lean.Grind.Semiring.pow_zero]
        grind
      · by_cases q2 : k ≤ n
        · rw [show (fun x : Int => if k = 0 then (if x = 0 then n else 0) else if k ≤ n then -k * C (n - k) x else 0) = fun x => -k * C (n - k) x from funext fun x => (if_neg q).trans (if_pos q2), show (fun x : Int => if k = 0 then (if x = 0 then n else 0) else if k ≤ n then -k * Cc (n - k) x else 0) = fun x => -k * Cc (n - k) x from funext fun x => (if_neg q).trans (if_pos q2), ev_sca h, eC _ (by omega) (by omega), ← h.scal (zC _)]
        · rw [show (fun x : Int => if k = 0 then (if x = 0 then n else 0) else if k ≤ n then -k * C (n - k) x else 0) = fun _ => 0 from funext fun x => (if_neg q).trans (if_neg q2), show (fun x : Int => if k = 0 then (if x = 0 then n else 0) else if k ≤ n then -k * Cc (n - k) x else 0) = fun _ => 0 from funext fun x => (if_neg q).trans (if_neg q2), ev_zero h, h.2.2.2.2.2.1]
    rw [e1, e2]
    grind
theorem ds_d2 {p : Int} {O : Type} [I : Lean.Grind.CommRing O] {φ : (Int → Int) → O} (h : HMd p φ) {E : Int → Int → Int} (dE : ∀ k : Int, 0 ≤ k → k < 16 → PDg (E k)) (dC : ∀ (r : Int) (k : Nat) (i : Int), 0 ≤ r → r < 4 → k < 3 → PDg (bkC p r E k i)) (dH : ∀ r h : Int, 0 ≤ r → r < 4 → PDg (bkH p r E h)) (dQ : ∀ (r : Nat) (i : Int), r < 4 → PDg (bkQ p E r i)) : φ (dsM p 2 E) = dt2 (fun i j => φ (E (4 * i + j))) := by
  have b := (bkd_ch2 (E := E) h dE dC dH dQ).2
  rw [show dsM p 2 E = bkQ p E 2 2 from funext fun x => if_neg (by decide), b]
  show _ = φ (E 0) * φ (E 5) - φ (E 1) * φ (E 4)
  clear b
  grind
theorem ds_d3 {p : Int} {O : Type} [I : Lean.Grind.CommRing O] {φ : (Int → Int) → O} (h : HMd p φ) {E : Int → Int → Int} (dE : ∀ k : Int, 0 ≤ k → k < 16 → PDg (E k)) (dC : ∀ (r : Int) (k : Nat) (i : Int), 0 ≤ r → r < 4 → k < 3 → PDg (bkC p r E k i)) (dH : ∀ r h : Int, 0 ≤ r → r < 4 → PDg (bkH p r E h)) (dQ : ∀ (r : Nat) (i : Int), r < 4 → PDg (bkQ p E r i)) : φ (dsM p 3 E) = dt3 (fun i j => φ (E (4 * i + j))) := by
  have b := (bkd_ch3 (E := E) h dE dC dH dQ).2.2
  rw [show dsM p 3 E = fun x => (fun x => -1 * bkQ p E 3 3 x) x % p from funext fun x => if_pos (by decide), h.2.2.1, h.2.2.2.1, b]
  show _ = φ (E 0) * φ (E 5) * φ (E 10) - φ (E 0) * φ (E 6) * φ (E 9) - φ (E 1) * φ (E 4) * φ (E 10) + φ (E 1) * φ (E 6) * φ (E 8) + φ (E 2) * φ (E 4) * φ (E 9) - φ (E 2) * φ (E 5) * φ (E 8)
  clear b
  grind
theorem ds_d4 {p : Int} {O : Type} [I : Lean.Grind.CommRing O] {φ : (Int → Int) → O} (h : HMd p φ) {E : Int → Int → Int} (dE : ∀ k : Int, 0 ≤ k → k < 16 → PDg (E k)) (dC : ∀ (r : Int) (k : Nat) (i : Int), 0 ≤ r → r < 4 → k < 3 → PDg (bkC p r E k i)) (dH : ∀ r h : Int, 0 ≤ r → r < 4 → PDg (bkH p r E h)) (dQ : ∀ (r : Nat) (i : Int), r < 4 → PDg (bkQ p E r i)) : φ (dsM p 4 E) = dt4 (fun i j => φ (E (4 * i + j))) := by
  have b := (bkd_ch4 (E := E) h dE dC dH dQ).2.2.2
  rw [show dsM p 4 E = bkQ p E 4 4 from funext fun x => if_neg (by decide), b]
  show _ = φ (E 0) * φ (E 5) * φ (E 10) * φ (E 15) - φ (E 0) * φ (E 5) * φ (E 11) * φ (E 14) - φ (E 0) * φ (E 6) * φ (E 9) * φ (E 15) + φ (E 0) * φ (E 6) * φ (E 11) * φ (E 13) + φ (E 0) * φ (E 7) * φ (E 9) * φ (E 14) - φ (E 0) * φ (E 7) * φ (E 10) * φ (E 13) - φ (E 1) * φ (E 4) * φ (E 10) * φ (E 15) + φ (E 1) * φ (E 4) * φ (E 11) * φ (E 14) + φ (E 1) * φ (E 6) * φ (E 8) * φ (E 15) - φ (E 1) * φ (E 6) * φ (E 11) * φ (E 12) - φ (E 1) * φ (E 7) * φ (E 8) * φ (E 14) + φ (E 1) * φ (E 7) * φ (E 10) * φ (E 12) + φ (E 2) * φ (E 4) * φ (E 9) * φ (E 15) - φ (E 2) * φ (E 4) * φ (E 11) * φ (E 13) - φ (E 2) * φ (E 5) * φ (E 8) * φ (E 15) + φ (E 2) * φ (E 5) * φ (E 11) * φ (E 12) + φ (E 2) * φ (E 7) * φ (E 8) * φ (E 13) - φ (E 2) * φ (E 7) * φ (E 9) * φ (E 12) - φ (E 3) * φ (E 4) * φ (E 9) * φ (E 14) + φ (E 3) * φ (E 4) * φ (E 10) * φ (E 13) + φ (E 3) * φ (E 5) * φ (E 8) * φ (E 14) - φ (E 3) * φ (E 5) * φ (E 10) * φ (E 12) - φ (E 3) * φ (E 6) * φ (E 8) * φ (E 13) + φ (E 3) * φ (E 6) * φ (E 9) * φ (E 12)
  clear b
  grind
theorem ds_mv {p n c : Int} {C Cc P Pc : Int → Int → Int} (hp : isPr p) (hn : 2 ≤ n ∧ n ≤ 4) (zC : ∀ j x, x < 0 → Cc j x = 0) (dC : ∀ j, PDg (C j)) (eC : ∀ l, 0 ≤ l → l < n → Cc l = shf p c 6 (C l)) (sC : ∀ l x, 0 ≤ l → l < n → (x < 0 ∨ 6 < x) → C l x = 0) (dP : ∀ k x, 6 * k < x → P k x = 0) (nP : ∀ k x, x < 0 → P k x = 0) (hP : NW p n C P) (hPc : NW p n Cc Pc) (dD : ∀ x, (x < 0 ∨ 199 < x) → dsM p n (trE n P) x = 0) (x : Int) (x0 : 0 ≤ x) : dsM p n (trE n Pc) x = shf p c 199 (dsM p n (trE n P)) x := by
  obtain ⟨O, I, φ, h⟩ := hms_ex hp.two.1
  have b2 := hp.two
  refine h.1.eqv ?_ (dsM_bd b2.1) (mvN_bd (by omega) (dsM_bd b2.1) _) x x0
  have ax : ∃ a, a = φ t1 + φ (nC c) := ⟨_, rfl⟩
  obtain ⟨a, ha⟩ := ax
  have d := hmd_ev h.1 a
  have eV : ∀ l, 0 ≤ l → l < n → evF φ a 400 (C l) = φ (Cc l) := fun l l0 l1 => by
    rw [eC l l0 l1, shf_ev h.1 ha (by omega) (fun x hx => sC l x l0 l1 (Or.inl hx)) (fun x hx => sC l x l0 l1 (Or.inr hx))]
    exact ev_more h.1 a (by decide) (fun x hx => sC l x l0 l1 (Or.inr (by omega)))
  have eP := nw_mv (a := a) h.1 hn zC dC (fun j hj x hx => dP j x (by omega)) eV hP hPc (2 * n).toNat
  have dT : ∀ i l x, 0 ≤ i → i < 4 → 0 ≤ l → l < 4 → 30 + 6 * i < x → trE n P (4 * i + l) x = 0 := fun i l x i0 i1 l0 l1 hx => by
    unfold trE
    split
    · exact dP _ x (by omega)
    · rfl
  have dE : ∀ k : Int, 0 ≤ k → k < 16 → PDg (trE n P k) := fun k k0 k1 x hx => by
    have := dT (k / 4) (k % 4) x (by omega) (by omega) (by omega) (by omega) (by omega)
    rw [show 4 * (k / 4) + k % 4 = k by omega] at this
    exact this
  have dC' : ∀ (r : Int) (k : Nat) (i : Int), 0 ≤ r → r < 4 → k < 3 → PDg (bkC p r (trE n P) k i) := fun r k i r0 r1 hk x hx => bkC_deg dT (by omega) k i x (by omega)
  have dH : ∀ r h : Int, 0 ≤ r → r < 4 → PDg (bkH p r (trE n P) h) := fun r h r0 r1 x hx => by
    by_cases q : h < 0 ∨ r + 1 < h
    · exact if_pos q
    · exact bkH_deg (e := 6) dT (by omega) (by omega) h x (by omega)
  have dQ : ∀ (r : Nat) (i : Int), r < 4 → PDg (bkQ p (trE n P) r i) := fun r i hr x hx => by
    by_cases q : i ≤ 4
    · exact bkQ_deg dT r (by omega) i x (by omega)
    · match r, hr with
      | 0, _ => exact if_neg (by omega)
      | r + 1, hr => exact if_neg (by omega)
  show φ (dsM p n (trE n Pc)) = φ (shf p c 199 (dsM p n (trE n P)))
  rw [shf_ev h.1 ha (by omega) (fun x hx => dD x (Or.inl hx)) (fun x hx => dD x (Or.inr hx)), show ((199 : Int) + 1).toNat = 200 from rfl, ← ev_more h.1 a (N := 200) (M := 400) (by decide) (fun x hx => dD x (Or.inr (by omega)))]
  have ent : ∀ i j, 0 ≤ i → i < n → 0 ≤ j → j < n → φ (trE n Pc (4 * i + j)) = evF φ a 400 (trE n P (4 * i + j)) := fun i j i0 i1 j0 j1 => by
    rw [show trE n Pc (4 * i + j) = Pc (i + j) from funext fun x => by unfold trE; rw [if_pos (by omega), show (4 * i + j) / 4 + (4 * i + j) % 4 = i + j by omega], show trE n P (4 * i + j) = P (i + j) from funext fun x => by unfold trE; rw [if_pos (by omega), show (4 * i + j) / 4 + (4 * i + j) % 4 = i + j by omega]]
    exact (eP (i + j) (by omega) (by omega) (by omega)).symm
  rcases (show n = 2 ∨ n = 3 ∨ n = 4 by omega) with rfl | rfl | rfl
  · rw [ds_o2 h.1, ds_d2 d dE dC' dH dQ]
    exact dtC2 ent
  · rw [ds_o3 h.1, ds_d3 d dE dC' dH dQ]
    exact dtC3 ent
  · rw [ds_o4 h.1, ds_d4 d dE dC' dH dQ]
    exact dtC4 ent
