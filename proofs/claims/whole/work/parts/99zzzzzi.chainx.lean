/-! The chain of rings: there is one, and only one. -/
theorem row_ex {p J : Int} (hp : 0 < p) {R0 : Int → Int → Int} {f' : Int → Int → Int → Int} {dp' : Int → Int} (hd : ∀ i, 0 ≤ i → i < J → 0 ≤ dp' i ∧ dp' i ≤ 20) (hg : ∀ i m, 0 ≤ i → i < J → 0 ≤ m → m < 21 → f' i i m = if m = dp' i then 1 else 0) : ∀ r : Nat, (r : Int) ≤ J → ∃ s : Int → Int → Int, (∀ i e, i < J - r → s i e = 0) ∧ ∀ i m, J - r ≤ i → i < J → 0 ≤ m → m ≤ dp' i → rdV p J R0 f' s i m = 0
  | 0, _ => ⟨fun _ _ => 0, fun _ _ _ => rfl, fun i m a b => by omega⟩
  | r + 1, hr => by
    obtain ⟨s, s0, s1⟩ := row_ex hp hd hg r (by omega)
    have I0 : 0 ≤ J - r - 1 := by omega
    have I1 : J - r - 1 < J := by omega
    have dI := hd _ I0 I1
    have inner : ∀ q : Nat, (q : Int) ≤ dp' (J - r - 1) + 1 → ∃ s : Int → Int → Int, (∀ i e, i < J - r - 1 → s i e = 0) ∧ (∀ e, (q : Int) ≤ e → s (J - r - 1) e = 0) ∧ (∀ i m, J - r ≤ i → i < J → 0 ≤ m → m ≤ dp' i → rdV p J R0 f' s i m = 0) ∧ ∀ m, dp' (J - r - 1) - q < m → m ≤ dp' (J - r - 1) → 0 ≤ m → rdV p J R0 f' s (J - r - 1) m = 0 := fun q => by
      induction q with
      | zero => exact fun _ => ⟨s, fun i e h => s0 i e (by omega), fun e _ => s0 _ e (by omega), s1, fun m a b => by omega⟩
      | succ q ih =>
        intro hq
        obtain ⟨t, t0, t1, t2, t3⟩ := ih (by omega)
        have up := fun l m => rdV_upd (p := p) (j := J) (i := J - r - 1) (e := q) (v := rdV p J R0 f' t (J - r - 1) (dp' (J - r - 1) - q)) (R0 := R0) (s := t) (fx := f') ⟨I0, I1⟩ ⟨by omega, by omega⟩ (t1 q (Int.le_refl _)) l m
        refine ⟨fun a b => if a = J - r - 1 ∧ b = (q : Int) then rdV p J R0 f' t (J - r - 1) (dp' (J - r - 1) - q) else t a b, fun i e h => ?_, fun e h => ?_, fun i m a b c d => ?_, fun m a b c => ?_⟩
        · (try dsimp only)
          rw [if_neg (by omega)]
          exact t0 i e h
        · (try dsimp only)
          rw [if_neg (by omega)]
          exact t1 e (by omega)
        · rw [up, t2 i m a b c d]
          unfold rdX
          rw [if_neg (by omega), Int.mul_zero]
          exact Int.zero_emod p
        · rw [up]
          unfold rdX
          by_cases w : m = dp' (J - r - 1) - q
          · rw [w, if_pos ⟨Int.le_refl _, by omega⟩, hg _ _ I0 I1 (by omega) (by omega), if_pos (by omega), show ∀ z : Int, z + -1 * (z * 1) = 0 from fun z => by omega]
            exact Int.zero_emod p
          · rw [t3 m (by omega) b c]
            by_cases w2 : m + (q : Int) < 21
            · rw [if_pos ⟨Int.le_refl _, w2⟩, hg _ _ I0 I1 (by omega) w2, if_neg (by omega), Int.mul_zero]
              exact Int.zero_emod p
            · rw [if_neg (fun z => w2 z.2), Int.mul_zero]
              exact Int.zero_emod p
    obtain ⟨t, t0, t1, t2, t3⟩ := inner (dp' (J - r - 1) + 1).toNat (by omega)
    refine ⟨t, fun i e h => t0 i e (by omega), fun i m a b c d => ?_⟩
    by_cases w : i = J - r - 1
    · rw [w]
      rw [w] at d
      exact t3 m (by omega) d c
    · exact t2 i m (by omega) b c d
theorem nx_ex {p n : Int} {g : Int → Int} {fig : Int → Int → Int → Int} {dp : Int → Int} (h2 : 2 ≤ p ∧ p ≤ 7) (hn : 2 ≤ n ∧ n ≤ 4) (hd : ∀ j, 0 ≤ j → j < n → 0 ≤ dp j ∧ dp j + gbF (g j) ≤ 20) : ∀ J : Nat, (J : Int) ≤ n → ∃ f' : Int → Int → Int → Int, ∀ j : Int, 0 ≤ j → j < J → NX1 p j (g j) fig dp f' (fun j => dp j + gbF (g j))
  | 0, _ => ⟨fun _ _ _ => 0, fun j a b => by omega⟩
  | J + 1, hJ => by
    obtain ⟨f, hf⟩ := nx_ex h2 hn hd J (by omega)
    have db : ∀ i, 0 ≤ i → i < n → 0 ≤ dp i + gbF (g i) ∧ dp i + gbF (g i) ≤ 20 := fun i i0 i1 => by
      have a := hd i i0 i1
      have b := gbF_or (g i)
      omega
    obtain ⟨s, -, hs⟩ := row_ex (p := p) (J := J) (R0 := fun l m => gwV p (gbF (g J)) (gcF p (g J) J) fig (J + 1) l m) (f' := f) (dp' := fun j => dp j + gbF (g j)) (by omega) (fun i i0 i1 => db i i0 (by omega)) (fun i m i0 i1 m0 m1 => (hf i i0 i1).2.1 m m0 m1) J (Int.le_refl _)
    have hs' : ∀ i m, 0 ≤ i → i < (J : Int) → 0 ≤ m → m ≤ dp i + gbF (g i) → rdV p J (fun l m => gwV p (gbF (g J)) (gcF p (g J) J) fig (J + 1) l m) f s i m = 0 := fun i m a b c d => hs i m (by omega) b c d
    have go : ∀ R : Int → Int → Int, (∀ l m, 0 ≤ l → l < (J : Int) → R l m = rdV p J (fun l m => gwV p (gbF (g J)) (gcF p (g J) J) fig (J + 1) l m) f s l m) → (∀ m, R J m = if m = dp J + gbF (g J) then 1 else 0) → (∀ l m, (J : Int) < l → R l m = 0) → ∃ f' : Int → Int → Int → Int, ∀ j : Int, 0 ≤ j → j < ((J + 1 : Nat) : Int) → NX1 p j (g j) fig dp f' (fun j => dp j + gbF (g j)) := fun R R1 R2 R3 => by
      obtain ⟨f2, fa, fJ⟩ : ∃ f2 : Int → Int → Int → Int, (∀ a : Int, a ≠ J → f2 a = f a) ∧ f2 J = R := ⟨fun a => if a = J then R else f a, fun a h => if_neg h, if_pos rfl⟩
      refine ⟨f2, fun j j0 j1 => ?_⟩
      by_cases q : j = J
      · rw [q]
        unfold NX1
        rw [fJ]
        refine ⟨rfl, fun m _ _ => R2 m, fun i m i0 i1 m0 m1 => ?_, fun i m i0 i1 m0 m1 => R3 i m i0, fun i m i0 i1 m0 m1 => ?_, s, fun l m l0 l1 m0 m1 => ?_⟩
        · rw [R1 i m i0 i1]
          exact hs' i m i0 i1 m0 m1
        · rcases Int.lt_trichotomy i J with w | w | w
          · rw [R1 i m i0 w]
            exact ⟨em_ge (by omega), em_lt (by omega)⟩
          · rw [w, R2]
            split <;> omega
          · rw [R3 i m w]
            omega
        · rw [R1 l m l0 l1]
          unfold rdV
          rw [rdX_congr (f := f) (f' := f2) (fun i l m i0 i1 l0 l1 m0 m1 => by rw [fa i (by omega)]) l m l0 m0]
      · refine (hf j j0 (by omega)).congr j0 (by omega) (fun a i m a0 a1 _ _ _ _ => by rw [fa a (by omega)]) (fun a _ _ => rfl) (fun a a0 a1 => (db a a0 (by omega)).2)
    refine go (fun l m => if l < J then rdV p J (fun l m => gwV p (gbF (g J)) (gcF p (g J) J) fig (J + 1) l m) f s l m else if l = J then (if m = dp J + gbF (g J) then 1 else 0) else 0) (fun l m _ l1 => if_pos l1) (fun m => ?_) (fun l m l1 => ?_)
    · rw [if_neg (by omega), if_pos rfl]
    · rw [if_neg (by omega), if_neg (by omega)]
theorem fst_ex {P : Int → Prop} {lo : Int} : ∀ k : Nat, ∃ t, fstP P lo (lo + k) t
  | 0 => ⟨-1, Or.inl ⟨rfl, fun a b c => by omega⟩⟩
  | k + 1 => by
    obtain ⟨t, ht⟩ := fst_ex (P := P) (lo := lo) k
    rcases ht with h | h
    · by_cases q : P (lo + k)
      · refine ⟨lo + k, Or.inr ⟨by omega, by omega, q, fun a a0 a1 => h.2 a a0 a1⟩⟩
      · refine ⟨-1, Or.inl ⟨rfl, fun a a0 a1 => ?_⟩⟩
        by_cases w : a = lo + k
        · rw [w]
          exact q
        · exact h.2 a a0 (by omega)
    · exact ⟨t, Or.inr ⟨h.1, by omega, h.2.2.1, h.2.2.2⟩⟩
theorem gn_ex {p n : Int} (hp : 2 ≤ p) (T1 T2 : Int → Int) : ∃ top g, GN p n T1 T2 top g := by
  have ex : ∀ (P : Int → Prop) (j : Int), ∃ t, fstP P (pwI p j.toNat) (2 * pwI p j.toNat) t := fun P j => by
    obtain ⟨t, ht⟩ := fst_ex (P := P) (lo := pwI p j.toNat) (pwI p j.toNat).toNat
    have := (pwI_le hp j.toNat 0).1
    rw [show pwI p j.toNat + ((pwI p j.toNat).toNat : Int) = 2 * pwI p j.toNat by omega] at ht
    exact ⟨t, ht⟩
  refine ⟨fun j => Classical.choose (ex (isN p n T1) j), fun j => Classical.choose (ex (kpR p n T1 T2 (isN p n T1) (fun j => Classical.choose (ex (isN p n T1) j))) j), fun j _ _ => Classical.choose_spec (ex (isN p n T1) j), fun j _ _ => Classical.choose_spec (ex (kpR p n T1 T2 (isN p n T1) (fun j => Classical.choose (ex (isN p n T1) j))) j)⟩
theorem chain_ex {O E : Type} [I : Lean.Grind.CommRing O] [J : Lean.Grind.CommRing E] {φ : (Int → Int) → O} {ι : O → E} {y : E} {p n : Int} {C : Int → Int → Int} (h : HMs p φ) (hp : isPr p) (hn : 2 ≤ n ∧ n ≤ 4) (A : ALG n.toNat (fun l => φ (C l)) ι y) (hM : MTH p n C) : ∃ (L : Int) (fK : Int → Int → Int → Int → Int) (dK : Int → Int → Int), 0 ≤ L ∧ L ≤ 18 ∧ PCH p n C fK dK L ∧ CLO p n C fK dK L := by
  have go : ∀ k : Nat, k ≤ 19 → (∃ (L : Int) (fK : Int → Int → Int → Int → Int) (dK : Int → Int → Int), 0 ≤ L ∧ L ≤ 18 ∧ PCH p n C fK dK L ∧ CLO p n C fK dK L) ∨ ∃ (fK : Int → Int → Int → Int → Int) (dK : Int → Int → Int), PCH p n C fK dK k := fun k => by
    induction k with
    | zero => exact fun _ => Or.inr ⟨fun _ => fg0, fun _ _ => 0, fun l i m _ _ _ _ _ _ => rfl, fun l _ _ => rfl, fun k a b => by omega⟩
    | succ k ih =>
      intro hk
      rcases ih (by omega) with w | ⟨fK, dK, pch⟩
      · exact Or.inl w
      · obtain ⟨top, g, gn⟩ := gn_ex (n := n) hp.two.1 (tb1 p n C (fK k) (dK k) 0) (tb1 p n C (fK k) (dK k) 1)
        have m := hM fK dK k (by omega) (by omega) pch
        by_cases q : ∀ j, 0 ≤ j → j < n → g j < 0
        · exact Or.inl ⟨k, fK, dK, by omega, by omega, pch, Or.inr ⟨top, g, gn, q⟩⟩
        · obtain ⟨f', hf'⟩ := nx_ex (g := g) (fig := fK k) (dp := dK k) hp.two hn (fun j j0 j1 => ⟨(m.2.1.1 j j0 j1).1, m.2.2.2.2 top g gn j j0 j1⟩) n.toNat (by omega)
          obtain ⟨F, ka, kk⟩ : ∃ F : Int → Int → Int → Int → Int, (∀ a : Int, a ≠ (k : Int) + 1 → F a = fK a) ∧ F ((k : Int) + 1) = f' := ⟨fun a => if a = (k : Int) + 1 then f' else fK a, fun a h => if_neg h, if_pos rfl⟩
          obtain ⟨D, da, dk⟩ : ∃ D : Int → Int → Int, (∀ a : Int, a ≠ (k : Int) + 1 → D a = dK a) ∧ D ((k : Int) + 1) = fun j => dK k j + gbF (g j) := ⟨fun a => if a = (k : Int) + 1 then (fun j => dK k j + gbF (g j)) else dK a, fun a h => if_neg h, if_pos rfl⟩
          refine Or.inr ⟨F, D, ?_, ?_, fun a a0 a1 => ?_⟩
          · rw [ka 0 (by omega)]
            exact pch.1
          · rw [da 0 (by omega)]
            exact pch.2.1
          · by_cases w : a = k
            · rw [w, ka k (by omega), da k (by omega), kk, dk]
              refine ⟨top, g, gn, ?_, fun j j0 j1 => hf' j j0 (by omega)⟩
              exact Classical.byContradiction (fun z => q (fun j j0 j1 => Classical.byContradiction (fun z2 => z ⟨j, j0, j1, by omega⟩)))
            · rw [ka a (by omega), da a (by omega), ka (a + 1) (by omega), da (a + 1) (by omega)]
              exact pch.2.2 a a0 (by omega)
  rcases go 19 (by omega) with w | ⟨fK, dK, pch⟩
  · exact w
  · have := (hM fK dK 19 (by omega) (by omega) pch).1
    omega
/-- chains agree, as far as both go -/
theorem chain_one {O E : Type} [I : Lean.Grind.CommRing O] [J : Lean.Grind.CommRing E] {φ : (Int → Int) → O} {ι : O → E} {y : E} {p n L L' : Int} {C : Int → Int → Int} (h : HMs p φ) (hp : isPr p) (hn : 2 ≤ n ∧ n ≤ 4) (A : ALG n.toNat (fun l => φ (C l)) ι y) {fK fK' : Int → Int → Int → Int → Int} {dK dK' : Int → Int → Int} (hL : L ≤ 18) (hL' : L' ≤ 18) (a : PCH p n C fK dK L) (b : PCH p n C fK' dK' L') : ∀ k : Nat, (k : Int) ≤ L → (k : Int) ≤ L' → fgR n (fK k) (fK' k) ∧ ∀ l, 0 ≤ l → l < n → dK' k l = dK k l
  | 0, _, _ => ⟨fun l i m l0 l1 i0 i1 m0 m1 => (b.1 l i m l0 l1 i0 i1 m0 (by omega)).trans (a.1 l i m l0 l1 i0 i1 m0 (by omega)).symm, fun l l0 l1 => (b.2.1 l l0 l1).trans (a.2.1 l l0 l1).symm⟩
  | k + 1, h1, h2 => by
    obtain ⟨hf, hd⟩ := chain_one h hp hn A hL hL' a b k (by omega) (by omega)
    have v := chain_rst h hp hn A (by omega) a k (by omega)
    have v' := chain_rst h hp hn A (by omega) b k (by omega)
    obtain ⟨top, g, gn, -, nx⟩ := a.2.2 k (by omega) (by omega)
    obtain ⟨top', g', gn', -, nx'⟩ := b.2.2 k (by omega) (by omega)
    have gg := GN.uniq hp.two.1 (GN.fg v v' hf gn) gn'
    have ed : ∀ l, 0 ≤ l → l < n → dK' ((k : Int) + 1) l = dK ((k : Int) + 1) l := fun l l0 l1 => by
      rw [(nx' l l0 l1).1, (nx l l0 l1).1, hd l l0 l1, gg l l0 l1]
    have e : (((k + 1 : Nat)) : Int) = (k : Int) + 1 := by omega
    rw [e]
    refine ⟨fun l i m l0 l1 i0 i1 m0 m1 => ?_, ed⟩
    have sp := nx_span v (by omega) gn nx
    have sp' := nx_span v' (by omega) gn' nx'
    have r1 := nx_rst v (by omega) gn nx
    have r2 := nx_rst v' (by omega) gn' nx'
    have lb := LT.b (B := fun l => vE φ ι y n.toNat (bR (fK' ((k : Int) + 1)) l)) A l0 (by omega)
    have mu := (sp' _).mp lb
    rw [lt_fg hn.2 hf] at mu
    have rd : RDC n (fK' ((k : Int) + 1)) (dK ((k : Int) + 1)) := ⟨r1.1.1, fun l m l0 l1 m0 m1 => by rw [← ed l l0 l1]; exact r2.1.2.1 l m l0 l1 m0 m1, fun l i m i0 i1 l1 m0 m1 ne => by rw [← ed i i0 (by omega)]; exact r2.1.2.2 l i m i0 i1 l1 m0 m1 ne⟩
    exact rdc_uniq h hp.two.1 hn A r1.1 rd r1.2.1 r2.2.1 r1.2.2.1 r2.2.2.1 l0 l1 ((sp _).mpr mu) i0 i1 m0 m1
theorem chain_le {O E : Type} [I : Lean.Grind.CommRing O] [J : Lean.Grind.CommRing E] {φ : (Int → Int) → O} {ι : O → E} {y : E} {p n L L' : Int} {C : Int → Int → Int} (h : HMs p φ) (hp : isPr p) (hn : 2 ≤ n ∧ n ≤ 4) (A : ALG n.toNat (fun l => φ (C l)) ι y) {fK fK' : Int → Int → Int → Int → Int} {dK dK' : Int → Int → Int} (L0 : 0 ≤ L) (hL : L ≤ 18) (hL' : L' ≤ 18) (a : PCH p n C fK dK L) (c : CLO p n C fK dK L) (b : PCH p n C fK' dK' L') : L' ≤ L := Classical.byContradiction (fun q => by
  have o := chain_one h hp hn A hL hL' a b L.toNat (by omega) (by omega)
  have v := chain_rst h hp hn A (by omega) a L.toNat (by omega)
  have v' := chain_rst h hp hn A (by omega) b L.toNat (by omega)
  rw [show ((L.toNat : Nat) : Int) = L by omega] at o v v'
  obtain ⟨top', g', gn', ⟨j, j0, j1, gj⟩, -⟩ := b.2.2 L L0 (by omega)
  rcases c with c | ⟨top, g, gn, neg⟩
  · omega
  · have := GN.uniq hp.two.1 (GN.fg v v' o.1 gn) gn' j j0 j1
    have := neg j j0 j1
    omega)
/-- THE CHAIN IS ONE -/
theorem chain_eq {O E : Type} [I : Lean.Grind.CommRing O] [J : Lean.Grind.CommRing E] {φ : (Int → Int) → O} {ι : O → E} {y : E} {p n L L' : Int} {C : Int → Int → Int} (h : HMs p φ) (hp : isPr p) (hn : 2 ≤ n ∧ n ≤ 4) (A : ALG n.toNat (fun l => φ (C l)) ι y) {fK fK' : Int → Int → Int → Int → Int} {dK dK' : Int → Int → Int} (L0 : 0 ≤ L) (L0' : 0 ≤ L') (hL : L ≤ 18) (hL' : L' ≤ 18) (a : PCH p n C fK dK L) (c : CLO p n C fK dK L) (b : PCH p n C fK' dK' L') (c' : CLO p n C fK' dK' L') : L' = L ∧ ∀ k, 0 ≤ k → k ≤ L → fgR n (fK k) (fK' k) ∧ ∀ l, 0 ≤ l → l < n → dK' k l = dK k l := by
  have x := chain_le h hp hn A L0 hL hL' a c b
  have z := chain_le h hp hn A L0' hL' hL b c' a
  refine ⟨by omega, fun k k0 k1 => ?_⟩
  have := chain_one h hp hn A hL hL' a b k.toNat (by omega) (by omega)
  rw [show ((k.toNat : Nat) : Int) = k by omega] at this
  exact this
