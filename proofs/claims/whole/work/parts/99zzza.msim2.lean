/-! The model's reader follows the pure one: terms and sums. -/
theorem tk_end {T : Int → Int} {n i : Int} (hi : 0 ≤ i ∧ i ≤ n) (he : n ≤ i) : tkK T n i = 0 := Decidable.byContradiction (fun z => by
  have a := tk_go (T := T) hi z
  have b := tk_bd (T := T) hi
  omega)
theorem TO.lv {S S' : Hp} {D l p h : Int} {P : Int → Int} (r : TO S (D + 15) l p h P) (v : LV D (l + 1) S S') : TO S' (D + 15) l p h P := fun x x0 x1 => by
  rw [v.2.1 _ (by omega)]
  exact r x x0 x1
theorem TO.lv4 {S S' : Hp} {D l p h : Int} {P : Int → Int} (r : TO S (D + 14) l p h P) (v : LV D (l + 1) S S') : TO S' (D + 14) l p h P := fun x x0 x1 => by
  rw [v.1 _ (by omega)]
  exact r x x0 x1
/-- where a term ends -/
def TLk (d : Nat) (D : Int) (T : Int → Int) (n p l : Int) (S : Hp) (i h : Int) (U : Int → Int) (q : Int × Int × Int × (Int → Int)) (Q : Vl → Hp → Prop) : Prop := ¬ q.1 = 0 → i ≤ q.2.1 → ∀ S' h' g' A' P', (h' < 0 → h < 0) → mrF D S S' → LV D l S S' → zG S' D 33 = 0 → (tkK T n q.2.1 = 94 → zG S' D 34 = 0) → ¬ tkK T n q.2.1 = 42 → MRS S' D T n p l q.2.1 h' → RO S' (D + 18) p h' A' → zG S' (D + 17) l = g' → (0 ≤ g' → TO S' (D + 15) l p h' P') → zG S' (D + 16) l = zG S (D + 16) l → TO S' (D + 14) l p h' U → q.2.2.1 = hS h' g' P' A' → q.2.2.2 = pS p h' g' P' A' → mL d D 1 S' Q
theorem m_simTl {d : Nat} {D n p l : Int} {T U : Int → Int} {br : Int → Int → Int × Int × Int × (Int → Int)} (h2 : 2 ≤ p ∧ p ≤ 7) (hl : 0 ≤ l ∧ l ≤ 4) (B : sBr d D T n p l br) : ∀ (f : Nat) (S : Hp) (i h g : Int) (A P : Int → Int) (Q : Vl → Hp → Prop), MRS S D T n p l i h → zG S D 33 = 0 → (tkK T n i = 94 → zG S D 34 = 0) → RO S (D + 18) p h A → zG S (D + 17) l = g → (0 ≤ g → TO S (D + 15) l p h P) → TO S (D + 14) l p h U → n - i ≤ f → ((rdTl T n p br f i (hS h g P A) (pS p h g P A)).1 = 0 → FL d D (tkW T n (rdTl T n p br f i (hS h g P A) (pS p h g P A)).2.1) S Q) → TLk d D T n p l S i h U (rdTl T n p br f i (hS h g P A) (pS p h g P A)) Q → mL d D 1 S Q
  | 0, S, i, h, g, A, P, Q, r, e33, e94, rA, hg, rP, rU, hf, HF, HS => by
    have e0 := tk_end (T := T) r.2.2.2.1 (by omega)
    exact HS (show ¬ (1 : Int) = 0 by decide) (Int.le_refl i) S h g A P (fun z => z) (mrF.refl r.1) (LV.refl _ _ _) e33 e94 (fun z => by have : tkK T n i = 42 := z; omega) r rA hg rP rfl rU rfl rfl
  | f + 1, S, i, h, g, A, P, Q, r, e33, e94, rA, hg, rP, rU, hf, HF, HS => by
    by_cases q : tkK T n i = 42
    · have tb := tk_bd (T := T) r.2.2.2.1
      have hi := r.2.2.2.1
      have go := tk_go (T := T) hi (by omega)
      refine m_lpGo r e33 (fun y => by omega) (m_goesOn h2 hl r rA hg rP rfl rU (by omega) (fun _ S1 f1 l1 a33 r1 g1 t1 u1 s1 => ⟨1, rfl, ?_⟩) (fun y => by omega) (fun y => by omega) (fun y => absurd q y))
      have eT : rdTl T n p br (f + 1) i (hS h g P A) (pS p h g P A) = if (rdPw T n p br (tkX T n i) (hS h g P A)).1 = 0 then rdPw T n p br (tkX T n i) (hS h g P A) else rdTl T n p br f (rdPw T n p br (tkX T n i) (hS h g P A)).2.1 (mlH (rdPw T n p br (tkX T n i) (hS h g P A)).2.2.1 (pS p h g P A) (rdPw T n p br (tkX T n i) (hS h g P A)).2.2.2 (tkW T n i)) (mlP p (rdPw T n p br (tkX T n i) (hS h g P A)).2.2.1 (pS p h g P A) (rdPw T n p br (tkX T n i) (hS h g P A)).2.2.2) := if_neg (fun y => y q)
      rw [eT] at HF HS
      refine m_simPw h2 hl B r1 (by omega) (fun y => by omega) (fun z => ?_) (fun z i2 mo S2 f2 l2 b33 b94 r2 rA2 => ?_)
      · rw [if_pos z] at HF
        exact (HF z).to f1
      · rw [if_neg z] at HF HS
        generalize rdPw T n p br (tkX T n i) (hS h g P A) = t at HF HS z i2 mo b94 r2 rA2
        have eh : hS t.2.2.1 (tkW T n i) (pS p h g P A) t.2.2.2 = mlH t.2.2.1 (pS p h g P A) t.2.2.2 (tkW T n i) := if_neg (by omega)
        have ep : pS p t.2.2.1 (tkW T n i) (pS p h g P A) t.2.2.2 = mlP p t.2.2.1 (pS p h g P A) t.2.2.2 := if_neg (by omega)
        rw [← eh, ← ep] at HF HS
        have rU2 : TO S2 (D + 14) l p t.2.2.1 U := TO.up (h := h) (TO.lv4 (fun x x0 x1 => by rw [u1]; exact rU x x0 x1) l2) (fun y => hS_neg (mo y))
        refine m_simTl h2 hl B f S2 t.2.1 t.2.2.1 (tkW T n i) t.2.2.2 (pS p h g P A) Q r2 b33 b94 rA2 ((l2.2.2.2 l (by omega)).trans g1) (fun _ => (t1.lv l2).up mo) rU2 (by omega) (fun y => (HF y).to (f1.tr f2)) (fun y j3 S3 h' g' A' P' mo3 f3 l3 c33 c94 c42 r3 rA3 hg3 rP3 es3 rU3 eh3 ep3 => ?_)
        exact HS y (by omega) S3 h' g' A' P' (fun x => hS_neg (mo (mo3 x))) ((f1.tr f2).tr f3) ((l1.tr (l2.low (by omega))).tr l3) c33 c94 c42 r3 rA3 hg3 rP3 (es3.trans ((l2.2.2.1 l (by omega)).trans s1)) rU3 eh3 ep3
    · have eT : rdTl T n p br (f + 1) i (hS h g P A) (pS p h g P A) = (1, i, hS h g P A, pS p h g P A) := if_pos q
      rw [eT] at HS
      exact HS (show ¬ (1 : Int) = 0 by decide) (Int.le_refl i) S h g A P (fun z => z) (mrF.refl r.1) (LV.refl _ _ _) e33 e94 q r rA hg rP rfl rU rfl rfl
/-- where a sum ends -/
def SLk (d : Nat) (D : Int) (T : Int → Int) (n p l : Int) (S : Hp) (i h : Int) (q : Int × Int × Int × (Int → Int)) (Q : Vl → Hp → Prop) : Prop := ¬ q.1 = 0 → i < q.2.1 → ∀ S' h' g' s' A' P' U', (h' < 0 → h < 0) → mrF D S S' → LV D l S S' → zG S' D 33 = 0 → (tkK T n q.2.1 = 94 → zG S' D 34 = 0) → ¬ tkK T n q.2.1 = 42 → ¬ (tkK T n q.2.1 = 43 ∨ tkK T n q.2.1 = 45) → MRS S' D T n p l q.2.1 h' → RO S' (D + 18) p h' A' → zG S' (D + 17) l = g' → (0 ≤ g' → TO S' (D + 15) l p h' P') → s' = (if zG S' (D + 16) l = 0 then 1 else p - 1) → TO S' (D + 14) l p h' U' → q.2.2.1 = hS h' g' P' A' → q.2.2.2 = (fun x => (U' x + s' * pS p h' g' P' A' x) % p) → mL d D 1 S' Q
theorem m_simSl {d : Nat} {D n p l : Int} {T : Int → Int} {br : Int → Int → Int × Int × Int × (Int → Int)} (h2 : 2 ≤ p ∧ p ≤ 7) (hl : 0 ≤ l ∧ l ≤ 4) (B : sBr d D T n p l br) : ∀ (f : Nat) (S : Hp) (s i h : Int) (U : Int → Int) (Q : Vl → Hp → Prop), MRS S D T n p l i h → 0 < zG S D 33 → ¬ (zG S D 33 = 2 ∧ tkK T n i = 45) → zG S (D + 17) l = -1 → s = (if zG S (D + 16) l = 0 then 1 else p - 1) → TO S (D + 14) l p h U → 1 ≤ f → n - i ≤ f → ((rdSl T n p br f s i h U).1 = 0 → FL d D (tkW T n (rdSl T n p br f s i h U).2.1) S Q) → SLk d D T n p l S i h (rdSl T n p br f s i h U) Q → mL d D 1 S Q
  | 0, S, s, i, h, U, Q, r, e33, hn, hg, hs, rU, hf1, hf, HF, HS => absurd hf1 (by omega)
  | f + 1, S, s, i, h, U, Q, r, e33, hn, hg, hs, rU, hf1, hf, HF, HS => by
    have hi := r.2.2.2.1
    have nb := r.2.2.1
    refine m_simPw h2 hl B r e33 hn (fun z => ?_) (fun z i1 mo S1 f1 l1 a33 a94 r1 rA1 => ?_)
    · have eT : rdTm T n p br i h = rdPw T n p br i h := if_pos z
      have eS : rdSl T n p br (f + 1) s i h U = rdTm T n p br i h := if_pos (by rw [eT]; exact z)
      rw [eS, eT] at HF
      exact HF z
    · have eT : rdTl T n p br 100 (rdPw T n p br i h).2.1 (hS (rdPw T n p br i h).2.2.1 (-1) U (rdPw T n p br i h).2.2.2) (pS p (rdPw T n p br i h).2.2.1 (-1) U (rdPw T n p br i h).2.2.2) = rdTm T n p br i h := (if_neg z).symm
      generalize rdPw T n p br i h = t at eT z i1 mo a94 r1 rA1
      have hc := r1.2.2.2.1
      refine m_simTl (U := U) h2 hl B 100 S1 t.2.1 t.2.2.1 (-1) t.2.2.2 U Q r1 a33 a94 rA1 ((l1.2.2.2 l (by omega)).trans hg) (fun y => by omega) (TO.up (TO.lv4 rU l1) mo) (by omega) (fun y => ?_) ?_
      · rw [eT] at y ⊢
        have eS : rdSl T n p br (f + 1) s i h U = rdTm T n p br i h := if_pos y
        rw [eS] at HF
        exact (HF y).to f1
      · rw [eT]
        intro y i2 S2 h' g' A' P' mo2 f2 l2 b33 b94 b42 r2 rA2 hg2 rP2 es2 rU2 eh2 ep2
        have es : s = (if zG S2 (D + 16) l = 0 then 1 else p - 1) := by
          rw [es2, l1.2.2.1 l (by omega)]
          exact hs
        have L2 : LV D l S S2 := (l1.low (by omega)).tr l2
        by_cases q : tkK T n (rdTm T n p br i h).2.1 = 43 ∨ tkK T n (rdTm T n p br i h).2.1 = 45
        · have hc2 := r2.2.2.2.1
          have tb := tk_bd (T := T) hc2
          have go := tk_go (T := T) hc2 (by omega)
          refine m_lpGo r2 b33 (fun z => by omega) (m_goesOn h2 hl r2 rA2 hg2 rP2 es rU2 (by omega) (fun z => absurd z b42) (fun _ S3 f3 l3 c33 r3 g3 t3 s3 => ⟨1, rfl, ?_⟩) (fun z => by omega) (fun _ z => absurd q z))
          have eS : rdSl T n p br (f + 1) s i h U = rdSl T n p br f (if zG S3 (D + 16) l = 0 then 1 else p - 1) (tkX T n (rdTm T n p br i h).2.1) (rdTm T n p br i h).2.2.1 (fun x => (U x + s * (rdTm T n p br i h).2.2.2 x) % p) := by
            rw [s3]
            refine (if_neg y).trans ?_
            by_cases q3 : tkK T n (rdTm T n p br i h).2.1 = 43
            · rw [if_pos q3, if_neg (show ¬ tkK T n (rdTm T n p br i h).2.1 = 45 by omega), if_pos rfl]
            · rw [if_neg q3, if_pos (show tkK T n (rdTm T n p br i h).2.1 = 45 by omega), if_pos (show tkK T n (rdTm T n p br i h).2.1 = 45 by omega), if_neg (by decide)]
          rw [eS] at HF HS
          rw [← eh2, ← ep2] at t3
          rw [← eh2] at r3
          refine m_simSl h2 hl B f S3 _ (tkX T n (rdTm T n p br i h).2.1) (rdTm T n p br i h).2.2.1 _ Q r3 (by omega) (fun z => by omega) g3 rfl t3 (by omega) (by omega) (fun z => (HF z).to ((f1.tr f2).tr f3)) (fun z i4 S4 h4 g4 s4 A4 P4 U4 mo4 f4 l4 d33 d94 d42 d43 r4 rA4 hg4 rP4 es4 rU4 eh4 ep4 => ?_)
          exact HS z (by omega) S4 h4 g4 s4 A4 P4 U4 (fun x => mo (mo2 (hS_neg (by rw [← eh2]; exact mo4 x)))) (((f1.tr f2).tr f3).tr f4) ((L2.tr l3).tr l4) d33 d94 d42 d43 r4 rA4 hg4 rP4 es4 rU4 eh4 ep4
        · have eS : rdSl T n p br (f + 1) s i h U = (1, (rdTm T n p br i h).2.1, (rdTm T n p br i h).2.2.1, fun x => (U x + s * (rdTm T n p br i h).2.2.2 x) % p) := (if_neg y).trans ((if_neg (fun z => q (Or.inl z))).trans (if_neg (fun z => q (Or.inr z))))
          rw [eS] at HS
          refine HS (show ¬ (1 : Int) = 0 by decide) (show i < (rdTm T n p br i h).2.1 by omega) S2 h' g' s A' P' U (fun x => mo (mo2 x)) (f1.tr f2) L2 b33 b94 b42 q r2 rA2 hg2 rP2 es rU2 eh2 ?_
          show (fun x => (U x + s * (rdTm T n p br i h).2.2.2 x) % p) = _
          rw [ep2]
theorem m_simSm {d : Nat} {D n p l i h : Int} {S : Hp} {T : Int → Int} {br : Int → Int → Int × Int × Int × (Int → Int)} {Q : Vl → Hp → Prop} (h2 : 2 ≤ p ∧ p ≤ 7) (hl : 0 ≤ l ∧ l ≤ 4) (B : sBr d D T n p l br) (r : MRS S D T n p l i h) (h33 : zG S D 33 = 2) (hg : zG S (D + 17) l = -1) (hs : zG S (D + 16) l = 0) (hz : ∀ x, 49 * l ≤ x → x < 49 * l + 49 → zG S (D + 14) x = 0) (HF : (rdSm T n p br i h).1 = 0 → FL d D (tkW T n (rdSm T n p br i h).2.1) S Q) (HS : SLk d D T n p l S i h (rdSm T n p br i h) Q) : mL d D 1 S Q := by
  have hi := r.2.2.2.1
  have nb := r.2.2.1
  have rU : TO S (D + 14) l p h (fun _ => 0) := fun x x0 x1 => by
    rw [hz _ (by omega) (by omega)]
    exact ⟨by omega, fun _ => rfl⟩
  by_cases q : tkK T n i = 45
  · have tb := tk_bd (T := T) hi
    have go := tk_go (T := T) hi (by omega)
    have eS : rdSm T n p br i h = rdSl T n p br 100 (p - 1) (tkX T n i) h (fun _ => 0) := if_pos q
    rw [eS] at HF HS
    refine m_lpMinus hl r h33 q (fun S1 f1 l1 a33 r1 u1 v1 s1 => ?_)
    refine m_simSl h2 hl B 100 S1 (p - 1) (tkX T n i) h (fun _ => 0) Q r1 (by omega) (fun z => by omega) ((v1 l).trans hg) (by rw [s1, if_neg (by decide)]) (fun x x0 x1 => by rw [u1]; exact rU x x0 x1) (by omega) (by omega) (fun z => (HF z).to f1) (fun z i4 S4 h4 g4 s4 A4 P4 U4 mo4 f4 l4 d33 d94 d42 d43 r4 rA4 hg4 rP4 es4 rU4 eh4 ep4 => ?_)
    exact HS z (by omega) S4 h4 g4 s4 A4 P4 U4 mo4 (f1.tr f4) (l1.tr l4) d33 d94 d42 d43 r4 rA4 hg4 rP4 es4 rU4 eh4 ep4
  · have eS : rdSm T n p br i h = rdSl T n p br 100 1 i h (fun _ => 0) := if_neg q
    rw [eS] at HF HS
    exact m_simSl h2 hl B 100 S 1 i h (fun _ => 0) Q r (by omega) (fun z => q z.2) hg (by rw [hs, if_pos rfl]) rU (by omega) (by omega) HF HS
/-- behind a sum: what can't stand there -/
theorem m_simNo {d : Nat} {D n p l i h g s : Int} {S : Hp} {T A P U : Int → Int} {Q : Vl → Hp → Prop} (h2 : 2 ≤ p ∧ p ≤ 7) (hl : 0 ≤ l ∧ l ≤ 4) (r : MRS S D T n p l i h) (h33 : zG S D 33 = 0) (h94 : tkK T n i = 94 → zG S D 34 = 0) (n42 : ¬ tkK T n i = 42) (n43 : ¬ (tkK T n i = 43 ∨ tkK T n i = 45)) (rA : RO S (D + 18) p h A) (hg : zG S (D + 17) l = g) (rP : 0 ≤ g → TO S (D + 15) l p h P) (hs : s = if zG S (D + 16) l = 0 then 1 else p - 1) (rU : TO S (D + 14) l p h U) (n41 : ¬ (tkK T n i = 41 ∧ 0 < l)) (n0 : ¬ (tkK T n i = 0 ∧ l ≤ 0)) (H : FL d D (tkW T n i) S Q) : mL d D 1 S Q := by
  refine m_lpGo r h33 n0 ?_
  by_cases q : tkK T n i = 94
  · apply w_Model_goesOn_0
    rw [r.2.2.2.2.2.2.2.2.1, kdM_sg (v := 94) (by omega)]
    exact ⟨r.1.1, fun y => absurd q y, fun _ => ⟨r.1.1, m_raisesNow h2 r rA (h94 q) (fun y S' f e => ⟨0, rfl, by unfold in01; omega, 0, rfl, H S' f e⟩) (fun y => absurd rfl y) (fun y => absurd rfl y)⟩⟩
  · exact m_goesOn h2 hl r rA hg rP hs rU q (fun y => absurd y n42) (fun y => absurd y n43) (fun y z => absurd ⟨y, z⟩ n41) (fun _ _ _ S' f e => ⟨0, rfl, H S' f e⟩)
theorem m_simBr {d : Nat} {D n p : Int} {T : Int → Int} (h2 : 2 ≤ p ∧ p ≤ 7) : ∀ (k : Nat) (l : Int), l + k = 4 → 0 ≤ l → sBr d D T n p l (brk T n p k)
  | 0, l, hk, hl, S, i, h, Q, r, h33, q, HF, HS => by
    refine m_lpBegin r h33 (fun z => by omega) (m_beginsPart h2 (by omega) r (fun z => by omega) (fun z _ => ⟨0, rfl, ?_⟩) (fun _ z => by omega))
    exact HF rfl S (mrF.refl r.1) r.2.2.2.2.2.2.2.1
  | k + 1, l, hk, hl, S, i, h, Q, r, h33, q, HF, HS => by
    have hi := r.2.2.2.1
    have tb := tk_bd (T := T) hi
    have go := tk_go (T := T) hi (by omega)
    refine m_lpBegin r h33 (fun z => by omega) (m_beginsPart h2 (by omega) r (fun z => by omega) (fun _ z => absurd ⟨q, by omega⟩ z) (fun _ _ S1 f1 m1 a33 r1 u1 s1 g1 => ⟨1, rfl, ?_⟩))
    have L1 : LV D (l + 1) S S1 := ⟨fun x hx => by rw [u1, if_neg (by omega)], fun x _ => m1.G (by omega) x, fun x hx => by rw [s1, if_neg (by omega)], fun x hx => by rw [g1, if_neg (by omega)]⟩
    have eB : brk T n p (k + 1) i h = if (rdSm T n p (brk T n p k) (tkX T n i) h).1 = 0 ∨ ¬ tkK T n (rdSm T n p (brk T n p k) (tkX T n i) h).2.1 = 41 then (0, (rdSm T n p (brk T n p k) (tkX T n i) h).2.1, (rdSm T n p (brk T n p k) (tkX T n i) h).2.2.1, fun _ => 0) else (1, tkX T n (rdSm T n p (brk T n p k) (tkX T n i) h).2.1, (rdSm T n p (brk T n p k) (tkX T n i) h).2.2.1, (rdSm T n p (brk T n p k) (tkX T n i) h).2.2.2) := rfl
    rw [eB] at HF HS
    refine m_simSm h2 (by omega) (m_simBr h2 k (l + 1) (by omega) (by omega)) r1 a33 (by rw [g1, if_pos rfl]) (by rw [s1, if_pos rfl]) (fun x x0 x1 => by rw [u1, if_pos ⟨x0, x1⟩]) (fun z => ?_) ?_
    · rw [if_pos (Or.inl z)] at HF
      exact (HF rfl).to f1
    · generalize rdSm T n p (brk T n p k) (tkX T n i) h = t at HF HS
      intro z i2 S2 h' g' s' A' P' U' mo f2 l2 b33 b94 b42 b43 r2 rA2 hg2 rP2 es2 rU2 eh2 ep2
      by_cases q41 : tkK T n t.2.1 = 41
      · rw [if_neg (fun y => by rcases y with y | y; exact z y; exact y q41)] at HS
        have hc := r2.2.2.2.1
        have tb2 := tk_bd (T := T) hc
        refine m_lpGo r2 b33 (fun y => by omega) (m_goesOn h2 (by omega) r2 rA2 hg2 rP2 es2 rU2 (by omega) (fun y => absurd y b42) (fun y => absurd y b43) (fun _ _ S3 f3 l3 c33 c34 r3 rA3 => ⟨1, rfl, ?_⟩) (fun _ _ y => absurd ⟨q41, by omega⟩ y))
        rw [← eh2] at r3 rA3
        rw [← ep2, show l + 1 - 1 = l by omega] at *
        exact HS (show ¬ (1 : Int) = 0 by decide) (show i < tkX T n t.2.1 by omega) (fun y => mo (hS_neg (by rw [← eh2]; exact y))) S3 ((f1.tr f2).tr f3) ((L1.tr l2).tr l3) (c33.trans b33) c34 r3 rA3
      · rw [if_pos (Or.inr q41)] at HF
        exact m_simNo h2 (by omega) r2 b33 b94 b42 b43 rA2 hg2 rP2 es2 rU2 (fun y => q41 y.1) (fun y => by omega) ((HF rfl).to (f1.tr f2))
