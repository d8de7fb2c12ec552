/-! Grower.closed: the rings over one number, one by one. -/
/-- what stands in the algebra's rows is small -/
def ALB (S : Hp) (B : Int) : Prop := (∀ x, 0 ≤ x → x < 64 → 0 ≤ zG S (B + 2) x ∧ zG S (B + 2) x < 10) ∧ (∀ x, 0 ≤ x → x < 64 → 0 ≤ zG S (B + 3) x ∧ zG S (B + 3) x < 10) ∧ (∀ x, 0 ≤ x → x < 16 → 0 ≤ zG S (B + 4) x ∧ zG S (B + 4) x < 10) ∧ (∀ x, 0 ≤ x → x < 64 → 0 ≤ zG S (B + 5) x ∧ zG S (B + 5) x < 20) ∧ (∀ j, 0 ≤ j → j < 4 → in01 (zG S (B + 7) j)) ∧ (∀ x, 0 ≤ x → x < 16 → 0 ≤ zG S (B + 12) x ∧ zG S (B + 12) x < 10) ∧ ∀ x, 0 ≤ x → x < 16 → 0 ≤ zG S (B + 13) x ∧ zG S (B + 13) x < 10
theorem ALB.keep {M : Int → Prop} {S S' : Hp} {B : Int} (h : ALB S B) (hm : Md M S S') (hM : ∀ x, (x = B + 2 ∨ x = B + 3 ∨ x = B + 4 ∨ x = B + 5 ∨ x = B + 7 ∨ x = B + 12 ∨ x = B + 13) → ¬ M x) : ALB S' B := by
  obtain ⟨a, b, c, d, e, f, g⟩ := h
  exact ⟨fun x x0 x1 => by rw [hm.G (hM _ (by omega))]; exact a x x0 x1, fun x x0 x1 => by rw [hm.G (hM _ (by omega))]; exact b x x0 x1, fun x x0 x1 => by rw [hm.G (hM _ (by omega))]; exact c x x0 x1, fun x x0 x1 => by rw [hm.G (hM _ (by omega))]; exact d x x0 x1, fun x x0 x1 => by rw [hm.G (hM _ (by omega))]; exact e x x0 x1, fun x x0 x1 => by rw [hm.G (hM _ (by omega))]; exact f x x0 x1, fun x x0 x1 => by rw [hm.G (hM _ (by omega))]; exact g x x0 x1⟩
/-- ring k as it lies in the place's rows -/
def RD1 (S : Hp) (L n p k : Int) (fk : Int → Int → Int → Int) (dk : Int → Int) : Prop := fgR n fk (figS S L k) ∧ (∀ l, 0 ≤ l → l < n → zG S (L + 2) (k * 4 + l) = dk l) ∧ (∀ l, n ≤ l → l < 4 → zG S (L + 2) (k * 4 + l) = 0) ∧ (∀ l i m, 0 ≤ l → l < 4 → 0 ≤ i → i < 4 → figS S L k l i m < p) ∧ ∀ l i m, n ≤ l → l < 4 → 0 ≤ i → i < 4 → 1 ≤ m → m ≤ 20 → figS S L k l i m = 0
theorem RD1.out {S S' : Hp} {L n p k : Int} {fk : Int → Int → Int → Int} {dk : Int → Int} (n4 : 0 ≤ n ∧ n ≤ 4) (h : RD1 S L n p k fk dk) (h1 : ∀ x, k * 16 ≤ x → x < k * 16 + 16 → zG S' (L + 1) x = zG S (L + 1) x) (h2 : ∀ x, k * 4 ≤ x → x < k * 4 + 4 → zG S' (L + 2) x = zG S (L + 2) x) : RD1 S' L n p k fk dk := by
  have e : ∀ l i m, 0 ≤ l → l < 4 → 0 ≤ i → i < 4 → figS S' L k l i m = figS S L k l i m := fun l i m l0 l1 i0 i1 => figS_out (h1 _ (by omega) (by omega))
  obtain ⟨a, b, c, d, f⟩ := h
  exact ⟨fun l i m l0 l1 i0 i1 m0 m1 => by rw [e l i m l0 (by omega) i0 i1]; exact a l i m l0 l1 i0 i1 m0 m1, fun l l0 l1 => by rw [h2 _ (by omega) (by omega)]; exact b l l0 l1, fun l l0 l1 => by rw [h2 _ (by omega) (by omega)]; exact c l l0 l1, fun l i m l0 l1 i0 i1 => by rw [e l i m l0 l1 i0 i1]; exact d l i m l0 l1 i0 i1, fun l i m l0 l1 i0 i1 m0 m1 => by rw [e l i m (by omega) l1 i0 i1]; exact f l i m l0 l1 i0 i1 m0 m1⟩
theorem RD1.keep {M : Int → Prop} {S S' : Hp} {L n p k : Int} {fk : Int → Int → Int → Int} {dk : Int → Int} (n4 : 0 ≤ n ∧ n ≤ 4) (h : RD1 S L n p k fk dk) (hm : Md M S S') (h1 : ¬ M (L + 1)) (h2 : ¬ M (L + 2)) : RD1 S' L n p k fk dk := h.out n4 (fun x _ _ => hm.G h1 x) (fun x _ _ => hm.G h2 x)
/-- how many classes of ring k are nil, and points -/
def RD2 (S : Hp) (L n p k : Int) (C : Int → Int → Int) (fk : Int → Int → Int → Int) (dk : Int → Int) : Prop := zG S (L + 3) k = ctL p n (clF p n 0 (tb1 p n C fk dk 0)) ∧ zG S (L + 4) k = ctL p n (clF p n 1 (tb1 p n C fk dk 0))
/-- all that stands still while rings grow -/
def CI (S : Hp) (B A L n p : Int) (C : Int → Int → Int) : Prop := GW S B A ∧ MW S A ∧ HW S (B + 1) ∧ Gu S B n p ∧ Hu S (B + 1) n p ∧ PW S L ∧ PR S L ∧ LAN S (B + 34) 4 (fun _ => 7) p C ∧ ALB S B
/-- what inspect finds of ring k -/
def HN {O E : Type} [I : Lean.Grind.CommRing O] [J : Lean.Grind.CommRing E] (φ : (Int → Int) → O) (ι : O → E) (y : E) (S : Hp) (B n p : Int) (C : Int → Int → Int) (fig : Int → Int → Int → Int) (dp : Int → Int) : Prop := (∀ i j l, 0 ≤ i → i < n → 0 ≤ j → j < n → 0 ≤ l → l < n → zG S (B + 2) ((4 * i + j) * 4 + l) = tb1 p n C fig dp 0 ((4 * i + j) * 4 + l)) ∧ (∀ i j l, 0 ≤ i → i < n → 0 ≤ j → j < n → 0 ≤ l → l < n → zG S (B + 3) ((4 * i + j) * 4 + l) = tb1 p n C fig dp 1 ((4 * i + j) * 4 + l)) ∧ (∀ j, 0 ≤ j → j < 4 → in01 (zG S (B + 9) j)) ∧ ∃ (M : Int → Int) (kn : Int), solved p n n M (zG S (B + 9)) (zG S (B + 8)) kn ∧ ∀ x, ker p n n M x ↔ RAD (ι (φ t1)) (ι (φ t1) ^ 20) (LT ι n.toNat (fun l => vE φ ι y n.toNat (bR fig l))) (clE φ ι n.toNat (fun l => vE φ ι y n.toNat (bR fig l)) x)
theorem rnv_fg {O E : Type} [I : Lean.Grind.CommRing O] [J : Lean.Grind.CommRing E] {p n k : Int} {C : Int → Int → Int} {φ : (Int → Int) → O} {ι : O → E} {y : E} {fig : Int → Int → Int → Int} {dp : Int → Int} (v : RNV p n C φ ι y k fig dp) (k0 : 0 ≤ k) {f' : Int → Int → Int → Int} {dp' : Int → Int} (hf : fgR n fig f') (hd : ∀ l, 0 ≤ l → l < n → dp' l = dp l) : RNV p n C φ ι y k f' dp' := ⟨v.1, v.2.1, v.2.2.1, v.2.2.2.1, v.2.2.2.2.1, RST.congr k0 v.2.2.1 v.2.2.2.2.2 hf hd⟩
set_option maxHeartbeats 1000000 in
theorem cl_insp {d : Nat} {B A L : Int} {S : Hp} {Q : Vl → Hp → Prop} {O E : Type} [I : Lean.Grind.CommRing O] [J : Lean.Grind.CommRing E] {p n k : Int} {C : Int → Int → Int} {φ : (Int → Int) → O} {ι : O → E} {y : E} {fig : Int → Int → Int → Int} {dp : Int → Int} (v : RNV p n C φ ι y k fig dp) (ci : CI S B A L n p C) (hk : 0 ≤ k ∧ k < 19) (dL : L + 5 < B ∨ B + 61 < L) (dA : A + 50 < B ∨ B + 61 < A) (dLA : L + 5 < A ∨ A + 50 < L) (rd : RD1 S L n p k fig dp) (H : ∀ S', Md (MIn2 B A L) S S' → CI S' B A L n p C → HN φ ι y S' B n p C fig dp → RD1 S' L n p k fig dp → RD2 S' L n p k C fig dp → (∀ x, x ≠ k → zG S' (L + 3) x = zG S (L + 3) x ∧ zG S' (L + 4) x = zG S (L + 4) x) → Q (3, 0) S') : Ev (d + 4) 30 [(2, B), (2, L), (0, k)] S Q := by
  obtain ⟨gw, mw, hw, gu, hu, pw, pr, lc, al⟩ := ci
  have v' := rnv_fg v hk.1 (f' := figS S L k) (dp' := fun l => zG S (L + 2) (k * 4 + l)) rd.1 rd.2.1
  have hn := v.2.2.1
  have hp := v.2.1
  have nM : ∀ x, ((x ≤ B + 1 ∨ x = B + 13 ∨ (B + 33 < x ∧ x ≤ B + 43) ∨ B + 60 < x) ∧ (x < A ∨ A + 50 < x) ∧ x ≠ L + 3 ∧ x ≠ L + 4) → ¬ MIn2 B A L x := fun x hx => by
    unfold MIn2 MP
    omega
  refine s_inspect2 gw gu mw hw hu hn hp pw pr hk dL dA dLA (fun l l0 l1 => v'.2.2.2.2.2.1.1 l l0 l1) rd.2.2.2.1 lc al.1 al.2.1 al.2.2.1 al.2.2.2.1 al.2.2.2.2.1 al.2.2.2.2.2.1 (fun a c va vc a0 ac c1 ha hc => ?_) (fun S' kn kp fr so m g1 a1 t0 t1 pwv sn sp e3 e4 b2 b3 b4 b5 b7 b9 b12 => ?_)
  · have ea := v'.isDp (show 0 ≤ a by omega) (show a < n by omega) ha
    have ec := v'.isDp (show 0 ≤ c by omega) c1 hc
    (try dsimp only at ea ec)
    rw [ea, ec]
    exact (v'.ok1 (u := 1) (by omega) (by omega) (by omega) (by omega) c1).1
  · have tl : ∀ i j l, 0 ≤ i → i < n → 0 ≤ j → j < n → 0 ≤ l → l < n → zG S' (B + 2) ((4 * i + j) * 4 + l) = tb1 p n C fig dp 0 ((4 * i + j) * 4 + l) ∧ zG S' (B + 3) ((4 * i + j) * 4 + l) = tb1 p n C fig dp 1 ((4 * i + j) * 4 + l) := fun i j l i0 i1 j0 j1 l0 l1 => by
      have a := v'.tabs t0 t1 i0 i1 j0 j1 l0 l1
      have b := tb1_fg v v' rd.1 (q := 0) (by omega) i0 i1 j0 j1 l0 l1
      have c := tb1_fg v v' rd.1 (q := 1) (by omega) i0 i1 j0 j1 l0 l1
      have ix : (4 * i + j) * 4 + l = 16 * i + 4 * j + l := by omega
      rw [ix] at a ⊢
      exact ⟨a.1.trans b, a.2.trans c⟩
    have hl := fun i j l i0 i1 j0 j1 l0 l1 => (tl i j l i0 i1 j0 j1 l0 l1).1
    have hh := fun i j l i0 i1 j0 j1 l0 l1 => (tl i j l i0 i1 j0 j1 l0 l1).2
    have nk := fun x => nil_ker v hl pwv x
    have c1 := (cnt_solved (f := clF p n 0 (tb1 p n C fig dp 0)) hp hn sn (fun a _ _ => by
      have r := rnv_nil v a
      unfold clF
      rw [if_pos rfl]
      by_cases q : isN p n (tb1 p n C fig dp 0) a
      · exact Or.inl ⟨if_pos q, (nk _).mpr (r.mp q)⟩
      · exact Or.inr ⟨if_neg q, fun z => q (r.mpr ((nk _).mp z))⟩)).1
    have c2 := (cnt_solved (f := clF p n 1 (tb1 p n C fig dp 0)) hp hn sp (fun a a0 a1 => by
      have r := pt_ker v hl pwv a0 a1
      unfold clF
      rw [if_neg (by omega)]
      by_cases q : fpC p n (tb1 p n C fig dp 0) a = a
      · exact Or.inl ⟨if_pos q, r.mp q⟩
      · exact Or.inr ⟨if_neg q, fun z => q (r.mpr z)⟩)).1
    refine H S' m ⟨g1, a1, hw.keep m (nM _ (by omega)), gu.keep m (nM _ (by omega)), hu.keep m (nM _ (by omega)), pw.keep m (nM _ (by omega)), pr.keep m (nM _ (by omega)), lc.keep m (fun x x1 x2 => nM _ (by omega)) (by omega), b2, b3, b4, b5, b7, b12, fun x x0 x1 => by rw [m.G (nM _ (by omega))]; exact al.2.2.2.2.2.2 x x0 x1⟩ ⟨hl, hh, b9, _, kn, sn, nk⟩ (rd.keep (by omega) m (nM _ (by omega)) (nM _ (by omega))) ⟨?_, ?_⟩ (fun x hx => ⟨?_, ?_⟩)
    · rw [e3, if_pos rfl, c1]
    · rw [e4, if_pos rfl, c2]
    · rw [e3, if_neg hx]
    · rw [e4, if_neg hx]
theorem RDC.dp {n : Int} {f : Int → Int → Int → Int} {d d' : Int → Int} (r : RDC n f d) (h : ∀ l, 0 ≤ l → l < n → d' l = d l) : RDC n f d' := ⟨fun l l0 l1 => by rw [h l l0 l1]; exact r.1 l l0 l1, fun l m l0 l1 m0 m1 => by rw [h l l0 l1]; exact r.2.1 l m l0 l1 m0 m1, fun l i m i0 i1 l1 m0 m1 ne => by rw [h i i0 (by omega)]; exact r.2.2 l i m i0 i1 l1 m0 m1 ne⟩
theorem figS_off {S : Hp} {L k l i m : Int} (h : m < 0 ∨ 20 < m) : figS S L k l i m = 0 := if_pos h
set_option maxHeartbeats 1000000 in
theorem cl_grow {d : Nat} {B A L Lc : Int} {S : Hp} {Q : Vl → Hp → Prop} {fK : Int → Int → Int → Int → Int} {dK : Int → Int → Int} {O E : Type} [I : Lean.Grind.CommRing O] [J : Lean.Grind.CommRing E] {φ : (Int → Int) → O} {ι : O → E} {y : E} {p n k : Int} {C : Int → Int → Int} (v : RNV p n C φ ι y k (fK k) (dK k)) (ci : CI S B A L n p C) (hn' : HN φ ι y S B n p C (fK k) (dK k)) (hk : 0 ≤ k ∧ k < 18) (dL : L + 5 < B ∨ B + 61 < L) (dA : A + 50 < B ∨ B + 61 < A) (dLA : L + 5 < A ∨ A + 50 < L) (rd : RD1 S L n p k (fK k) (dK k)) (hM : MTH p n C) (hLc : k ≤ Lc ∧ Lc ≤ 18) (pch : PCH p n C fK dK Lc) (clo : CLO p n C fK dK Lc) (H : ∀ S', Md (MGr B L) S S' → CI S' B A L n p C → (∀ x, ¬ ((k + 1) * 16 ≤ x ∧ x < (k + 1) * 16 + 16) → zG S' (L + 1) x = zG S (L + 1) x) → (∀ x, ¬ ((k + 1) * 4 ≤ x ∧ x < (k + 1) * 4 + 4) → zG S' (L + 2) x = zG S (L + 2) x) → (k = Lc → Q (0, 0) S') ∧ (k < Lc → RD1 S' L n p (k + 1) (fK (k + 1)) (dK (k + 1)) → Q (0, 1) S')) : Ev (d + 4) 34 [(2, B), (2, L), (0, k)] S Q := by
  obtain ⟨gw, mw, hw, gu, hu, pw, pr, lc, al⟩ := ci
  obtain ⟨hl, hh, b9, M, kn, sv, hk'⟩ := hn'
  have hn := v.2.2.1
  have hp := v.2.1
  have h2 := hp.two
  obtain ⟨top, g, gn⟩ := gn_ex (n := n) h2.1 (tb1 p n C (fK k) (dK k) 0) (tb1 p n C (fK k) (dK k) 1)
  have dk := v.2.2.2.2.2.1.1
  have mth := hM fK dK k hk.1 (by omega) (pch.pre hLc.1)
  have ge := fun (E fr so : Int → Int) (q : Int) (hE : ∀ l i j, 0 ≤ l → l < n → 0 ≤ i → i < n → 0 ≤ j → j < n → E (4 * (n * l + i) + j) = muV p n (zG S (B + 8)) (zG S (B + 9)) (zG S (B + 2)) (zG S (B + 3)) j l i) (sm' : solved p n (n * n) E fr so q) (j : Int) (j0 : 0 ≤ j) (j1 : j < n) => gain_eq v hl hh sv hk' hE sm' gn j0 j1
  have dd : ∀ j, 0 ≤ j → j < n → 0 ≤ dK k j + gbF (g j) ∧ dK k j + gbF (g j) ≤ 20 := fun j j0 j1 => by
    have := mth.2.2.2.2 top g gn j j0 j1
    have := dk j j0 j1
    have := gbF_or (g j)
    omega
  refine s_grow gw gu hw hu hn hp pw pr dL ⟨hk.1, by omega⟩ al.1 al.2.1 (fun r i r0 r1 i0 i1 => sv.2.1 r i r0 r1 i0 i1) al.2.2.2.1 al.2.2.2.2.1 b9 (fun j j0 j1 => ?_) (fun E fr so q hE sm' j j0 j1 => ?_) (fun S' E q m hE sm' b7 b5 pr' o1 o2 => ?_)
  · by_cases w : j < n
    · rw [rd.2.1 j j0 w]
      exact dk j j0 w
    · rw [rd.2.2.1 j (by omega) j1]
      omega
  · rw [rd.2.1 j j0 j1, (ge E fr so q hE sm' j j0 j1).1]
    exact dd j j0 j1
  · have gg := fun j j0 j1 => (ge E (zG S' (B + 7)) (zG S' (B + 6)) q hE sm' j j0 j1)
    have nM : ∀ x, ((x ≠ B + 5 ∧ x ≠ B + 6 ∧ x ≠ B + 7 ∧ x ≠ B + 14 ∧ x ≠ B + 15 ∧ x ≠ B + 10 ∧ x ≠ B + 11 ∧ x ≠ B + 61) ∧ x ≠ L + 1 ∧ x ≠ L + 2) → ¬ MGr B L x := fun x hx => by
      unfold MGr
      omega
    have n9 : ∀ x, x ≠ B + 5 ∧ x ≠ B + 6 ∧ x ≠ B + 7 ∧ x ≠ B + 14 ∧ x ≠ B + 15 ∧ x ≠ B + 10 ∧ x ≠ B + 11 ∧ x ≠ B + 61 ∧ x ≠ L + 1 ∧ x ≠ L + 2 → ¬ MGr B L x := fun x hx => nM x ⟨⟨hx.1, hx.2.1, hx.2.2.1, hx.2.2.2.1, hx.2.2.2.2.1, hx.2.2.2.2.2.1, hx.2.2.2.2.2.2.1, hx.2.2.2.2.2.2.2.1⟩, hx.2.2.2.2.2.2.2.2⟩
    have gn0 : ∀ j, 0 ≤ j → j < n → gnF (zG S' (B + 7)) (zG S (B + 9)) j = gbF (g j) := fun j j0 j1 => (gg j j0 j1).1
    have h' := H S' m ⟨gw.keep m (fun x hx => n9 x (by omega)), mw.keep m (fun x x0 x1 => n9 x (by omega)), hw.keep m (n9 _ (by omega)), gu.keep m (n9 _ (by omega)), hu.keep m (n9 _ (by omega)), pw.keep m (n9 _ (by omega)), pr', lc.keep m (fun x x1 x2 => n9 x (by omega)) (by omega), fun x x0 x1 => by rw [m.G (n9 _ (by omega))]; exact al.1 x x0 x1, fun x x0 x1 => by rw [m.G (n9 _ (by omega))]; exact al.2.1 x x0 x1, fun x x0 x1 => by rw [m.G (n9 _ (by omega))]; exact al.2.2.1 x x0 x1, b5, b7, fun x x0 x1 => by rw [m.G (n9 _ (by omega))]; exact al.2.2.2.2.2.1 x x0 x1, fun x x0 x1 => by rw [m.G (n9 _ (by omega))]; exact al.2.2.2.2.2.2 x x0 x1⟩ o1 o2
    refine ⟨fun z => h'.1 ?_, fun e1 e2 z => ?_⟩
    · refine Classical.byContradiction (fun q => ?_)
      obtain ⟨top', g', gn', ⟨j, j0, j1, gj⟩, -⟩ := pch.2.2 k hk.1 (by omega)
      have u := GN.uniq h2.1 gn gn' j j0 j1
      have le := sm_one_le (n := n.toNat) (f := gnF (zG S' (B + 7)) (zG S (B + 9))) (j := j) j0 (by omega) (fun i i0 i1 => by
        rw [gn0 i i0 (by omega)]
        have := gbF_or (g i)
        omega)
      rw [z, gn0 j j0 j1, show gbF (g j) = 1 from if_pos (by omega)] at le
      omega
    · have lt : k < Lc := Classical.byContradiction (fun q => z (by
        have kl : k = Lc := by omega
        rcases clo with w | ⟨top', g', gn', neg⟩
        · omega
        · rw [← kl] at gn'
          refine sm_zeros (fun j j0 j1 => ?_)
          have u := GN.uniq h2.1 gn gn' j j0 (by omega)
          have := neg j j0 (by omega)
          rw [gn0 j j0 (by omega), show gbF (g j) = 0 from if_neg (by omega)]))
      obtain ⟨top', g', gn', -, nx⟩ := pch.2.2 k hk.1 lt
      have u := GN.uniq h2.1 gn gn'
      have hd : ∀ j, 0 ≤ j → j < n → (fun i => zG S' (L + 2) ((k + 1) * 4 + i)) j = dK k j + gnF (zG S' (B + 7)) (zG S (B + 9)) j ∧ 0 ≤ (fun i => zG S' (L + 2) ((k + 1) * 4 + i)) j ∧ (fun i => zG S' (L + 2) ((k + 1) * 4 + i)) j ≤ 20 := fun j j0 j1 => by
        have a := e1 j j0 (by omega)
        rw [if_pos j1, rd.2.1 j j0 j1] at a
        have b := dd j j0 j1
        have c := gn0 j j0 j1
        refine ⟨a, ?_, ?_⟩
        · (try dsimp only)
          omega
        · (try dsimp only)
          omega
      have nq := new_q v hl hh sv hk' hE sm' (by omega) (fun j j0 j1 => (gg j j0 j1).2) (f0 := figS S L k) (f' := figS S' L (k + 1)) (dp' := fun i => zG S' (L + 2) ((k + 1) * 4 + i)) rd.1 hd (fun j i m j0 j1 i0 i1 m0 m1 => e2 j i m j0 (by omega) i0 i1 m0 m1)
      have ed : ∀ l, 0 ≤ l → l < n → dK (k + 1) l = (fun i => zG S' (L + 2) ((k + 1) * 4 + i)) l := fun l l0 l1 => by
        rw [(nx l l0 l1).1, (hd l l0 l1).1, gn0 l l0 l1, u l l0 l1]
      have fr := nx_one (top' := top') (g' := g') (d2 := dK (k + 1)) v (by omega) gn' nx (nq.1.dp ed) nq.2.1 nq.2.2.1 nq.2.2.2
      refine h'.2 lt ⟨fr, fun l l0 l1 => (ed l l0 l1).symm, fun l l0 l1 => ?_, fun l i m l0 l1 i0 i1 => ?_, fun l i m l0 l1 i0 i1 m0 m1 => ?_⟩
      · rw [e1 l (by omega) l1, if_neg (by omega)]
      · by_cases w : m < 0 ∨ 20 < m
        · rw [figS_off w]
          omega
        · by_cases w2 : l < n
          · exact (nq.2.2.1 l i m l0 w2 i0 i1 (by omega) (by omega)).2
          · rw [e2 l i m l0 l1 i0 i1 (by omega) (by omega)]
            unfold nfF grF
            split
            · split <;> omega
            · split
              · (try rw [if_neg w2])
                (try dsimp only)
                omega
              · omega
      · rw [e2 l i m (by omega) l1 i0 i1 (by omega) m1]
        unfold nfF grF
        split
        · have a := e1 l (by omega) l1
          rw [if_neg (by omega)] at a
          refine if_neg (fun z => ?_)
          (try dsimp only at z)
          omega
        · split
          · (try rw [if_neg (show ¬ l < n by omega)])
          · rfl
/-- a place with all its rings -/
def RK (S : Hp) (L n p : Int) (C : Int → Int → Int) (Lc : Int) (fK : Int → Int → Int → Int → Int) (dK : Int → Int → Int) : Prop := zG S L 2 = Lc ∧ (∀ k, 0 ≤ k → k ≤ Lc → RD1 S L n p k (fK k) (dK k) ∧ RD2 S L n p k C (fK k) (dK k)) ∧ (∀ i j l, 0 ≤ i → i < n → 0 ≤ j → j < n → 0 ≤ l → l < n → zG S (L + 5) ((4 * i + j) * 4 + l) = tb1 p n C (fK Lc) (dK Lc) 0 ((4 * i + j) * 4 + l)) ∧ ∀ x, 0 ≤ x → x < 64 → 0 ≤ zG S (L + 5) x ∧ zG S (L + 5) x < 10
abbrev MCl (B A L : Int) : Int → Prop := fun x => (B ≤ x ∧ x ≤ B + 61) ∨ (A ≤ x ∧ x ≤ A + 50) ∨ (L ≤ x ∧ x ≤ L + 5)
/-- what is written while rings grow, but for the place's own cell -/
abbrev MCg (B A L : Int) : Int → Prop := fun x => (B + 2 ≤ x ∧ x ≤ B + 61) ∨ (A ≤ x ∧ x ≤ A + 50) ∨ (L + 1 ≤ x ∧ x ≤ L + 4)
theorem cl_exit {d : Nat} {B A L n p k : Int} {S : Hp} {C : Int → Int → Int} {fK : Int → Int → Int → Int → Int} {dK : Int → Int → Int} {Q : Vl → Hp → Prop} (ci : CI S B A L n p C) (hn : 2 ≤ n ∧ n ≤ 4) (dL : L + 5 < B ∨ B + 61 < L) (dLA : L + 5 < A ∨ A + 50 < L) (low : ∀ i j l, 0 ≤ i → i < n → 0 ≤ j → j < n → 0 ≤ l → l < n → zG S (B + 2) ((4 * i + j) * 4 + l) = tb1 p n C (fK k) (dK k) 0 ((4 * i + j) * 4 + l)) (r : ∀ a, 0 ≤ a → a ≤ k → RD1 S L n p a (fK a) (dK a) ∧ RD2 S L n p a C (fK a) (dK a)) (H : ∀ S', Md (fun x => x = L ∨ x = L + 5) S S' → GW S' B A → MW S' A → HW S' (B + 1) → PW S' L → PR S' L → ALB S' B → (∀ i, i ≠ 1 → i ≠ 2 → zG S' L i = zG S L i) → zG S' L 1 = 1 → RK S' L n p C k fK dK → Q (2, L) S') : At (d + 1) 29 c29_72 [(0, (2, B)), (2, (2, L)), (3, (0, k))] [] S Q := by
  obtain ⟨gw, mw, hw, gu, hu, pw, pr, lc, al⟩ := ci
  have r0 := hw.r0
  have p5 := pw.2.2.2.2.2.2.2.2.2.2
  rw [show B + 1 + 1 = B + 2 by omega] at r0
  apply w_Grower_closed_72
  have f0 := hw.f0
  rw [show B + 1 + 1 = B + 2 by omega] at f0
  rw [gw.2.1, f0, pw.2.2.2.2.2.1, r0.2]
  refine ⟨gw.1, hw.k, pw.1, gw.1, hw.k, r0.1, ⟨⟨r0.1, p5.1⟩, by omega, by omega, by rw [p5.2]; omega⟩, ?_⟩
  rintro S1 rfl
  have m1 : Md (fun x => x = L + 5) S (zC S (B + 2) 0 (L + 5) 0 64) := zC_md
  have v1 : ∀ x, 0 ≤ x → x < 64 → zG (zC S (B + 2) 0 (L + 5) 0 64) (L + 5) x = zG S (B + 2) x := fun x x0 x1 => by
    rw [zG_zC, if_pos ⟨rfl, x0, by omega⟩, show 0 + (x - 0) = x by omega]
  generalize zC S (B + 2) 0 (L + 5) 0 64 = S1 at *
  refine ⟨by rw [m1.K]; exact pw.1, ?_⟩
  rintro S2 rfl
  refine ⟨⟨by rw [zK_zS, m1.K]; exact pw.1, Or.inr rfl⟩, ?_⟩
  rintro S3 rfl
  have m3 : Md (fun x => x = L) S1 (zS (zS S1 L 2 k) L 1 1) := (Md.zS _ _ _ _).tr (Md.zS _ _ _ _)
  have v2 : zG (zS (zS S1 L 2 k) L 1 1) L 2 = k := by rw [zG_zS_ne _ (Or.inr (by omega)), zG_zS_at]
  have v3 : zG (zS (zS S1 L 2 k) L 1 1) L 1 = 1 := zG_zS_at _ _ _ _
  have v4 : ∀ i, i ≠ 1 → i ≠ 2 → zG (zS (zS S1 L 2 k) L 1 1) L i = zG S L i := fun i i1 i2 => by
    rw [zG_zS_ne _ (Or.inr i1), zG_zS_ne _ (Or.inr i2), m1.G (by omega)]
  generalize zS (zS S1 L 2 k) L 1 1 = S3 at *
  have m : Md (fun x => x = L ∨ x = L + 5) S S3 := (m1.wide (fun x hx => Or.inr hx)).tr (m3.wide (fun x hx => Or.inl hx))
  have pw3 : PW S3 L := by
    obtain ⟨a0, a1, a2, a3, a4, a5, a6, a7, a8, a9, a10⟩ := pw
    exact ⟨by rw [m.K]; exact a0, by rw [v4 _ (by omega) (by omega)]; exact a1, by rw [v4 _ (by omega) (by omega)]; exact a2, by rw [v4 _ (by omega) (by omega)]; exact a3, by rw [v4 _ (by omega) (by omega)]; exact a4, by rw [v4 _ (by omega) (by omega)]; exact a5, ⟨by rw [m.K]; exact a6.1, by rw [m.L]; exact a6.2⟩, a7.keep m, a8.keep m, a9.keep m, a10.keep m⟩
  have e5 : ∀ x, 0 ≤ x → x < 64 → zG S3 (L + 5) x = zG S (B + 2) x := fun x x0 x1 => by rw [m3.G (by omega), v1 x x0 x1]
  refine H S3 m (gw.keep m (fun x hx => by omega)) (mw.keep m (fun x x0 x1 => by omega)) (hw.keep m (by omega)) pw3 (pr.keep m (by omega)) (al.keep m (fun x hx => by omega)) v4 v3 ⟨v2, fun a a0 a1 => ⟨(r a a0 a1).1.keep (by omega) m (by omega) (by omega), ?_, ?_⟩, fun i j l i0 i1 j0 j1 l0 l1 => ?_, fun x x0 x1 => ?_⟩
  · rw [m.G (by omega)]
    exact (r a a0 a1).2.1
  · rw [m.G (by omega)]
    exact (r a a0 a1).2.2
  · rw [e5 _ (by omega) (by omega)]
    exact low i j l i0 i1 j0 j1 l0 l1
  · rw [e5 x x0 x1]
    exact al.1 x x0 x1
set_option maxHeartbeats 1000000 in
theorem cl_loop {B A L Lc v4 : Int} {fK : Int → Int → Int → Int → Int} {dK : Int → Int → Int} {O E : Type} [I : Lean.Grind.CommRing O] [J : Lean.Grind.CommRing E] {φ : (Int → Int) → O} {ι : O → E} {y : E} {p n : Int} {C : Int → Int → Int} (h : HMs p φ) (hp : isPr p) (hn : 2 ≤ n ∧ n ≤ 4) (A' : ALG n.toNat (fun l => φ (C l)) ι y) (dL : L + 5 < B ∨ B + 61 < L) (dA : A + 50 < B ∨ B + 61 < A) (dLA : L + 5 < A ∨ A + 50 < L) (hM : MTH p n C) (hLc : 0 ≤ Lc ∧ Lc ≤ 18) (pch : PCH p n C fK dK Lc) (clo : CLO p n C fK dK Lc) (hv : v4 = 0 → Lc = 0) {S0 : Hp} {Q : Vl → Hp → Prop} {d : Nat} (H : ∀ S', Md (fun x => MCg B A L x ∨ x = L ∨ x = L + 5) S0 S' → GW S' B A → MW S' A → HW S' (B + 1) → PW S' L → PR S' L → ALB S' B → (∀ i, i ≠ 1 → i ≠ 2 → zG S' L i = zG S0 L i) → zG S' L 1 = 1 → RK S' L n p C Lc fK dK → Q (2, L) S') : ∀ (r : Nat) (k : Int) (S : Hp), k + r = Lc → 0 ≤ k → Md (MCg B A L) S0 S → CI S B A L n p C → HN φ ι y S B n p C (fK k) (dK k) → (∀ a, 0 ≤ a → a ≤ k → RD1 S L n p a (fK a) (dK a) ∧ RD2 S L n p a C (fK a) (dK a)) → At (d + 5) 29 c29_40 [(0, (2, B)), (2, (2, L)), (3, (0, k)), (4, (0, v4))] [] S Q := fun r => by
  have ex : ∀ (k : Int) (S : Hp), k = Lc → Md (MCg B A L) S0 S → CI S B A L n p C → HN φ ι y S B n p C (fK k) (dK k) → (∀ a, 0 ≤ a → a ≤ k → RD1 S L n p a (fK a) (dK a) ∧ RD2 S L n p a C (fK a) (dK a)) → At (d + 5) 29 c29_72 [(0, (2, B)), (2, (2, L)), (3, (0, k))] [] S Q := fun k S hk m ci hh rr => by
    refine cl_exit (d := d + 4) (fK := fK) (dK := dK) ci hn dL dLA hh.1 rr (fun S' m' g a h' pw pr al o1 b1 rk => ?_)
    rw [hk] at rk
    refine H S' ((m.wide (fun x hx => Or.inl hx)).tr (m'.wide (fun x hx => Or.inr hx))) g a h' pw pr al (fun i i1 i2 => ?_) b1 rk
    rw [o1 i i1 i2, m.G (by unfold MCg; omega)]
  have grw : ∀ (k : Int) (S : Hp), 0 ≤ k → k ≤ Lc → k < 18 → Md (MCg B A L) S0 S → CI S B A L n p C → HN φ ι y S B n p C (fK k) (dK k) → (∀ a, 0 ≤ a → a ≤ k → RD1 S L n p a (fK a) (dK a) ∧ RD2 S L n p a C (fK a) (dK a)) → (∀ S', k < Lc → Md (MCg B A L) S0 S' → CI S' B A L n p C → HN φ ι y S' B n p C (fK (k + 1)) (dK (k + 1)) → (∀ a, 0 ≤ a → a ≤ k + 1 → RD1 S' L n p a (fK a) (dK a) ∧ RD2 S' L n p a C (fK a) (dK a)) → At (d + 5) 29 c29_40 [(0, (2, B)), (2, (2, L)), (3, (0, k + 1)), (4, (0, v4))] [] S' Q) → ¬ (v4 = 0 ∨ (18 : Int) ≤ k) → At (d + 5) 29 c29_40 [(0, (2, B)), (2, (2, L)), (3, (0, k)), (4, (0, v4))] [] S Q := fun k S k0 k1 k18 m ci hh rr next nv => by
    have v := chain_rst h hp hn A' (by omega) pch k.toNat (by omega)
    rw [show ((k.toNat : Nat) : Int) = k by omega] at v
    refine w_Grower_closed_40 (d := d + 4) _ _ _ _ _ _ ⟨fun z => absurd z nv, fun _ => ⟨ci.1.1, ?_⟩⟩
    refine cl_grow v ci hh ⟨k0, k18⟩ dL dA dLA (rr k k0 (Int.le_refl _)).1 hM ⟨k1, hLc.2⟩ pch clo (fun S1 m1 ci1 o1 o2 => ⟨fun e => ⟨_, rfl, fun _ => ?_, fun z => absurd rfl z⟩, fun lt rd1 => ⟨_, rfl, fun z => absurd z (by decide), fun _ => ?_⟩⟩)
    · have nm : ∀ x, (x = B + 2 ∨ x = B + 3 ∨ x = B + 8 ∨ x = B + 9 ∨ x = L + 3 ∨ x = L + 4) → ¬ MGr B L x := fun x hx => by
        unfold MGr
        omega
      refine ex k S1 e (m.tr (m1.wide (fun x hx => by unfold MGr at hx; unfold MCg; omega))) ci1 ?_ (fun a a0 a1 => ⟨(rr a a0 a1).1.out (by omega) (fun x x0 x1 => o1 x (by omega)) (fun x x0 x1 => o2 x (by omega)), ?_, ?_⟩)
      · obtain ⟨h1, h2, h3, M, kn, h4, h5⟩ := hh
        have e2 : zG S1 (B + 2) = zG S (B + 2) := funext fun x => m1.G (nm _ (by omega)) x
        have e3 : zG S1 (B + 3) = zG S (B + 3) := funext fun x => m1.G (nm _ (by omega)) x
        have e8 : zG S1 (B + 8) = zG S (B + 8) := funext fun x => m1.G (nm _ (by omega)) x
        have e9 : zG S1 (B + 9) = zG S (B + 9) := funext fun x => m1.G (nm _ (by omega)) x
        exact ⟨by rw [e2]; exact h1, by rw [e3]; exact h2, by rw [e9]; exact h3, M, kn, by rw [e8, e9]; exact h4, h5⟩
      · rw [m1.G (nm _ (by omega))]
        exact (rr a a0 a1).2.1
      · rw [m1.G (nm _ (by omega))]
        exact (rr a a0 a1).2.2
    · rintro x3 rfl
      rw [w32_id (by omega) (by omega)]
      refine ⟨ci1.1.1, ?_⟩
      have v1 := chain_rst h hp hn A' (by omega) pch (k.toNat + 1) (by omega)
      rw [show ((k.toNat + 1 : Nat) : Int) = k + 1 by omega] at v1
      refine cl_insp v1 ci1 ⟨by omega, by omega⟩ dL dA dLA rd1 (fun S2 m2 ci2 hn2 r1 r2 o3 => ⟨rfl, ?_⟩)
      have nL : ∀ x, (x = L + 1 ∨ x = L + 2) → ¬ MIn2 B A L x := fun x hx => by
        unfold MIn2 MP
        omega
      refine next S2 lt ((m.tr (m1.wide (fun x hx => by unfold MGr at hx; unfold MCg; omega))).tr (m2.wide (fun x hx => by unfold MIn2 MP at hx; unfold MCg; omega))) ci2 hn2 (fun a a0 a1 => ?_)
      by_cases q : a = k + 1
      · rw [q]
        exact ⟨r1, r2⟩
      · have ra := rr a a0 (by omega)
        refine ⟨(ra.1.out (by omega) (fun x x0 x1 => o1 x (by omega)) (fun x x0 x1 => o2 x (by omega))).keep (by omega) m2 (nL _ (by omega)) (nL _ (by omega)), ?_, ?_⟩
        · rw [(o3 a q).1, m1.G (by unfold MGr; omega)]
          exact ra.2.1
        · rw [(o3 a q).2, m1.G (by unfold MGr; omega)]
          exact ra.2.2
  induction r with
  | zero =>
    intro k S hk k0 m ci hh rr
    by_cases q : v4 = 0 ∨ (18 : Int) ≤ k
    · exact w_Grower_closed_40 (d := d + 4) _ _ _ _ _ _ ⟨fun _ => ex k S (by omega) m ci hh rr, fun z => absurd q z⟩
    · exact grw k S k0 (by omega) (by omega) m ci hh rr (fun S' lt => by omega) q
  | succ r ih =>
    intro k S hk k0 m ci hh rr
    refine grw k S k0 (by omega) (by omega) m ci hh rr (fun S' lt m' ci' hh' rr' => ih (k + 1) S' (by omega) (by omega) m' ci' hh' rr') (fun z => ?_)
    rcases z with z | z
    · have := hv z
      omega
    · omega
theorem fg_1 {m : Int} (m0 : 0 ≤ m) : fg 1 m = if m = 0 then 1 else 0 := by
  have := fg_one (dp := 0) (m := m.toNat)
  rw [Int.pow_zero, show ((m.toNat : Nat) : Int) = m by omega] at this
  rw [this]
  by_cases q : m = 0
  · rw [if_pos q, if_pos (by omega)]
  · rw [if_neg q, if_neg (by omega)]
set_option maxHeartbeats 1000000 in
/-- THE RINGS OVER ONE NUMBER -/
theorem s_closed {d : Nat} {B A L V Lc c : Int} {S : Hp} {F0 : Int → Int → Int} {fK : Int → Int → Int → Int → Int} {dK : Int → Int → Int} {Q : Vl → Hp → Prop} {O E : Type} [I : Lean.Grind.CommRing O] [J : Lean.Grind.CommRing E] {φ : (Int → Int) → O} {ι : O → E} {y : E} {p n : Int} {C : Int → Int → Int} (h : HMs p φ) (hp : isPr p) (hn : 2 ≤ n ∧ n ≤ 4) (A' : ALG n.toNat (fun l => φ (C l)) ι y) (gw : GW S B A) (mw : MW S A) (hw : HW S (B + 1)) (hV : VW S V) (hVp : zG S V 0 = p) (hVn : zG S V 1 = n) (hF : LAN S (V + 2) 4 (fun _ => 7) p F0) (hC : (fun j => shf p c 6 (F0 j)) = C) (pw : PW S L) (pr : PR S L) (hc : zG S L 0 = c) (hc1 : 0 ≤ c ∧ c < p) (al : ALB S B) (dV : V + 14 < B ∨ B + 61 < V) (dVL : V + 14 < L ∨ L + 5 < V) (dVA : V + 14 < A ∨ A + 50 < V) (dL : L + 5 < B ∨ B + 61 < L) (dA : A + 50 < B ∨ B + 61 < A) (dLA : L + 5 < A ∨ A + 50 < L) (hM : MTH p n C) (hLc : 0 ≤ Lc ∧ Lc ≤ 18) (pch : PCH p n C fK dK Lc) (clo : CLO p n C fK dK Lc) (two : zG S (V + 13) c < 2 → Lc = 0) (H0 : ¬ zG S L 1 = 0 → Q (2, L) S) (H1 : zG S L 1 = 0 → ∀ S', Md (MCl B A L) S S' → GW S' B A → MW S' A → HW S' (B + 1) → PW S' L → PR S' L → ALB S' B → (∀ i, i ≠ 1 → i ≠ 2 → zG S' L i = zG S L i) → zG S' L 1 = 1 → RK S' L n p C Lc fK dK → Q (2, L) S') : Ev (d + 5) 29 [(2, B), (2, V), (2, L)] S Q := by
  have h2 := hp.two
  refine w_Grower_closed_0 (d := d + 4) _ _ _ _ _ ⟨pw.1, fun b0 => ⟨pw.1, gw.1, ?_⟩, H0⟩
  rw [hc]
  refine s_genter gw hw hV h2 hc1 hVp hVn hF dV (fun S1 m1 g1 u1 h1 hu1 l1 => ⟨rfl, ?_⟩)
  rw [hC] at l1
  have pw1 : PW S1 L := pw.keep m1 (by unfold MA; omega)
  have pr1 : PR S1 L := pr.keep m1 (by unfold MA; omega)
  have mw1 : MW S1 A := mw.keep m1 (fun x x0 x1 => by unfold MA; omega)
  have al1 : ALB S1 B := al.keep m1 (fun x hx => by unfold MA; omega)
  refine ⟨pw1.1, s_pstart pw1 pr1 (fun S2 m2 pw2 pr2 z2 f2 => ⟨rfl, by rw [m2.K]; exact g1.1, ?_⟩)⟩
  have ci2 : CI S2 B A L n p C := ⟨g1.keep m2 (fun x hx => by omega), mw1.keep m2 (fun x x0 x1 => by omega), h1.keep m2 (by omega), u1.keep m2 (by omega), hu1.keep m2 (by omega), pw2, pr2, l1.keep m2 (fun x x1 x2 => by omega) (by omega), al1.keep m2 (fun x hx => by omega)⟩
  have v0 := chain_rst h hp hn A' (by omega) pch 0 (by omega)
  rw [show ((0 : Nat) : Int) = 0 from rfl] at v0
  have fz : ∀ l i m, 0 ≤ l → l < 4 → 0 ≤ i → i < 4 → 0 ≤ m → m ≤ 20 → figS S2 L 0 l i m = fg0 l i m := fun l i m l0 l1 i0 i1 m0 m1 => by
    unfold figS fg0
    rw [if_neg (by omega), f2 l i l0 l1 i0 i1]
    by_cases q : i = l
    · rw [if_pos q, fg_1 m0]
      by_cases q2 : m = 0
      · rw [if_pos q2, if_pos ⟨q, q2⟩]
      · rw [if_neg q2, if_neg (fun z => q2 z.2)]
    · rw [if_neg q, fg_zero, if_neg (fun z => q z.1)]
  have rd : RD1 S2 L n p 0 (fK 0) (dK 0) := ⟨fun l i m l0 l1 i0 i1 m0 m1 => (fz l i m l0 (by omega) i0 i1 m0 m1).trans (pch.1 l i m l0 l1 i0 i1 m0 (by omega)).symm, fun l l0 l1 => (z2 l l0 (by omega)).trans (pch.2.1 l l0 l1).symm, fun l l0 l1 => z2 l (by omega) l1, fun l i m l0 l1 i0 i1 => by
    by_cases w : m < 0 ∨ 20 < m
    · rw [figS_off w]
      omega
    · rw [fz l i m l0 l1 i0 i1 (by omega) (by omega)]
      unfold fg0
      split <;> omega, fun l i m l0 l1 i0 i1 m0 m1 => by
    rw [fz l i m (by omega) l1 i0 i1 (by omega) m1]
    exact if_neg (by omega)⟩
  refine cl_insp v0 ci2 ⟨by omega, by omega⟩ dL dA dLA rd (fun S3 m3 ci3 hn3 r1 r2 _ => ⟨rfl, ci3.2.2.2.2.2.1.1, ?_⟩)
  have n3 : ∀ x, ((x = L) ∨ (V ≤ x ∧ x ≤ V + 14)) → ¬ MIn2 B A L x := fun x hx => by
    unfold MIn2 MP
    omega
  have hV3 : VW S3 V := ((hV.keep m1 (fun x x1 x2 => by unfold MA; omega)).keep m2 (fun x x1 x2 => by omega)).keep m3 (fun x x1 x2 => n3 x (by omega))
  have lc3 : zG S3 L 0 = c := by rw [m3.G (n3 _ (by omega)), m2.G (by omega), m1.G (by unfold MA; omega)]; exact hc
  have o3 : zG S3 (V + 13) c = zG S (V + 13) c := by rw [m3.G (n3 _ (by omega)), m2.G (by omega), m1.G (by unfold MA; omega)]
  rw [lc3]
  refine ⟨hV3.1, s_mayGrow hV3 ⟨hc1.1, by omega⟩ ⟨_, rfl, ?_⟩⟩
  rw [o3]
  refine cl_loop h hp hn A' dL dA dLA hM hLc pch clo (fun z => ?_) (S0 := S3) (fun S' m' g a hh pw' pr' al' o1 b1 rk => ?_) Lc.toNat 0 S3 (by omega) (by omega) (Md.refl _ _) ci3 hn3 (fun a a0 a1 => ?_)
  · refine two (Classical.byContradiction (fun q => ?_))
    rw [if_neg q] at z
    omega
  · refine H1 b0 S' ((((m1.wide (fun x hx => by unfold MA at hx; unfold MCl; omega)).tr (m2.wide (fun x hx => by unfold MCl; omega))).tr (m3.wide (fun x hx => by unfold MIn2 MP at hx; unfold MCl; omega))).tr (m'.wide (fun x hx => by unfold MCg at hx; unfold MCl; omega))) g a hh pw' pr' al' (fun i i1 i2 => ?_) b1 rk
    rw [o1 i i1 i2, m3.G (n3 _ (by omega)), m2.G (by omega), m1.G (by unfold MA; omega)]
  · rw [show a = 0 by omega]
    exact ⟨r1, r2⟩
