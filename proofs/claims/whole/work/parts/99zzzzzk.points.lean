/-! Points and branches: the class's equations are the reference's classes. -/
theorem pm_a {E : Type} [J : Lean.Grind.CommRing E] {T Tr Ts t a b w w' c w0 g1 g2 g3 X Y : E} (hX : X = Tr * (a + t * w)) (hY : Y = Ts * (b + t * w')) (h0 : a * b = T * (c + t * w0)) (h1 : a * w' = T * g1) (h2 : w * b = T * g2) (h3 : w * w' = T * g3) : X * Y = Tr * Ts * T * (c + t * (w0 + g1 + g2 + t * g3)) := by
  rw [hX, hY, show Tr * (a + t * w) * (Ts * (b + t * w')) = Tr * Ts * (a * b + t * (a * w') + t * (w * b) + t * (t * (w * w'))) by clear hX hY h0 h1 h2 h3; grind, h0, h1, h2, h3]
  clear hX hY h0 h1 h2 h3
  grind
/-- a product of classes -/
theorem pc_mul {O E : Type} [I : Lean.Grind.CommRing O] [J : Lean.Grind.CommRing E] {p n k : Int} {C : Int → Int → Int} {φ : (Int → Int) → O} {ι : O → E} {y : E} {fig : Int → Int → Int → Int} {dp : Int → Int} (v : RNV p n C φ ι y k fig dp) {a b : Int} {X Y Tr Ts : E} (hX : ∃ w, (LT ι n.toNat (fun l => vE φ ι y n.toNat (bR fig l))) w ∧ X = Tr * (vC p φ ι n.toNat (fun l => vE φ ι y n.toNat (bR fig l)) a + ι (φ t1) * w)) (hY : ∃ w, (LT ι n.toNat (fun l => vE φ ι y n.toNat (bR fig l))) w ∧ Y = Ts * (vC p φ ι n.toNat (fun l => vE φ ι y n.toNat (bR fig l)) b + ι (φ t1) * w)) : ∃ w, (LT ι n.toNat (fun l => vE φ ι y n.toNat (bR fig l))) w ∧ X * Y = Tr * Ts * ι (φ t1) ^ 20 * (vC p φ ι n.toNat (fun l => vE φ ι y n.toNat (bR fig l)) (pcC p n (tb1 p n C fig dp 0) a b) + ι (φ t1) * w) := by
  obtain ⟨z, lz, ez⟩ := v.ab a b
  have A := v.2.2.2.1
  have lat := v.lat
  obtain ⟨w, lw, ew⟩ := hX
  obtain ⟨w', lw', ew'⟩ := hY
  obtain ⟨g1, l1, e1⟩ := lat.2.2.2.1 (vC p φ ι n.toNat (fun l => vE φ ι y n.toNat (bR fig l)) a) w' ⟨_, rfl⟩ lw'
  obtain ⟨g2, l2, e2⟩ := lat.2.2.2.1 w (vC p φ ι n.toNat (fun l => vE φ ι y n.toNat (bR fig l)) b) lw ⟨_, rfl⟩
  obtain ⟨g3, l3, e3⟩ := lat.2.2.2.1 w w' lw lw'
  exact ⟨_, lat.1 _ _ (lat.1 _ _ (lat.1 _ _ (LT.add A ⟨_, rfl⟩ (LT.sca A _ lz)) l1) l2) (LT.sca A _ l3), pm_a ew ew' ez e1 e2 e3⟩
theorem fp_pow {O E : Type} [I : Lean.Grind.CommRing O] [J : Lean.Grind.CommRing E] {p n k : Int} {C : Int → Int → Int} {φ : (Int → Int) → O} {ι : O → E} {y : E} {fig : Int → Int → Int → Int} {dp : Int → Int} (v : RNV p n C φ ι y k fig dp) (a : Int) : ∃ w, (LT ι n.toNat (fun l => vE φ ι y n.toNat (bR fig l))) w ∧ vC p φ ι n.toNat (fun l => vE φ ι y n.toNat (bR fig l)) a ^ p.toNat = (ι (φ t1) ^ 20) ^ (p - 1).toNat * (vC p φ ι n.toNat (fun l => vE φ ι y n.toNat (bR fig l)) (fpC p n (tb1 p n C fig dp 0) a) + ι (φ t1) * w) := by
  have one : ∃ w, (LT ι n.toNat (fun l => vE φ ι y n.toNat (bR fig l))) w ∧ vC p φ ι n.toNat (fun l => vE φ ι y n.toNat (bR fig l)) a = 1 * (vC p φ ι n.toNat (fun l => vE φ ι y n.toNat (bR fig l)) a + ι (φ t1) * w) := ⟨0, LT.zero v.2.2.2.1, by grind⟩
  have sq := pc_mul v one one
  have fin : ∀ {X Tr : E} {u : Int} (q : Nat), (∃ w, (LT ι n.toNat (fun l => vE φ ι y n.toNat (bR fig l))) w ∧ X = Tr * (vC p φ ι n.toNat (fun l => vE φ ι y n.toNat (bR fig l)) u + ι (φ t1) * w)) → vC p φ ι n.toNat (fun l => vE φ ι y n.toNat (bR fig l)) a ^ p.toNat = X → (ι (φ t1) ^ 20) ^ (p - 1).toNat = Tr → fpC p n (tb1 p n C fig dp 0) a = u → ∃ w, (LT ι n.toNat (fun l => vE φ ι y n.toNat (bR fig l))) w ∧ vC p φ ι n.toNat (fun l => vE φ ι y n.toNat (bR fig l)) a ^ p.toNat = (ι (φ t1) ^ 20) ^ (p - 1).toNat * (vC p φ ι n.toNat (fun l => vE φ ι y n.toNat (bR fig l)) (fpC p n (tb1 p n C fig dp 0) a) + ι (φ t1) * w) := fun {X Tr u} _ ⟨w, lw, ew⟩ e1 e2 e3 => ⟨w, lw, by rw [e1, e2, e3]; exact ew⟩
  rcases v.2.1 with r | r | r | r
  · refine fin 0 sq ?_ ?_ (if_pos r)
    · rw [show p.toNat = 2 by omega]
      grind
    · rw [show (p - 1).toNat = 1 by omega]
      grind
  · refine fin 0 (pc_mul v sq one) ?_ ?_ ((if_neg (by omega)).trans (if_pos r))
    · rw [show p.toNat = 3 by omega]
      grind
    · rw [show (p - 1).toNat = 2 by omega]
      grind
  · refine fin 0 (pc_mul v (pc_mul v sq sq) one) ?_ ?_ ((if_neg (by omega)).trans ((if_neg (by omega)).trans (if_pos r)))
    · rw [show p.toNat = 5 by omega]
      grind
    · rw [show (p - 1).toNat = 4 by omega]
      grind
  · refine fin 0 (pc_mul v (pc_mul v sq sq) (pc_mul v sq one)) ?_ ?_ ((if_neg (by omega)).trans ((if_neg (by omega)).trans (if_neg (by omega))))
    · rw [show p.toNat = 7 by omega]
      grind
    · rw [show (p - 1).toNat = 6 by omega]
      grind
theorem cl_sub {O E : Type} [I : Lean.Grind.CommRing O] [J : Lean.Grind.CommRing E] {φ : (Int → Int) → O} {ι : O → E} {y : E} {p : Int} {n : Nat} {c : Int → O} (h : HM p φ) (A : ALG n c ι y) {B : Int → E} (x z : Int → Int) : clE φ ι n B (fun l => x l - z l) = clE φ ι n B x + - clE φ ι n B z := by
  unfold clE
  rw [← su_neg, ← su_add]
  refine su_congr fun l _ _ => ?_
  (try dsimp only)
  rw [show x l - z l = x l + -1 * z l by omega, h.nC_add, h.nC_mul, hm_m1 h, A.1, A.2.1, A.ineg, A.2.2.1]
  grind
theorem df_a {E : Type} [J : Lean.Grind.CommRing E] {a b t z w : E} (e : a + t * z = b + t * w) : a + - b = t * (w + - z) := by
  rw [show a + - b = (a + t * z) + - (t * z) + - b by clear e; grind, e]
  clear e
  grind
/-- numbers that tell the same by t -/
theorem cl_same {O E : Type} [I : Lean.Grind.CommRing O] [J : Lean.Grind.CommRing E] {p n k : Int} {C : Int → Int → Int} {φ : (Int → Int) → O} {ι : O → E} {y : E} {fig : Int → Int → Int → Int} {dp : Int → Int} (v : RNV p n C φ ι y k fig dp) {x z : Int → Int} {r s : E} (lr : (LT ι n.toNat (fun l => vE φ ι y n.toNat (bR fig l))) r) (ls : (LT ι n.toNat (fun l => vE φ ι y n.toNat (bR fig l))) s) (e : clE φ ι n.toNat (fun l => vE φ ι y n.toNat (bR fig l)) x + ι (φ t1) * r = clE φ ι n.toNat (fun l => vE φ ι y n.toNat (bR fig l)) z + ι (φ t1) * s) (l : Int) (l0 : 0 ≤ l) (l1 : l < n) : p ∣ x l - z l := by
  have A := v.2.2.2.1
  have q := df_a e
  rw [← cl_sub v.1.1 A] at q
  exact (cl_z v (fun l => x l - z l)).mp ⟨s + - r, LT.add A ls (v.lat.neg lr), q⟩ l l0 l1
theorem dot_pt {p n l : Int} {pw x : Int → Int} (hn : 2 ≤ n ∧ n ≤ 4) (l0 : 0 ≤ l) (l1 : l < n) : dot n (ptE p pw) l x = dot n pw l x + (p - 1) * x l := by
  unfold dot
  rw [sm_congr (g := fun i => pw (4 * l + i) * x i + (if i = l then (p - 1) * x l else 0)) (fun i i0 i1 => by
    unfold ptE
    by_cases q : i = l
    · rw [if_pos (by omega), if_pos q, q, Int.add_mul]
    · rw [if_neg (by omega), if_neg q, Int.add_zero, Int.add_zero]), sm_add, sm_one l0 (by omega)]
/-- THE POINTS -/
theorem pt_ker {O E : Type} [I : Lean.Grind.CommRing O] [J : Lean.Grind.CommRing E] {p n k : Int} {C : Int → Int → Int} {φ : (Int → Int) → O} {ι : O → E} {y : E} {fig : Int → Int → Int → Int} {dp : Int → Int} (v : RNV p n C φ ι y k fig dp) {low pw : Int → Int} (hl : ∀ i j l, 0 ≤ i → i < n → 0 ≤ j → j < n → 0 ≤ l → l < n → low ((4 * i + j) * 4 + l) = tb1 p n C fig dp 0 ((4 * i + j) * 4 + l)) (hw : ∀ l j, 0 ≤ l → l < n → 0 ≤ j → j < n → pw (4 * l + j) = pwC p n low j (p - 1).toNat l) {a : Int} (a0 : 0 ≤ a) (a1 : a < pwI p n.toNat) : fpC p n (tb1 p n C fig dp 0) a = a ↔ ker p n n (ptE p pw) (dgt p a) := by
  have hn := v.2.2.1
  have p2 := v.2.1.two.1
  have lat := v.lat
  obtain ⟨z, lz, ez⟩ := cl_fr v hl hw (dgt p a)
  obtain ⟨w, lw, ew⟩ := fp_pow v a
  have e : clE φ ι n.toNat (fun l => vE φ ι y n.toNat (bR fig l)) (fun l => dot n pw l (dgt p a)) + ι (φ t1) * z = clE φ ι n.toNat (fun l => vE φ ι y n.toNat (bR fig l)) (dgt p (fpC p n (tb1 p n C fig dp 0) a)) + ι (φ t1) * w := lat.canT _ (ez.symm.trans ew)
  have s := cl_same v lz lw e
  have fb : 0 ≤ fpC p n (tb1 p n C fig dp 0) a ∧ fpC p n (tb1 p n C fig dp 0) a < pwI p n.toNat := by
    unfold fpC
    split
    · exact pcC_bd v.2.1.two hn
    · split
      · exact pcC_bd v.2.1.two hn
      · split
        · exact pcC_bd v.2.1.two hn
        · exact pcC_bd v.2.1.two hn
  constructor
  · intro h r r0 r1
    have := s r r0 r1
    rw [h] at this
    rw [dot_pt hn r0 r1, show dot n pw r (dgt p a) + (p - 1) * dgt p a r = (dot n pw r (dgt p a) - dgt p a r) + p * dgt p a r by rw [Int.sub_mul, Int.one_mul]; omega]
    exact Int.dvd_add this ⟨_, rfl⟩
  · intro h
    refine cd_eq p2 fb.1 fb.2 a0 a1 (fun l l0 l1 => ?_)
    have x := h l l0 l1
    rw [dot_pt hn l0 l1] at x
    have x2 : p ∣ dot n pw l (dgt p a) - dgt p a l := by
      have := Int.dvd_sub x ⟨dgt p a l, rfl⟩
      rw [show dot n pw l (dgt p a) + (p - 1) * dgt p a l - p * dgt p a l = dot n pw l (dgt p a) - dgt p a l by rw [Int.sub_mul, Int.one_mul]; omega] at this
      exact this
    have x3 := Int.dvd_sub x2 (s l l0 l1)
    rw [show dot n pw l (dgt p a) - dgt p a l - (dot n pw l (dgt p a) - dgt p (fpC p n (tb1 p n C fig dp 0) a) l) = dgt p (fpC p n (tb1 p n C fig dp 0) a) l - dgt p a l by omega] at x3
    rw [(dvd_lin p2 (dgt_bd p2).1 (dgt_bd p2).2).mp x3, em_id (dgt_bd p2).1 (dgt_bd p2).2]
theorem yb_a {E : Type} [J : Lean.Grind.CommRing E] {T td b1 bi y f t u cl z : E} (h1 : T * y = td * b1 + - (T * (f + t * u))) (h2 : b1 * bi = T * (cl + t * z)) : T * (y * bi) = T * (td * (cl + t * z) + - (f * bi) + t * (- (u * bi))) := by
  rw [show T * (y * bi) = T * y * bi by clear h1 h2; grind, h1, show (td * b1 + - (T * (f + t * u))) * bi = td * (b1 * bi) + - (T * (f + t * u)) * bi by clear h1 h2; grind, h2]
  clear h1 h2
  grind
theorem b1_a {E : Type} [J : Lean.Grind.CommRing E] {td a yy T w b1 : E} (e : b1 = a + yy) (h1 : td * a = T * w) : td * yy = td * b1 + - (T * w) := by
  rw [e, ← h1]
  clear e h1
  grind
/-- y, by b_1 -/
theorem y_b1 {O E : Type} [I : Lean.Grind.CommRing O] [J : Lean.Grind.CommRing E] {p n k : Int} {C : Int → Int → Int} {φ : (Int → Int) → O} {ι : O → E} {y : E} {fig : Int → Int → Int → Int} {dp : Int → Int} (v : RNV p n C φ ι y k fig dp) : ∃ u : O, ι (φ t1) ^ 20 * y = ι (φ t1) ^ (dp 1).toNat * vE φ ι y n.toNat (bR fig 1) + - (ι (φ t1) ^ 20 * (ι (φ (nC (fig 1 0 (dp 1)))) + ι (φ t1) * ι u)) := by
  have dz := fun m m0 m1 => v.deep (l := 1) (i := 0) (m := m) (by omega) (by have := v.2.2.1; omega) (by omega) (by have := v.2.2.1; omega) m0 m1
  obtain ⟨h, hp, hn, A, hk, r⟩ := v
  have b := r.1.1 1 (by omega) (by omega)
  have zb : ∀ x, x < 0 → bR fig 1 0 x = 0 := fun x hx => if_neg (by omega)
  have bb : ∀ x, 0 ≤ bR fig 1 0 x ∧ bR fig 1 0 x < p := fun x => by
    unfold bR
    have := hp.two
    split
    · exact r.2.2.1 1 0 _ (by omega) (by omega) (by omega) (by omega) (by omega) (by omega)
    · omega
  obtain ⟨gg, hg⟩ : ∃ gg : Int → Int, ∀ x, gg x = if x < 0 then 0 else bR fig 1 0 (x + 20 - dp 1) := ⟨fun x => if x < 0 then 0 else bR fig 1 0 (x + 20 - dp 1), fun x => rfl⟩
  have up : φ t1 ^ (dp 1).toNat * φ (bR fig 1 0) = φ t1 ^ 20 * φ gg := by
    rw [← h.1.shiftN zb, h.up (f := fun x => bR fig 1 0 (x - ((dp 1).toNat : Nat))) 20 (fun x => bb _) (fun x hx => by
      (try dsimp only)
      unfold bR
      split
      · exact dz _ (by omega) (by omega)
      · rfl)]
    refine congrArg (fun w => φ t1 ^ 20 * φ w) (funext fun x => ?_)
    (try dsimp only)
    rw [hg]
    by_cases q : x < 0
    · rw [if_pos q, if_pos q]
    · rw [if_neg q, if_neg q]
      congr 1
      omega
  obtain ⟨z, hz⟩ := h.two (f := gg) (fun x hx => by rw [hg, if_pos hx])
  rw [hz] at up
  refine ⟨φ (nC (gg 1)) + φ t1 * z, ?_⟩
  have f0 : gg 0 = fig 1 0 (dp 1) := by
    rw [hg, if_neg (by omega)]
    unfold bR
    rw [if_pos (by omega), show 20 - (0 + 20 - dp 1) = dp 1 by omega]
  rw [f0] at up
  generalize φ (nC (gg 1)) + φ t1 * z = u at *
  have e1 : vE φ ι y n.toNat (bR fig 1) = ι (φ (bR fig 1 0)) + ι (φ t1) ^ (20 - dp 1).toNat * y := by
    unfold vE
    have hm : n.toNat = (n.toNat - 2) + 1 + 1 := by omega
    rw [hm, su_first, su_first, su_zeros (fun i i0 i1 => by
      rw [bR_0 h r.2.1 (by omega) (by omega) (by omega) (by omega), A.i0]
      grind), show (0 : Int) + 1 = 1 from rfl, bR_d h r.1 (by omega) (by omega), A.ipow, show (0 : Int).toNat = 0 from rfl, show (1 : Int).toNat = 1 from rfl]
    grind
  have e2 := congrArg ι up
  rw [A.2.1, A.2.1, A.ipow, A.ipow, A.1, A.2.1] at e2
  have e3 := b1_a e1 e2
  rw [← e3, show ι (φ t1) ^ (dp 1).toNat * (ι (φ t1) ^ (20 - dp 1).toNat * y) = (ι (φ t1) ^ (dp 1).toNat * ι (φ t1) ^ (20 - dp 1).toNat) * y by clear e1 e2 e3 up; grind, ← Lean.Grind.Semiring.pow_add, show (dp 1).toNat + (20 - dp 1).toNat = 20 by omega]
theorem df_b {E : Type} [J : Lean.Grind.CommRing E] {y bi cl z f u g e d : E} {t : E} (h : y * bi = cl + t * z + - (f * bi) + t * u) (hd : d = cl + - (f * bi) + - (e * bi) + t * g) : (y + - e) * bi = d + t * (z + u + - g) := by
  rw [show (y + - e) * bi = y * bi + - (e * bi) by clear h hd; grind, h, hd]
  clear h hd
  grind
/-- y - e times b_i: the class's columns -/
theorem df_e {O E : Type} [I : Lean.Grind.CommRing O] [J : Lean.Grind.CommRing E] {p n k : Int} {C : Int → Int → Int} {φ : (Int → Int) → O} {ι : O → E} {y : E} {fig : Int → Int → Int → Int} {dp : Int → Int} (v : RNV p n C φ ι y k fig dp) {low D : Int → Int} {e : Int} (hl : ∀ i j l, 0 ≤ i → i < n → 0 ≤ j → j < n → 0 ≤ l → l < n → low ((4 * i + j) * 4 + l) = tb1 p n C fig dp 0 ((4 * i + j) * 4 + l)) (hD : ∀ l i, 0 ≤ l → l < n → 0 ≤ i → i < n → D (4 * l + i) = dfV p (dp 1) (fig 1 0 (dp 1)) e low l i) {i : Int} (i0 : 0 ≤ i) (i1 : i < n) : ∃ z, (LT ι n.toNat (fun l => vE φ ι y n.toNat (bR fig l))) z ∧ (y + - ι (φ (nC e))) * vE φ ι y n.toNat (bR fig i) = clE φ ι n.toNat (fun l => vE φ ι y n.toNat (bR fig l)) (fun l => D (4 * l + i)) + ι (φ t1) * z := by
  obtain ⟨u, hu⟩ := y_b1 v
  have hn := v.2.2.1
  have h := v.1
  have A := v.2.2.2.1
  have lat := v.lat
  have b := v.2.2.2.2.2.1.1 1 (by omega) (by omega)
  obtain ⟨z, lz, ez⟩ := cl_mul v (low := low) (j := i) i0 i1 (fun a l a0 a1 l0 l1 => hl a i l a0 a1 i0 i1 l0 l1) (fun l => if l = 1 then 1 else 0)
  rw [cl_dl h.1 A (by omega) (by omega)] at ez
  (try dsimp only at ez)
  have y1 := lat.2.2.2.2.2.2.2.1 _ _ (yb_a hu ez)
  have lB : (LT ι n.toNat (fun l => vE φ ι y n.toNat (bR fig l))) (vE φ ι y n.toNat (bR fig i)) := LT.b A i0 (by omega)
  have tm : ∀ l, 0 ≤ l → l < n → tmC p n low (fun l => if l = 1 then 1 else 0) i l = low ((4 + i) * 4 + l) % p := fun l l0 l1 => by
    unfold tmC
    rw [if_pos ⟨l0, l1⟩, sm_congr (g := fun a => if a = 1 then low ((4 + i) * 4 + l) else 0) (fun a a0 a1 => by
      (try dsimp only)
      by_cases q : a = 1
      · rw [if_pos q, if_pos q, q, Int.one_mul, show (4 * 1 + i) * 4 + l = (4 + i) * 4 + l by omega]
      · rw [if_neg q, if_neg q, Int.zero_mul]), sm_one (by omega) (by omega)]
  have n2p : φ (nC (2 * p)) = 0 := h.1.nC_dv ⟨2, by omega⟩
  have nsub : ∀ f, φ (nC (2 * p - f - e)) = - φ (nC f) + - φ (nC e) := fun f => by
    rw [show 2 * p - f - e = 2 * p + (-1 * f + -1 * e) by omega, h.1.nC_add, n2p, h.1.nC_add, h.1.nC_mul, h.1.nC_mul, hm_m1 h.1]
    grind
  by_cases q : dp 1 ≤ 0
  · have hd : clE φ ι n.toNat (fun l => vE φ ι y n.toNat (bR fig l)) (fun l => D (4 * l + i)) = clE φ ι n.toNat (fun l => vE φ ι y n.toNat (bR fig l)) (tmC p n low (fun l => if l = 1 then 1 else 0) i) + - (ι (φ (nC (fig 1 0 (dp 1)))) * vE φ ι y n.toNat (bR fig i)) + - (ι (φ (nC e)) * vE φ ι y n.toNat (bR fig i)) + ι (φ t1) * 0 := by
      have e0 : clE φ ι n.toNat (fun l => vE φ ι y n.toNat (bR fig l)) (fun l => D (4 * l + i)) = clE φ ι n.toNat (fun l => vE φ ι y n.toNat (bR fig l)) (tmC p n low (fun l => if l = 1 then 1 else 0) i) + su n.toNat (fun l => if l = i then (- ι (φ (nC (fig 1 0 (dp 1)))) + - ι (φ (nC e))) * vE φ ι y n.toNat (bR fig l) else 0) := by
        unfold clE
        rw [← su_add]
        refine su_congr fun l l0 l1 => ?_
        (try dsimp only)
        rw [hD l i l0 (by omega) i0 i1, tm l l0 (by omega)]
        unfold dfV
        rw [if_pos q, h.1.nC_mod]
        by_cases q2 : i = l
        · rw [if_pos q2, if_pos q2.symm, h.1.nC_add, nsub, h.1.nC_mod, A.1, A.1, A.ineg, A.ineg]
          grind
        · rw [if_neg q2, if_neg (fun z => q2 z.symm), h.1.nC_mod]
          grind
      rw [e0, su_one i i0 (by omega) (fun l _ _ nl => if_neg nl), if_pos rfl]
      grind
    rw [show (dp 1).toNat = 0 by omega, Lean.Grind.Semiring.pow_zero] at y1
    refine ⟨_, ?_, df_b (z := z) (u := - (ι u * vE φ ι y n.toNat (bR fig i))) (g := 0) (by rw [y1]; clear ez hd y1; grind) hd⟩
    exact LT.add A (LT.add A lz (lat.neg (LT.sca A _ lB))) (lat.neg (LT.zero A))
  · have hd : clE φ ι n.toNat (fun l => vE φ ι y n.toNat (bR fig l)) (fun l => D (4 * l + i)) = 0 + - (ι (φ (nC (fig 1 0 (dp 1)))) * vE φ ι y n.toNat (bR fig i)) + - (ι (φ (nC e)) * vE φ ι y n.toNat (bR fig i)) + ι (φ t1) * 0 := by
      have e0 : clE φ ι n.toNat (fun l => vE φ ι y n.toNat (bR fig l)) (fun l => D (4 * l + i)) = su n.toNat (fun l => if l = i then (- ι (φ (nC (fig 1 0 (dp 1)))) + - ι (φ (nC e))) * vE φ ι y n.toNat (bR fig l) else 0) := by
        unfold clE
        refine su_congr fun l l0 l1 => ?_
        (try dsimp only)
        rw [hD l i l0 (by omega) i0 i1]
        unfold dfV
        rw [if_neg q, h.1.nC_mod]
        by_cases q2 : i = l
        · rw [if_pos q2, if_pos q2.symm, Int.zero_add, nsub, A.1, A.ineg, A.ineg]
        · rw [if_neg q2, if_neg (fun z => q2 z.symm), h.1.nC_0, A.i0]
          grind
      rw [e0, su_one i i0 (by omega) (fun l _ _ nl => if_neg nl), if_pos rfl]
      grind
    have ek : ι (φ t1) ^ (dp 1).toNat = ι (φ t1) * ι (φ t1) ^ ((dp 1).toNat - 1) := by
      rw [show (dp 1).toNat = ((dp 1).toNat - 1) + 1 by omega, Lean.Grind.Semiring.pow_succ, show (dp 1).toNat - 1 + 1 - 1 = (dp 1).toNat - 1 by omega]
      exact comm_E _ _
    rw [ek] at y1
    have lc : (LT ι n.toNat (fun l => vE φ ι y n.toNat (bR fig l))) (clE φ ι n.toNat (fun l => vE φ ι y n.toNat (bR fig l)) (tmC p n low (fun l => if l = 1 then 1 else 0) i) + ι (φ t1) * z) := LT.add A ⟨_, rfl⟩ (LT.sca A _ lz)
    refine ⟨_, ?_, df_b (cl := 0) (z := ι (φ t1) ^ ((dp 1).toNat - 1) * (clE φ ι n.toNat (fun l => vE φ ι y n.toNat (bR fig l)) (tmC p n low (fun l => if l = 1 then 1 else 0) i) + ι (φ t1) * z)) (u := - (ι u * vE φ ι y n.toNat (bR fig i))) (g := 0) (by rw [y1]; clear ez hd y1 ek; grind) hd⟩
    rw [← A.ipow]
    exact LT.add A (LT.add A (LT.sca A _ lc) (lat.neg (LT.sca A _ lB))) (lat.neg (LT.zero A))
