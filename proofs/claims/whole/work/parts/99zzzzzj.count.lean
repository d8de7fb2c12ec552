/-! Counting what solves equations. -/
/-- digits from below, each free or told by those above it -/
def DTM (p : Int) (fr : Int → Int) (e : Int → (Int → Int) → Int) (n : Nat) (x : Int → Int) : Prop := ∀ i : Int, 0 ≤ i → i < n → fr i = 1 ∨ x i = e i (fun j => x (i + 1 + j))
theorem dgt_0 {p a : Int} : dgt p a 0 = a % p := by
  unfold dgt
  rw [show (0 : Int).toNat = 0 from rfl, show pwI p 0 = 1 from rfl, Int.ediv_one]
theorem pwI_nn {p : Int} (hp : 2 ≤ p) (k : Nat) : 1 ≤ pwI p k := (pwI_le hp k 0).1
theorem pwI_mu {p : Int} : ∀ k : Nat, pwI p (k + 1) = p * pwI p k
  | 0 => Int.mul_comm 1 p
  | k + 1 => by
    show pwI p (k + 1) * p = p * pwI p (k + 1)
    exact Int.mul_comm _ _
theorem dgt_up {p x a i : Int} (hp : 2 ≤ p) (x0 : 0 ≤ x) (x1 : x < p) (i0 : 0 ≤ i) : dgt p (p * a + x) (i + 1) = dgt p a i := by
  unfold dgt
  rw [show (i + 1).toNat = i.toNat + 1 by omega, pwI_mu, ← Int.ediv_ediv_of_nonneg (by omega), Int.mul_add_ediv_left _ _ (by omega), Int.ediv_eq_zero_of_lt x0 x1, Int.add_zero]
theorem dgt_lo {p x a : Int} (x0 : 0 ≤ x) (x1 : x < p) : dgt p (p * a + x) 0 = x := by
  rw [dgt_0, Int.mul_add_emod_self_left, em_id x0 x1]
theorem ind_ex (P : Int → Prop) : ∃ f : Int → Int, ∀ a, (f a = 1 ∧ P a) ∨ (f a = 0 ∧ ¬ P a) := by
  have ex : ∀ a, ∃ v : Int, (v = 1 ∧ P a) ∨ (v = 0 ∧ ¬ P a) := fun a => by
    by_cases q : P a
    · exact ⟨1, Or.inl ⟨rfl, q⟩⟩
    · exact ⟨0, Or.inr ⟨rfl, q⟩⟩
  exact ⟨fun a => Classical.choose (ex a), fun a => Classical.choose_spec (ex a)⟩
theorem sm_const (c : Int) : ∀ n : Nat, sm n (fun _ => c) = n * c
  | 0 => by rw [sm_zero]; omega
  | n + 1 => by
    rw [sm_succ, sm_const c n, show ((n + 1 : Nat) : Int) = (n : Int) + 1 by omega, Int.add_mul, Int.one_mul]
theorem cnt_k {p : Int} (hp : 2 ≤ p) : ∀ (n : Nat) (fr : Int → Int) (e : Int → (Int → Int) → Int) (f : Int → Int), (∀ i : Int, 0 ≤ i → i < n → fr i = 0 ∨ fr i = 1) → (∀ (i : Int) (x : Int → Int), 0 ≤ i → i < n → 0 ≤ e i x ∧ e i x < p) → (∀ (i : Int) (x x' : Int → Int), 0 ≤ i → (∀ j, 0 ≤ j → x j = x' j) → e i x = e i x') → (∀ a, 0 ≤ a → a < pwI p n → (f a = 1 ∧ DTM p fr e n (dgt p a)) ∨ (f a = 0 ∧ ¬ DTM p fr e n (dgt p a))) → sm (pwI p n).toNat f = pwI p (sm n fr).toNat ∧ 0 ≤ sm n fr
  | 0, fr, e, f, _, _, _, hf => by
    have := hf 0 (Int.le_refl 0) (show (0 : Int) < 1 by decide)
    have t : DTM p fr e 0 (dgt p 0) := fun i i0 i1 => by omega
    rcases this with w | w
    · refine ⟨?_, Int.le_refl 0⟩
      show 0 + f 0 = 1
      rw [w.1]
      rfl
    · exact absurd t w.2
  | n + 1, fr, e, f, hfr, he, hx, hf => by
    obtain ⟨g, hg⟩ := ind_ex (fun a => DTM p (fun i => fr (i + 1)) (fun i => e (i + 1)) n (dgt p a))
    have ih := cnt_k hp n (fun i => fr (i + 1)) (fun i => e (i + 1)) g (fun i i0 i1 => hfr (i + 1) (by omega) (by omega)) (fun i x i0 i1 => he (i + 1) x (by omega) (by omega)) (fun i x x' i0 h => hx (i + 1) x x' (by omega) h) (fun a _ _ => hg a)
    have pn := pwI_nn hp n
    have f01 := hfr 0 (by omega) (by omega)
    have e1 : (pwI p (n + 1)).toNat = p.toNat * (pwI p n).toNat := by
      rw [pwI_mu, Int.toNat_mul (by omega) (by omega)]
    have inner : ∀ a : Int, 0 ≤ a → a < (pwI p n).toNat → sm p.toNat (fun x => f (p.toNat * a + x)) = (if fr 0 = 1 then p else 1) * g a := fun a a0 a1 => by
      have pt : ((p.toNat : Nat) : Int) = p := by omega
      have bd : ∀ x : Int, 0 ≤ x → x < p → 0 ≤ p * a + x ∧ p * a + x < pwI p (n + 1) := fun x x0 x1 => by
        rw [pwI_mu]
        have m1 := Int.mul_le_mul_of_nonneg_left (show a ≤ pwI p n - 1 by omega) (show 0 ≤ p by omega)
        rw [Int.mul_sub, Int.mul_one] at m1
        have m2 := Int.mul_nonneg (show 0 ≤ p by omega) a0
        omega
      have dt : ∀ x : Int, 0 ≤ x → x < p → (DTM p fr e (n + 1) (dgt p (p * a + x)) ↔ (fr 0 = 1 ∨ x = e 0 (dgt p a)) ∧ DTM p (fun i => fr (i + 1)) (fun i => e (i + 1)) n (dgt p a)) := fun x x0 x1 => by
        have d1 : ∀ i : Int, 0 ≤ i → e i (fun j => dgt p (p * a + x) (i + 1 + j)) = e i (fun j => dgt p a (i + j)) := fun i i0 => hx i _ _ i0 (fun j j0 => by (try dsimp only); rw [show i + 1 + j = (i + j) + 1 by omega]; exact dgt_up hp x0 x1 (by omega))
        have d0 : e 0 (fun j => dgt p a (0 + j)) = e 0 (dgt p a) := hx 0 _ _ (by omega) (fun j _ => by (try dsimp only); rw [show (0 : Int) + j = j by omega])
        have ds : ∀ i : Int, 0 ≤ i → e (i + 1) (fun j => dgt p a (i + 1 + j)) = (fun i => e (i + 1)) i (fun j => dgt p a (i + 1 + j)) := fun i _ => rfl
        constructor
        · intro h
          refine ⟨?_, fun i i0 i1 => ?_⟩
          · have := h 0 (by omega) (by omega)
            rw [d1 0 (by omega), d0, dgt_lo x0 x1] at this
            exact this
          · have := h (i + 1) (by omega) (by omega)
            rw [d1 (i + 1) (by omega), dgt_up hp x0 x1 i0] at this
            exact this
        · rintro ⟨h0, h1⟩ i i0 i1
          by_cases q : i = 0
          · rw [q, d1 0 (by omega), d0, dgt_lo x0 x1]
            exact h0
          · have := h1 (i - 1) (by omega) (by omega)
            (try dsimp only at this)
            rw [show i - 1 + 1 = i by omega] at this
            rw [d1 i i0, show dgt p (p * a + x) i = dgt p (p * a + x) ((i - 1) + 1) by rw [show i - 1 + 1 = i by omega], dgt_up hp x0 x1 (by omega)]
            exact this
      rw [pt]
      rcases hg a with w | w
      · rw [w.1, Int.mul_one]
        by_cases q : fr 0 = 1
        · rw [if_pos q, sm_congr (g := fun _ => 1) (fun x x0 x1 => by
            have b := bd x x0 (by omega)
            rcases hf (p * a + x) b.1 b.2 with z | z
            · exact z.1
            · exact absurd ((dt x x0 (by omega)).mpr ⟨Or.inl q, w.2⟩) z.2), sm_const]
          omega
        · rw [if_neg q]
          have eb := he 0 (dgt p a) (by omega) (by omega)
          rw [sm_congr (g := fun x => if x = e 0 (dgt p a) then 1 else 0) (fun x x0 x1 => by
            have b := bd x x0 (by omega)
            (try dsimp only)
            rcases hf (p * a + x) b.1 b.2 with z | z
            · have := ((dt x x0 (by omega)).mp z.2).1
              rw [if_pos (by omega)]
              exact z.1
            · rw [if_neg (fun y => z.2 ((dt x x0 (by omega)).mpr ⟨Or.inr y, w.2⟩))]
              exact z.1), sm_one (a := 1) eb.1 (by omega)]
      · rw [w.1, Int.mul_zero, sm_zeros (fun x x0 x1 => by
          have b := bd x x0 (by omega)
          rcases hf (p * a + x) b.1 b.2 with z | z
          · exact absurd ((dt x x0 (by omega)).mp z.2).2 w.2
          · exact z.1)]
    have sf : sm (n + 1) fr = fr 0 + sm n (fun i => fr (i + 1)) := sm_first n fr
    rw [e1, sm_blk, sm_congr (fun a a0 a1 => inner a a0 a1), sm_mul, ih.1, sf]
    refine ⟨?_, by omega⟩
    rcases f01 with w | w
    · rw [w, if_neg (by omega), Int.one_mul, Int.zero_add]
    · rw [w, if_pos rfl, show (1 + sm n (fun i => fr (i + 1))).toNat = (sm n (fun i => fr (i + 1))).toNat + 1 by omega, pwI_mu]
theorem lg_pw {p : Int} (hp : 2 ≤ p) : ∀ (k m : Nat), k ≤ m → lgF p m (pwI p k) = k
  | 0, 0, _ => rfl
  | 0, m + 1, _ => if_pos (Int.le_refl 1)
  | k + 1, 0, h => by omega
  | k + 1, m + 1, h => by
    have a := pwI_nn hp k
    have b := pwI_le hp k 0
    rw [show lgF p (m + 1) (pwI p (k + 1)) = if pwI p (k + 1) ≤ 1 then 0 else 1 + lgF p m (pwI p (k + 1) / p) from rfl, if_neg (by have := b.2; rw [show k + 0 + 1 = k + 1 by omega] at this; omega), pwI_mu, Int.mul_ediv_cancel_left _ (by omega), lg_pw hp k m (by omega)]
    omega
theorem dvd_lin {p a b : Int} (hp : 2 ≤ p) (a0 : 0 ≤ a) (a1 : a < p) : p ∣ a - b ↔ a = b % p := by
  constructor
  · intro h
    have := em_sub.mpr (Int.emod_eq_zero_of_dvd h)
    rw [em_id a0 a1] at this
    exact this
  · intro h
    rw [h]
    exact emod_sub_dvd p b
theorem dot_add {n r : Int} {E x z : Int → Int} : dot n E r (fun i => x i + z i) = dot n E r x + dot n E r z := by
  unfold dot
  rw [← sm_add]
  exact sm_congr fun i _ _ => Int.mul_add _ _ _
theorem dot_sca {n r c : Int} {E x : Int → Int} : dot n E r (fun i => c * x i) = c * dot n E r x := by
  unfold dot
  rw [← sm_mul]
  exact sm_congr fun i _ _ => by rw [← Int.mul_assoc, Int.mul_comm (E _) c, Int.mul_assoc]
theorem dot_sm {n r : Int} {E : Int → Int} {x : Int → Int → Int} : ∀ m : Nat, dot n E r (fun i => sm m (fun j => x j i)) = sm m (fun j => dot n E r (x j))
  | 0 => by
    unfold dot
    rw [sm_zero]
    exact sm_zeros fun i _ _ => Int.mul_zero _
  | m + 1 => by
    rw [sm_succ, ← dot_sm m, ← dot_add]
    rfl
/-- what solves, by its free numbers -/
theorem ker_free {p n c kk : Int} {M fr so x : Int → Int} (hn : 0 ≤ n) (sv : solved p n c M fr so kk) : ker p n c M x ↔ ∀ i, 0 ≤ i → i < n → fr i = 0 → p ∣ x i - sm n.toNat (fun j => if fr j = 1 then x j * so (4 * j + i) else 0) := by
  constructor
  · exact fun k => sv.2.2.2.2.2.2.1 x k
  · intro h r r0 r1
    have all : ∀ i : Int, 0 ≤ i → i < n → p ∣ x i - sm n.toNat (fun j => if fr j = 1 then x j * so (4 * j + i) else 0) := fun i i0 i1 => by
      rcases sv.1 i i0 i1 with w | w
      · exact h i i0 i1 w
      · rw [sm_congr (g := fun j => if j = i then x i else 0) (fun j j0 j1 => by
          (try dsimp only)
          by_cases q : j = i
          · rw [if_pos q, q, if_pos w, sv.2.2.2.1 i i0 i1, Int.mul_one]
          · rw [if_neg q]
            split
            · rw [sv.2.2.2.2.1 j i j0 (by omega) i0 i1 (fun z => q z.symm) w, Int.mul_zero]
            · rfl), sm_one i0 (by omega), Int.sub_self]
        exact ⟨0, by omega⟩
    have d := dvd_tr (p := p) (a := dot n M r x) (b := dot n M r (fun i => sm n.toNat (fun j => if fr j = 1 then x j * so (4 * j + i) else 0))) (c := 0) (by
      unfold dot
      refine sm_dvd fun i i0 i1 => ?_
      rw [← Int.mul_sub]
      exact dvdR (all i i0 (by omega)) _) (by
      rw [Int.sub_zero, dot_sm (x := fun j i => if fr j = 1 then x j * so (4 * j + i) else 0)]
      refine sm_dvs fun j j0 j1 => ?_
      by_cases q : fr j = 1
      · rw [show (fun i => if fr j = 1 then x j * so (4 * j + i) else 0) = fun i => x j * so (4 * j + i) from funext fun i => if_pos q, dot_sca]
        exact dvdR (sv.2.2.1 j j0 (by omega) q r r0 r1) _
      · rw [show (fun i => if fr j = 1 then x j * so (4 * j + i) else 0) = fun _ => 0 * 0 from funext fun i => if_neg q]
        unfold dot
        rw [sm_zeros (fun i _ _ => by rw [Int.mul_zero, Int.mul_zero])]
        exact ⟨0, by omega⟩)
    rw [Int.sub_zero] at d
    exact d
/-- HOW MANY CLASSES SOLVE -/
theorem cnt_solved {p n c kk : Int} {M fr so f : Int → Int} (hp : isPr p) (hn : 2 ≤ n ∧ n ≤ 4) (sv : solved p n c M fr so kk) (hf : ∀ a, 0 ≤ a → a < pwI p n.toNat → (f a = 1 ∧ ker p n c M (dgt p a)) ∨ (f a = 0 ∧ ¬ ker p n c M (dgt p a))) : ctL p n f = kk ∧ 0 ≤ kk ∧ kk ≤ 4 := by
  have p2 := hp.two.1
  have nn : ((n.toNat : Nat) : Int) = n := by omega
  have eq : ∀ a : Int, ker p n c M (dgt p a) ↔ DTM p fr (fun i y => sm n.toNat (fun j => if fr j = 1 ∧ i < j then y (j - i - 1) * so (4 * j + i) else 0) % p) n.toNat (dgt p a) := fun a => by
    rw [ker_free (by omega) sv]
    have es : ∀ i : Int, 0 ≤ i → i < n → fr i = 0 → sm n.toNat (fun j => if fr j = 1 then dgt p a j * so (4 * j + i) else 0) = sm n.toNat (fun j => if fr j = 1 ∧ i < j then dgt p a (i + 1 + (j - i - 1)) * so (4 * j + i) else 0) := fun i i0 i1 fi => sm_congr fun j j0 j1 => by
      (try dsimp only)
      by_cases q : fr j = 1
      · rw [if_pos q]
        by_cases q2 : i < j
        · rw [if_pos ⟨q, q2⟩, show i + 1 + (j - i - 1) = j by omega]
        · rw [if_neg (fun z => q2 z.2)]
          have ne : j ≠ i := fun z => by rw [z] at q; omega
          rw [sv.2.2.2.2.2.1 j i j0 (by omega) i1, Int.mul_zero]
      · rw [if_neg q, if_neg (fun z => q z.1)]
    constructor
    · intro h i i0 i1
      rcases sv.1 i i0 (by omega) with w | w
      · have := h i i0 (by omega) w
        rw [es i i0 (by omega) w, dvd_lin p2 (dgt_bd p2).1 (dgt_bd p2).2] at this
        exact Or.inr this
      · exact Or.inl w
    · intro h i i0 i1 fi
      rcases h i i0 (by omega) with w | w
      · omega
      · rw [es i i0 i1 fi, dvd_lin p2 (dgt_bd p2).1 (dgt_bd p2).2]
        exact w
  have cn := cnt_k p2 n.toNat fr (fun i y => sm n.toNat (fun j => if fr j = 1 ∧ i < j then y (j - i - 1) * so (4 * j + i) else 0) % p) f (fun i i0 i1 => sv.1 i i0 (by omega)) (fun i x _ _ => ⟨em_ge (by omega), em_lt (by omega)⟩) (fun i x x' i0 hx => by
    (try dsimp only)
    rw [sm_congr (g := fun j => if fr j = 1 ∧ i < j then x' (j - i - 1) * so (4 * j + i) else 0) (fun j j0 j1 => by
      (try dsimp only)
      by_cases q : fr j = 1 ∧ i < j
      · rw [if_pos q, if_pos q, hx _ (by omega)]
      · rw [if_neg q, if_neg q])]) (fun a a0 a1 => by
    rcases hf a a0 a1 with w | w
    · exact Or.inl ⟨w.1, (eq a).mp w.2⟩
    · exact Or.inr ⟨w.1, fun z => w.2 ((eq a).mpr z)⟩)
  have kq := sv.2.2.2.2.2.2.2
  have le : sm n.toNat fr ≤ (n.toNat : Int) * 1 := sm_le (fun i i0 i1 => by have := sv.1 i i0 (by omega); omega)
  unfold ctL
  rw [cn.1, lg_pw p2 _ 12 (by omega)]
  omega
/-- the number of a class, by its digits -/
theorem cd_self {p : Int} (hp : 2 ≤ p) : ∀ (n : Nat) (a : Int), 0 ≤ a → a < pwI p n → cdF p (dgt p a) n 0 = a := by
  have sh : ∀ (c c' : Int → Int) (n : Nat) (lo : Int), (∀ i, lo ≤ i → c (i + 1) = c' i) → cdF p c n (lo + 1) = cdF p c' n lo := fun c c' n => by
    induction n with
    | zero => exact fun lo _ => rfl
    | succ n ih =>
      intro lo h
      show c (lo + 1) + p * cdF p c n (lo + 1 + 1) = c' lo + p * cdF p c' n (lo + 1)
      rw [h lo (Int.le_refl _), ih (lo + 1) (fun i hi => h i (by omega))]
  intro n
  induction n with
  | zero =>
    intro a a0 a1
    have : a < 1 := a1
    show (0 : Int) = a
    omega
  | succ n ih =>
    intro a a0 a1
    have d : a = p * (a / p) + a % p := (Int.mul_ediv_add_emod a p).symm
    have q0 : 0 ≤ a / p := Int.ediv_nonneg a0 (by omega)
    have q1 : a / p < pwI p n := by
      rw [pwI_mu] at a1
      exact Int.ediv_lt_of_lt_mul (by omega) (by rw [Int.mul_comm]; exact a1)
    show dgt p a 0 + p * cdF p (dgt p a) n (0 + 1) = a
    rw [sh (dgt p a) (dgt p (a / p)) n 0 (fun i i0 => by
      have := dgt_up (p := p) (x := a % p) (a := a / p) hp (em_ge (by omega)) (em_lt (by omega)) i0
      rw [← d] at this
      exact this), ih (a / p) q0 q1, dgt_0]
    omega
theorem cd_eq {p n a b : Int} (hp : 2 ≤ p) (a0 : 0 ≤ a) (a1 : a < pwI p n.toNat) (b0 : 0 ≤ b) (b1 : b < pwI p n.toNat) (h : ∀ l, 0 ≤ l → l < n → dgt p a l = dgt p b l) : a = b := by
  rw [← cd_self hp n.toNat a a0 a1, ← cd_self hp n.toNat b b0 b1]
  exact cdF_congr _ _ (fun i i0 i1 => h i i0 (by omega))
