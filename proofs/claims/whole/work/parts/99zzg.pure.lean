/-! The pure reader, and the state of the class's reader. -/
def hpN (A B : Int → Int) : Nat → Int
  | 0 => 0
  | k + 1 => if ¬ A ((k : Int) / 49) = 0 ∧ ¬ B ((k : Int) % 49) = 0 ∧ 6 < dgS ((k : Int) / 49) + dgS ((k : Int) % 49) then 1 else hpN A B k
theorem hpN_iff {A B : Int → Int} : ∀ (k : Nat), hpN A B k = 0 ↔ ∀ j : Nat, j < k → ¬ (¬ A ((j : Int) / 49) = 0 ∧ ¬ B ((j : Int) % 49) = 0 ∧ 6 < dgS ((j : Int) / 49) + dgS ((j : Int) % 49))
  | 0 => ⟨fun _ j hj => absurd hj (Nat.not_lt_zero j), fun _ => rfl⟩
  | k + 1 => by
    have ih := hpN_iff (A := A) (B := B) k
    show (if ¬ A ((k : Int) / 49) = 0 ∧ ¬ B ((k : Int) % 49) = 0 ∧ 6 < dgS ((k : Int) / 49) + dgS ((k : Int) % 49) then 1 else hpN A B k) = 0 ↔ _
    constructor
    · intro e j hj
      by_cases q : ¬ A ((k : Int) / 49) = 0 ∧ ¬ B ((k : Int) % 49) = 0 ∧ 6 < dgS ((k : Int) / 49) + dgS ((k : Int) % 49)
      · rw [if_pos q] at e
        omega
      · rw [if_neg q] at e
        by_cases q' : j = k
        · rw [q']
          exact q
        · exact ih.mp e j (by omega)
    · intro al
      rw [if_neg (al k (by omega))]
      exact ih.mpr (fun j hj => al j (by omega))
theorem hpN_n {A B : Int → Int} : hpN A B 2401 = 0 ↔ nHi A B := by
  rw [hpN_iff]
  constructor
  · intro al e g e0 e1 g0 g1 hA hB
    have := al (49 * e + g).toNat (by omega)
    rw [show (((49 * e + g).toNat : Nat) : Int) / 49 = e by omega, show (((49 * e + g).toNat : Nat) : Int) % 49 = g by omega] at this
    exact Decidable.byContradiction (fun q => this ⟨hA, hB, by omega⟩)
  · intro nh j hj z
    have := nh ((j : Int) / 49) ((j : Int) % 49) (by omega) (by omega) (by omega) (by omega) z.1 z.2.1
    omega
theorem nHi_congr {A A' B B' : Int → Int} (hA : ∀ x, 0 ≤ x → x < 49 → A x = A' x) (hB : ∀ x, 0 ≤ x → x < 49 → B x = B' x) (h : nHi A B) : nHi A' B' := fun e g e0 e1 g0 g1 a b => h e g e0 e1 g0 g1 (by rw [hA e e0 e1]; exact a) (by rw [hB g g0 g1]; exact b)
theorem acc_congr {p : Int} {A A' B B' : Int → Int} (hA : ∀ x, 0 ≤ x → x < 49 → A x = A' x) (hB : ∀ x, 0 ≤ x → x < 49 → B x = B' x) (x : Int) : ∀ (k : Nat), k ≤ 2401 → acc p A B k x = acc p A' B' k x
  | 0, _ => rfl
  | k + 1, hk => by
    show (if A ((k : Int) / 49) = 0 ∨ B ((k : Int) % 49) = 0 ∨ ¬ x = (k : Int) / 49 + (k : Int) % 49 then acc p A B k x else (acc p A B k x + A ((k : Int) / 49) * B ((k : Int) % 49)) % p) = (if A' ((k : Int) / 49) = 0 ∨ B' ((k : Int) % 49) = 0 ∨ ¬ x = (k : Int) / 49 + (k : Int) % 49 then acc p A' B' k x else (acc p A' B' k x + A' ((k : Int) / 49) * B' ((k : Int) % 49)) % p)
    rw [hA _ (by omega) (by omega), hB _ (by omega) (by omega), acc_congr hA hB x k (by omega)]
/-- a product: what is too high keeps the sign's place -/
def mlH (h : Int) (A B : Int → Int) (g : Int) : Int := if 0 ≤ h ∨ hpN A B 2401 = 0 then h else g
def mlP (p h : Int) (A B : Int → Int) : Int → Int := if 0 ≤ h ∨ ¬ hpN A B 2401 = 0 then A else acc p A B 2401
def un1 (x : Int) : Int := if x = 0 then 1 else 0
/-- a power -/
def rsR (p h : Int) (B : Int → Int) (g : Int) : Nat → Int × (Int → Int)
  | 0 => (h, un1)
  | k + 1 => (mlH (rsR p h B g k).1 (rsR p h B g k).2 B g, mlP p (rsR p h B g k).1 (rsR p h B g k).2 B)
/-- what a part of the text comes to: whether it stands, the cursor behind it, the place of what is too high, the polynomial -/
def rdAt (T : Int → Int) (n p : Int) (br : Int → Int → Int × Int × Int × (Int → Int)) (i h : Int) : Int × Int × Int × (Int → Int) := if tkK T n i = 40 then br i h else if tkK T n i = 120 then (1, tkX T n i, h, fun x => if x = 1 then 1 else 0) else if tkK T n i = 121 then (1, tkX T n i, h, fun x => if x = 7 then 1 else 0) else if tkK T n i = 1 then (1, tkX T n i, h, fun x => if x = 0 then tkV T n i % p else 0) else (0, i, h, fun _ => 0)
def rdPw (T : Int → Int) (n p : Int) (br : Int → Int → Int × Int × Int × (Int → Int)) (i h : Int) : Int × Int × Int × (Int → Int) := if (rdAt T n p br i h).1 = 0 ∨ ¬ tkK T n (rdAt T n p br i h).2.1 = 94 then rdAt T n p br i h else if ¬ tkK T n (tkX T n (rdAt T n p br i h).2.1) = 1 ∨ ¬ tkV T n (tkX T n (rdAt T n p br i h).2.1) ≤ 6 then (0, tkX T n (rdAt T n p br i h).2.1, (rdAt T n p br i h).2.2.1, fun _ => 0) else (1, tkX T n (tkX T n (rdAt T n p br i h).2.1), (rsR p (rdAt T n p br i h).2.2.1 (rdAt T n p br i h).2.2.2 (tkW T n (rdAt T n p br i h).2.1) (tkV T n (tkX T n (rdAt T n p br i h).2.1)).toNat).1, (rsR p (rdAt T n p br i h).2.2.1 (rdAt T n p br i h).2.2.2 (tkW T n (rdAt T n p br i h).2.1) (tkV T n (tkX T n (rdAt T n p br i h).2.1)).toNat).2)
def rdTl (T : Int → Int) (n p : Int) (br : Int → Int → Int × Int × Int × (Int → Int)) : Nat → Int → Int → (Int → Int) → Int × Int × Int × (Int → Int)
  | 0, i, h, P => (1, i, h, P)
  | f + 1, i, h, P => if ¬ tkK T n i = 42 then (1, i, h, P) else if (rdPw T n p br (tkX T n i) h).1 = 0 then rdPw T n p br (tkX T n i) h else rdTl T n p br f (rdPw T n p br (tkX T n i) h).2.1 (mlH (rdPw T n p br (tkX T n i) h).2.2.1 P (rdPw T n p br (tkX T n i) h).2.2.2 (tkW T n i)) (mlP p (rdPw T n p br (tkX T n i) h).2.2.1 P (rdPw T n p br (tkX T n i) h).2.2.2)
def rdTm (T : Int → Int) (n p : Int) (br : Int → Int → Int × Int × Int × (Int → Int)) (i h : Int) : Int × Int × Int × (Int → Int) := if (rdPw T n p br i h).1 = 0 then rdPw T n p br i h else rdTl T n p br 100 (rdPw T n p br i h).2.1 (rdPw T n p br i h).2.2.1 (rdPw T n p br i h).2.2.2
def rdSl (T : Int → Int) (n p : Int) (br : Int → Int → Int × Int × Int × (Int → Int)) : Nat → Int → Int → Int → (Int → Int) → Int × Int × Int × (Int → Int)
  | 0, _, i, h, P => (1, i, h, P)
  | f + 1, s, i, h, P => if (rdTm T n p br i h).1 = 0 then rdTm T n p br i h else if tkK T n (rdTm T n p br i h).2.1 = 43 then rdSl T n p br f 1 (tkX T n (rdTm T n p br i h).2.1) (rdTm T n p br i h).2.2.1 (fun x => (P x + s * (rdTm T n p br i h).2.2.2 x) % p) else if tkK T n (rdTm T n p br i h).2.1 = 45 then rdSl T n p br f (p - 1) (tkX T n (rdTm T n p br i h).2.1) (rdTm T n p br i h).2.2.1 (fun x => (P x + s * (rdTm T n p br i h).2.2.2 x) % p) else (1, (rdTm T n p br i h).2.1, (rdTm T n p br i h).2.2.1, fun x => (P x + s * (rdTm T n p br i h).2.2.2 x) % p)
def rdSm (T : Int → Int) (n p : Int) (br : Int → Int → Int × Int × Int × (Int → Int)) (i h : Int) : Int × Int × Int × (Int → Int) := if tkK T n i = 45 then rdSl T n p br 100 (p - 1) (tkX T n i) h (fun _ => 0) else rdSl T n p br 100 1 i h (fun _ => 0)
def brk (T : Int → Int) (n p : Int) : Nat → Int → Int → Int × Int × Int × (Int → Int)
  | 0 => fun i h => (0, i, h, fun _ => 0)
  | k + 1 => fun i h => if (rdSm T n p (brk T n p k) (tkX T n i) h).1 = 0 ∨ ¬ tkK T n (rdSm T n p (brk T n p k) (tkX T n i) h).2.1 = 41 then (0, (rdSm T n p (brk T n p k) (tkX T n i) h).2.1, (rdSm T n p (brk T n p k) (tkX T n i) h).2.2.1, fun _ => 0) else (1, tkX T n (rdSm T n p (brk T n p k) (tkX T n i) h).2.1, (rdSm T n p (brk T n p k) (tkX T n i) h).2.2.1, (rdSm T n p (brk T n p k) (tkX T n i) h).2.2.2)
/-- the class's reader at the cursor i -/
def RS (S : Hp) (R : Int) (T : Int → Int) (n p i h : Int) : Prop := RDW S R ∧ zG S R 1 = n ∧ (0 ≤ n ∧ n ≤ 100) ∧ (0 ≤ i ∧ i ≤ n) ∧ (∀ x, 0 ≤ x → x < n → zG S (R + 1) x = T x) ∧ zG S R 5 = p ∧ zG S R 6 = tkX T n i ∧ zG S R 7 = tkK T n i ∧ zG S R 8 = tkW T n i ∧ (tkK T n i = 1 → zG S R 9 = tkV T n i) ∧ zG S R 10 = h
theorem RS.keep {M : Int → Prop} {S S' : Hp} {R n p i h : Int} {T : Int → Int} (r : RS S R T n p i h) (m : Md M S S') (h0 : ¬ M R) (h1 : ¬ M (R + 1)) (h2 : ¬ M (R + 2)) : RS S' R T n p i h := by
  obtain ⟨a1, a2, a3, a4, a5, a6, a7, a8, a9, a10, a11⟩ := r
  exact ⟨a1.keep m (fun i _ => m.G h0 i) h2, (m.G h0 1).trans a2, a3, a4, fun x x0 x1 => (m.G h1 x).trans (a5 x x0 x1), (m.G h0 5).trans a6, (m.G h0 6).trans a7, (m.G h0 7).trans a8, (m.G h0 8).trans a9, fun e => (m.G h0 9).trans (a10 e), (m.G h0 10).trans a11⟩
theorem RS.step {d : Nat} {S : Hp} {R n p i h : Int} {T : Int → Int} {Q : Vl → Hp → Prop} (r : RS S R T n p i h) (H : ∀ S', Md (fun x => x = R) S S' → RS S' R T n p (tkX T n i) h → Q (3, 0) S') : Ev (d + 1) 85 [(2, R)] S Q := by
  obtain ⟨a1, a2, a3, a4, a5, a6, a7, a8, a9, a10, a11⟩ := r
  have b := tk_bd (T := T) a4
  refine s_step a3 a1 a2 a7 (by omega) a5 (fun S' r e6 e8 e7 e9 => H S' r.1 ⟨r.2.1, (r.2.2 1 (by omega) (by omega) (by omega) (by omega)).trans a2, a3, by omega, fun x x0 x1 => (r.1.G (by omega) x).trans (a5 x x0 x1), (r.2.2 5 (by omega) (by omega) (by omega) (by omega)).trans a6, e6, e7, e8, e9, (r.2.2 10 (by omega) (by omega) (by omega) (by omega)).trans a11⟩)
/-- a row of the reader; it counts while nothing was too high -/
def RO (S : Hp) (a p h : Int) (P : Int → Int) : Prop := ∀ x, 0 ≤ x → x < 49 → (0 ≤ zG S a x ∧ zG S a x < p) ∧ (h < 0 → zG S a x = P x)
theorem RO.keep {M : Int → Prop} {S S' : Hp} {a p h : Int} {P : Int → Int} (r : RO S a p h P) (m : Md M S S') (ha : ¬ M a) : RO S' a p h P := fun x x0 x1 => by
  rw [m.G ha]
  exact r x x0 x1
theorem RO.up {S : Hp} {a p h h' : Int} {P : Int → Int} (r : RO S a p h P) (e : h' < 0 → h < 0) : RO S a p h' P := fun x x0 x1 => ⟨(r x x0 x1).1, fun z => (r x x0 x1).2 (e z)⟩
theorem mlH_neg {h g : Int} {A B : Int → Int} (g0 : 0 ≤ g) (z : mlH h A B g < 0) : h < 0 ∧ hpN A B 2401 = 0 := by
  unfold mlH at z
  by_cases q : 0 ≤ h ∨ hpN A B 2401 = 0
  · rw [if_pos q] at z
    refine ⟨z, ?_⟩
    rcases q with q | q
    · omega
    · exact q
  · rw [if_neg q] at z
    omega
theorem RS.mul {d : Nat} {S : Hp} {R n p i h a b g : Int} {T A B : Int → Int} {Q : Vl → Hp → Prop} (h2 : 2 ≤ p ∧ p ≤ 7) (r : RS S R T n p i h) (ha : R + 3 ≤ a ∧ a < R + 19) (hb : R + 3 ≤ b ∧ b < R + 19) (g0 : 0 ≤ g) (rA : RO S a p h A) (rB : RO S b p h B) (H : ∀ S', Md (fun x => x = R ∨ x = a ∨ x = R + 19) S S' → RS S' R T n p i (mlH h A B g) → (∀ j, j ≠ 10 → zG S' R j = zG S R j) → RO S' a p (mlH h A B g) (mlP p h A B) → Q (3, 0) S') : Ev (d + 1) 93 [(2, R), (2, a), (2, b), (0, g)] S Q := by
  have r' := r
  obtain ⟨a1, a2, a3, a4, a5, a6, a7, a8, a9, a10, a11⟩ := r
  have ra := a1.2.2.2.2.2.2.2.2 (a - R - 3) (by omega) (by omega)
  have rb := a1.2.2.2.2.2.2.2.2 (b - R - 3) (by omega) (by omega)
  rw [show R + 3 + (a - R - 3) = a by omega] at ra
  rw [show R + 3 + (b - R - 3) = b by omega] at rb
  refine s_rdMultiply (A := zG S a) (B := zG S b) h2 a1 a6 ra.1 ra.2 rb.1 rb.2 (by omega) (by omega) (fun x x0 x1 => ⟨rfl, (rA x x0 x1).1⟩) (fun x x0 x1 => ⟨rfl, (rB x x0 x1).1⟩) (fun q => ?_) (fun q nh S' m v => ?_) (fun q nh S' m o v => ?_)
  · rw [a11] at q
    have e : mlH h A B g = h := if_pos (Or.inl q)
    rw [e] at H
    exact H S (Md.refl _ _) r' (fun _ _ => rfl) (fun x x0 x1 => ⟨(rA x x0 x1).1, fun z => by omega⟩)
  · rw [a11] at q
    have nA : ∀ x, 0 ≤ x → x < 49 → zG S a x = A x := fun x x0 x1 => (rA x x0 x1).2 q
    have nB : ∀ x, 0 ≤ x → x < 49 → zG S b x = B x := fun x x0 x1 => (rB x x0 x1).2 q
    have hz : hpN A B 2401 = 0 := hpN_n.mpr (nHi_congr nA nB nh)
    have e : mlH h A B g = h := if_pos (Or.inr hz)
    have e' : mlP p h A B = acc p A B 2401 := if_neg (fun z => by rcases z with z | z; omega; exact z hz)
    rw [e, e'] at H
    refine H S' (m.wide (fun x hx => Or.inr hx)) (r'.keep m (by omega) (by omega) (by omega)) (fun j _ => m.G (by omega) j) (fun x x0 x1 => ?_)
    rw [v x x0 x1, acc_congr nA nB x 2401 (by omega)]
    exact ⟨acc_bd h2.1 2401 x, fun _ => rfl⟩
  · rw [a11] at q
    have nA : ∀ x, 0 ≤ x → x < 49 → A x = zG S a x := fun x x0 x1 => ((rA x x0 x1).2 q).symm
    have nB : ∀ x, 0 ≤ x → x < 49 → B x = zG S b x := fun x x0 x1 => ((rB x x0 x1).2 q).symm
    have hz : ¬ hpN A B 2401 = 0 := fun z => nh (nHi_congr nA nB (hpN_n.mp z))
    have e : mlH h A B g = g := if_neg (fun z => by rcases z with z | z; omega; exact hz z)
    rw [e] at H
    refine H S' (m.wide (fun x hx => by omega)) ⟨a1.keep m (fun i hi => o i (by omega)) (by omega), (o 1 (by omega)).trans a2, a3, a4, fun x x0 x1 => (m.G (by omega) x).trans (a5 x x0 x1), (o 5 (by omega)).trans a6, (o 6 (by omega)).trans a7, (o 7 (by omega)).trans a8, (o 8 (by omega)).trans a9, fun e => (o 9 (by omega)).trans (a10 e), v⟩ o (fun x x0 x1 => ?_)
    rw [m.G (by omega)]
    exact ⟨(rA x x0 x1).1, fun z => by omega⟩
