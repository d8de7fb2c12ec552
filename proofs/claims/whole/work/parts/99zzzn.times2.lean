/-! A product by the class's table is the reference's. -/
theorem hm_su2 {p : Int} {O : Type} [I : Lean.Grind.CommRing O] {φ : (Int → Int) → O} (h : HM p φ) (f : Int → Int → Int) : φ (fun x => sm 2 (fun j => f j x)) = φ (f 0) + φ (f 1) := by
  have s := fun n => h.sm n f
  rw [show (2 : Nat) = 0 + 1 + 1 from rfl, s, s]
  rw [show (fun x => sm 0 (fun i => f i x)) = fun _ => 0 from rfl, h.2.2.2.2.2.1]
  show 0 + φ (f 0) + φ (f 1) = _
  grind
theorem hm_su3 {p : Int} {O : Type} [I : Lean.Grind.CommRing O] {φ : (Int → Int) → O} (h : HM p φ) (f : Int → Int → Int) : φ (fun x => sm 3 (fun j => f j x)) = φ (f 0) + φ (f 1) + φ (f 2) := by
  have s := fun n => h.sm n f
  rw [show (3 : Nat) = 0 + 1 + 1 + 1 from rfl, s, s, s]
  rw [show (fun x => sm 0 (fun i => f i x)) = fun _ => 0 from rfl, h.2.2.2.2.2.1]
  show 0 + φ (f 0) + φ (f 1) + φ (f 2) = _
  grind
theorem hm_su4 {p : Int} {O : Type} [I : Lean.Grind.CommRing O] {φ : (Int → Int) → O} (h : HM p φ) (f : Int → Int → Int) : φ (fun x => sm 4 (fun j => f j x)) = φ (f 0) + φ (f 1) + φ (f 2) + φ (f 3) := by
  have s := fun n => h.sm n f
  rw [show (4 : Nat) = 0 + 1 + 1 + 1 + 1 from rfl, s, s, s, s]
  rw [show (fun x => sm 0 (fun i => f i x)) = fun _ => 0 from rfl, h.2.2.2.2.2.1]
  show 0 + φ (f 0) + φ (f 1) + φ (f 2) + φ (f 3) = _
  grind
theorem pr_y {p : Int} {O : Type} [I : Lean.Grind.CommRing O] {φ : (Int → Int) → O} (h : HM p φ) {n b j k : Int} {A B : Int → Int → Int} (q : 0 ≤ b - j ∧ b - j < n) (hk : b - j = k) : φ (fun x => if 0 ≤ b - j ∧ b - j < n then cnv (A j) (B (b - j)) x else 0) = φ (A j) * φ (B k) := by
  rw [show (fun x => if 0 ≤ b - j ∧ b - j < n then cnv (A j) (B (b - j)) x else 0) = cnv (A j) (B k) from funext fun x => by rw [if_pos q, hk], h.2.1]
theorem pr_n {p : Int} {O : Type} [I : Lean.Grind.CommRing O] {φ : (Int → Int) → O} (h : HM p φ) {n b j : Int} {A B : Int → Int → Int} (q : ¬ (0 ≤ b - j ∧ b - j < n)) : φ (fun x => if 0 ≤ b - j ∧ b - j < n then cnv (A j) (B (b - j)) x else 0) = 0 := by
  rw [show (fun x => if 0 ≤ b - j ∧ b - j < n then cnv (A j) (B (b - j)) x else 0) = fun _ => 0 from funext fun x => if_neg q]
  exact h.2.2.2.2.2.1
theorem mul_o {p n : Int} {O : Type} [I : Lean.Grind.CommRing O] {φ : (Int → Int) → O} (h : HM p φ) {B : Int → Int → Int} {T : Int → Int → Int → Int} {l : Int} (l0 : 0 ≤ l) (l1 : l < n) : φ (mulF p n B T l) = φ (fun x => sm n.toNat (fun j => cnv (B j) (T j l) x)) := by
  rw [show mulF p n B T l = fun x => (fun x => sm n.toNat (fun j => cnv (B j) (T j l) x)) x % p from funext fun x => if_pos ⟨l0, l1⟩]
  exact h.2.2.1 _
theorem mulF_bd {p n : Int} {B : Int → Int → Int} {T : Int → Int → Int → Int} (hp : 2 ≤ p) (l x : Int) : 0 ≤ mulF p n B T l x ∧ mulF p n B T l x < p := by
  unfold mulF
  split
  · exact ⟨em_ge (by omega), em_lt (by omega)⟩
  · omega
theorem pr_o2_0 {p : Int} {O : Type} [I : Lean.Grind.CommRing O] {φ : (Int → Int) → O} (h : HM p φ) {A B : Int → Int → Int} : φ (prT p 2 A B 0) = φ (A 0) * φ (B 0) := by
  rw [show prT p 2 A B 0 = fun x => (fun x => sm 2 (fun j => if 0 ≤ 0 - j ∧ 0 - j < 2 then cnv (A j) (B (0 - j)) x else 0)) x % p from rfl, h.2.2.1, hm_su2 h (fun j x => if 0 ≤ 0 - j ∧ 0 - j < 2 then cnv (A j) (B (0 - j)) x else 0)]
  rw [pr_y h (b := 0) (j := 0) (k := 0) (by decide) rfl, pr_n h (b := 0) (j := 1) (by decide)]
  grind
theorem pr_o2_1 {p : Int} {O : Type} [I : Lean.Grind.CommRing O] {φ : (Int → Int) → O} (h : HM p φ) {A B : Int → Int → Int} : φ (prT p 2 A B 1) = φ (A 0) * φ (B 1) + φ (A 1) * φ (B 0) := by
  rw [show prT p 2 A B 1 = fun x => (fun x => sm 2 (fun j => if 0 ≤ 1 - j ∧ 1 - j < 2 then cnv (A j) (B (1 - j)) x else 0)) x % p from rfl, h.2.2.1, hm_su2 h (fun j x => if 0 ≤ 1 - j ∧ 1 - j < 2 then cnv (A j) (B (1 - j)) x else 0)]
  rw [pr_y h (b := 1) (j := 0) (k := 1) (by decide) rfl, pr_y h (b := 1) (j := 1) (k := 0) (by decide) rfl]
theorem pr_o2_2 {p : Int} {O : Type} [I : Lean.Grind.CommRing O] {φ : (Int → Int) → O} (h : HM p φ) {A B : Int → Int → Int} : φ (prT p 2 A B 2) = φ (A 1) * φ (B 1) := by
  rw [show prT p 2 A B 2 = fun x => (fun x => sm 2 (fun j => if 0 ≤ 2 - j ∧ 2 - j < 2 then cnv (A j) (B (2 - j)) x else 0)) x % p from rfl, h.2.2.1, hm_su2 h (fun j x => if 0 ≤ 2 - j ∧ 2 - j < 2 then cnv (A j) (B (2 - j)) x else 0)]
  rw [pr_n h (b := 2) (j := 0) (by decide), pr_y h (b := 2) (j := 1) (k := 1) (by decide) rfl]
  grind
theorem pr_o2_3 {p : Int} {O : Type} [I : Lean.Grind.CommRing O] {φ : (Int → Int) → O} (h : HM p φ) {A B : Int → Int → Int} : φ (prT p 2 A B 3) = 0 := by
  rw [show prT p 2 A B 3 = fun x => (fun x => sm 2 (fun j => if 0 ≤ 3 - j ∧ 3 - j < 2 then cnv (A j) (B (3 - j)) x else 0)) x % p from rfl, h.2.2.1, hm_su2 h (fun j x => if 0 ≤ 3 - j ∧ 3 - j < 2 then cnv (A j) (B (3 - j)) x else 0)]
  rw [pr_n h (b := 3) (j := 0) (by decide), pr_n h (b := 3) (j := 1) (by decide)]
  grind
theorem pr_o2_4 {p : Int} {O : Type} [I : Lean.Grind.CommRing O] {φ : (Int → Int) → O} (h : HM p φ) {A B : Int → Int → Int} : φ (prT p 2 A B 4) = 0 := by
  rw [show prT p 2 A B 4 = fun x => (fun x => sm 2 (fun j => if 0 ≤ 4 - j ∧ 4 - j < 2 then cnv (A j) (B (4 - j)) x else 0)) x % p from rfl, h.2.2.1, hm_su2 h (fun j x => if 0 ≤ 4 - j ∧ 4 - j < 2 then cnv (A j) (B (4 - j)) x else 0)]
  rw [pr_n h (b := 4) (j := 0) (by decide), pr_n h (b := 4) (j := 1) (by decide)]
  grind
theorem pr_o2_5 {p : Int} {O : Type} [I : Lean.Grind.CommRing O] {φ : (Int → Int) → O} (h : HM p φ) {A B : Int → Int → Int} : φ (prT p 2 A B 5) = 0 := by
  rw [show prT p 2 A B 5 = fun x => (fun x => sm 2 (fun j => if 0 ≤ 5 - j ∧ 5 - j < 2 then cnv (A j) (B (5 - j)) x else 0)) x % p from rfl, h.2.2.1, hm_su2 h (fun j x => if 0 ≤ 5 - j ∧ 5 - j < 2 then cnv (A j) (B (5 - j)) x else 0)]
  rw [pr_n h (b := 5) (j := 0) (by decide), pr_n h (b := 5) (j := 1) (by decide)]
  grind
theorem pr_o2_6 {p : Int} {O : Type} [I : Lean.Grind.CommRing O] {φ : (Int → Int) → O} (h : HM p φ) {A B : Int → Int → Int} : φ (prT p 2 A B 6) = 0 := by
  rw [show prT p 2 A B 6 = fun x => (fun x => sm 2 (fun j => if 0 ≤ 6 - j ∧ 6 - j < 2 then cnv (A j) (B (6 - j)) x else 0)) x % p from rfl, h.2.2.1, hm_su2 h (fun j x => if 0 ≤ 6 - j ∧ 6 - j < 2 then cnv (A j) (B (6 - j)) x else 0)]
  rw [pr_n h (b := 6) (j := 0) (by decide), pr_n h (b := 6) (j := 1) (by decide)]
  grind
theorem pr_o3_0 {p : Int} {O : Type} [I : Lean.Grind.CommRing O] {φ : (Int → Int) → O} (h : HM p φ) {A B : Int → Int → Int} : φ (prT p 3 A B 0) = φ (A 0) * φ (B 0) := by
  rw [show prT p 3 A B 0 = fun x => (fun x => sm 3 (fun j => if 0 ≤ 0 - j ∧ 0 - j < 3 then cnv (A j) (B (0 - j)) x else 0)) x % p from rfl, h.2.2.1, hm_su3 h (fun j x => if 0 ≤ 0 - j ∧ 0 - j < 3 then cnv (A j) (B (0 - j)) x else 0)]
  rw [pr_y h (b := 0) (j := 0) (k := 0) (by decide) rfl, pr_n h (b := 0) (j := 1) (by decide), pr_n h (b := 0) (j := 2) (by decide)]
  grind
theorem pr_o3_1 {p : Int} {O : Type} [I : Lean.Grind.CommRing O] {φ : (Int → Int) → O} (h : HM p φ) {A B : Int → Int → Int} : φ (prT p 3 A B 1) = φ (A 0) * φ (B 1) + φ (A 1) * φ (B 0) := by
  rw [show prT p 3 A B 1 = fun x => (fun x => sm 3 (fun j => if 0 ≤ 1 - j ∧ 1 - j < 3 then cnv (A j) (B (1 - j)) x else 0)) x % p from rfl, h.2.2.1, hm_su3 h (fun j x => if 0 ≤ 1 - j ∧ 1 - j < 3 then cnv (A j) (B (1 - j)) x else 0)]
  rw [pr_y h (b := 1) (j := 0) (k := 1) (by decide) rfl, pr_y h (b := 1) (j := 1) (k := 0) (by decide) rfl, pr_n h (b := 1) (j := 2) (by decide)]
  grind
theorem pr_o3_2 {p : Int} {O : Type} [I : Lean.Grind.CommRing O] {φ : (Int → Int) → O} (h : HM p φ) {A B : Int → Int → Int} : φ (prT p 3 A B 2) = φ (A 0) * φ (B 2) + φ (A 1) * φ (B 1) + φ (A 2) * φ (B 0) := by
  rw [show prT p 3 A B 2 = fun x => (fun x => sm 3 (fun j => if 0 ≤ 2 - j ∧ 2 - j < 3 then cnv (A j) (B (2 - j)) x else 0)) x % p from rfl, h.2.2.1, hm_su3 h (fun j x => if 0 ≤ 2 - j ∧ 2 - j < 3 then cnv (A j) (B (2 - j)) x else 0)]
  rw [pr_y h (b := 2) (j := 0) (k := 2) (by decide) rfl, pr_y h (b := 2) (j := 1) (k := 1) (by decide) rfl, pr_y h (b := 2) (j := 2) (k := 0) (by decide) rfl]
theorem pr_o3_3 {p : Int} {O : Type} [I : Lean.Grind.CommRing O] {φ : (Int → Int) → O} (h : HM p φ) {A B : Int → Int → Int} : φ (prT p 3 A B 3) = φ (A 1) * φ (B 2) + φ (A 2) * φ (B 1) := by
  rw [show prT p 3 A B 3 = fun x => (fun x => sm 3 (fun j => if 0 ≤ 3 - j ∧ 3 - j < 3 then cnv (A j) (B (3 - j)) x else 0)) x % p from rfl, h.2.2.1, hm_su3 h (fun j x => if 0 ≤ 3 - j ∧ 3 - j < 3 then cnv (A j) (B (3 - j)) x else 0)]
  rw [pr_n h (b := 3) (j := 0) (by decide), pr_y h (b := 3) (j := 1) (k := 2) (by decide) rfl, pr_y h (b := 3) (j := 2) (k := 1) (by decide) rfl]
  grind
theorem pr_o3_4 {p : Int} {O : Type} [I : Lean.Grind.CommRing O] {φ : (Int → Int) → O} (h : HM p φ) {A B : Int → Int → Int} : φ (prT p 3 A B 4) = φ (A 2) * φ (B 2) := by
  rw [show prT p 3 A B 4 = fun x => (fun x => sm 3 (fun j => if 0 ≤ 4 - j ∧ 4 - j < 3 then cnv (A j) (B (4 - j)) x else 0)) x % p from rfl, h.2.2.1, hm_su3 h (fun j x => if 0 ≤ 4 - j ∧ 4 - j < 3 then cnv (A j) (B (4 - j)) x else 0)]
  rw [pr_n h (b := 4) (j := 0) (by decide), pr_n h (b := 4) (j := 1) (by decide), pr_y h (b := 4) (j := 2) (k := 2) (by decide) rfl]
  grind
theorem pr_o3_5 {p : Int} {O : Type} [I : Lean.Grind.CommRing O] {φ : (Int → Int) → O} (h : HM p φ) {A B : Int → Int → Int} : φ (prT p 3 A B 5) = 0 := by
  rw [show prT p 3 A B 5 = fun x => (fun x => sm 3 (fun j => if 0 ≤ 5 - j ∧ 5 - j < 3 then cnv (A j) (B (5 - j)) x else 0)) x % p from rfl, h.2.2.1, hm_su3 h (fun j x => if 0 ≤ 5 - j ∧ 5 - j < 3 then cnv (A j) (B (5 - j)) x else 0)]
  rw [pr_n h (b := 5) (j := 0) (by decide), pr_n h (b := 5) (j := 1) (by decide), pr_n h (b := 5) (j := 2) (by decide)]
  grind
theorem pr_o3_6 {p : Int} {O : Type} [I : Lean.Grind.CommRing O] {φ : (Int → Int) → O} (h : HM p φ) {A B : Int → Int → Int} : φ (prT p 3 A B 6) = 0 := by
  rw [show prT p 3 A B 6 = fun x => (fun x => sm 3 (fun j => if 0 ≤ 6 - j ∧ 6 - j < 3 then cnv (A j) (B (6 - j)) x else 0)) x % p from rfl, h.2.2.1, hm_su3 h (fun j x => if 0 ≤ 6 - j ∧ 6 - j < 3 then cnv (A j) (B (6 - j)) x else 0)]
  rw [pr_n h (b := 6) (j := 0) (by decide), pr_n h (b := 6) (j := 1) (by decide), pr_n h (b := 6) (j := 2) (by decide)]
  grind
theorem pr_o4_0 {p : Int} {O : Type} [I : Lean.Grind.CommRing O] {φ : (Int → Int) → O} (h : HM p φ) {A B : Int → Int → Int} : φ (prT p 4 A B 0) = φ (A 0) * φ (B 0) := by
  rw [show prT p 4 A B 0 = fun x => (fun x => sm 4 (fun j => if 0 ≤ 0 - j ∧ 0 - j < 4 then cnv (A j) (B (0 - j)) x else 0)) x % p from rfl, h.2.2.1, hm_su4 h (fun j x => if 0 ≤ 0 - j ∧ 0 - j < 4 then cnv (A j) (B (0 - j)) x else 0)]
  rw [pr_y h (b := 0) (j := 0) (k := 0) (by decide) rfl, pr_n h (b := 0) (j := 1) (by decide), pr_n h (b := 0) (j := 2) (by decide), pr_n h (b := 0) (j := 3) (by decide)]
  grind
theorem pr_o4_1 {p : Int} {O : Type} [I : Lean.Grind.CommRing O] {φ : (Int → Int) → O} (h : HM p φ) {A B : Int → Int → Int} : φ (prT p 4 A B 1) = φ (A 0) * φ (B 1) + φ (A 1) * φ (B 0) := by
  rw [show prT p 4 A B 1 = fun x => (fun x => sm 4 (fun j => if 0 ≤ 1 - j ∧ 1 - j < 4 then cnv (A j) (B (1 - j)) x else 0)) x % p from rfl, h.2.2.1, hm_su4 h (fun j x => if 0 ≤ 1 - j ∧ 1 - j < 4 then cnv (A j) (B (1 - j)) x else 0)]
  rw [pr_y h (b := 1) (j := 0) (k := 1) (by decide) rfl, pr_y h (b := 1) (j := 1) (k := 0) (by decide) rfl, pr_n h (b := 1) (j := 2) (by decide), pr_n h (b := 1) (j := 3) (by decide)]
  grind
theorem pr_o4_2 {p : Int} {O : Type} [I : Lean.Grind.CommRing O] {φ : (Int → Int) → O} (h : HM p φ) {A B : Int → Int → Int} : φ (prT p 4 A B 2) = φ (A 0) * φ (B 2) + φ (A 1) * φ (B 1) + φ (A 2) * φ (B 0) := by
  rw [show prT p 4 A B 2 = fun x => (fun x => sm 4 (fun j => if 0 ≤ 2 - j ∧ 2 - j < 4 then cnv (A j) (B (2 - j)) x else 0)) x % p from rfl, h.2.2.1, hm_su4 h (fun j x => if 0 ≤ 2 - j ∧ 2 - j < 4 then cnv (A j) (B (2 - j)) x else 0)]
  rw [pr_y h (b := 2) (j := 0) (k := 2) (by decide) rfl, pr_y h (b := 2) (j := 1) (k := 1) (by decide) rfl, pr_y h (b := 2) (j := 2) (k := 0) (by decide) rfl, pr_n h (b := 2) (j := 3) (by decide)]
  grind
theorem pr_o4_3 {p : Int} {O : Type} [I : Lean.Grind.CommRing O] {φ : (Int → Int) → O} (h : HM p φ) {A B : Int → Int → Int} : φ (prT p 4 A B 3) = φ (A 0) * φ (B 3) + φ (A 1) * φ (B 2) + φ (A 2) * φ (B 1) + φ (A 3) * φ (B 0) := by
  rw [show prT p 4 A B 3 = fun x => (fun x => sm 4 (fun j => if 0 ≤ 3 - j ∧ 3 - j < 4 then cnv (A j) (B (3 - j)) x else 0)) x % p from rfl, h.2.2.1, hm_su4 h (fun j x => if 0 ≤ 3 - j ∧ 3 - j < 4 then cnv (A j) (B (3 - j)) x else 0)]
  rw [pr_y h (b := 3) (j := 0) (k := 3) (by decide) rfl, pr_y h (b := 3) (j := 1) (k := 2) (by decide) rfl, pr_y h (b := 3) (j := 2) (k := 1) (by decide) rfl, pr_y h (b := 3) (j := 3) (k := 0) (by decide) rfl]
theorem pr_o4_4 {p : Int} {O : Type} [I : Lean.Grind.CommRing O] {φ : (Int → Int) → O} (h : HM p φ) {A B : Int → Int → Int} : φ (prT p 4 A B 4) = φ (A 1) * φ (B 3) + φ (A 2) * φ (B 2) + φ (A 3) * φ (B 1) := by
  rw [show prT p 4 A B 4 = fun x => (fun x => sm 4 (fun j => if 0 ≤ 4 - j ∧ 4 - j < 4 then cnv (A j) (B (4 - j)) x else 0)) x % p from rfl, h.2.2.1, hm_su4 h (fun j x => if 0 ≤ 4 - j ∧ 4 - j < 4 then cnv (A j) (B (4 - j)) x else 0)]
  rw [pr_n h (b := 4) (j := 0) (by decide), pr_y h (b := 4) (j := 1) (k := 3) (by decide) rfl, pr_y h (b := 4) (j := 2) (k := 2) (by decide) rfl, pr_y h (b := 4) (j := 3) (k := 1) (by decide) rfl]
  grind
theorem pr_o4_5 {p : Int} {O : Type} [I : Lean.Grind.CommRing O] {φ : (Int → Int) → O} (h : HM p φ) {A B : Int → Int → Int} : φ (prT p 4 A B 5) = φ (A 2) * φ (B 3) + φ (A 3) * φ (B 2) := by
  rw [show prT p 4 A B 5 = fun x => (fun x => sm 4 (fun j => if 0 ≤ 5 - j ∧ 5 - j < 4 then cnv (A j) (B (5 - j)) x else 0)) x % p from rfl, h.2.2.1, hm_su4 h (fun j x => if 0 ≤ 5 - j ∧ 5 - j < 4 then cnv (A j) (B (5 - j)) x else 0)]
  rw [pr_n h (b := 5) (j := 0) (by decide), pr_n h (b := 5) (j := 1) (by decide), pr_y h (b := 5) (j := 2) (k := 3) (by decide) rfl, pr_y h (b := 5) (j := 3) (k := 2) (by decide) rfl]
  grind
theorem pr_o4_6 {p : Int} {O : Type} [I : Lean.Grind.CommRing O] {φ : (Int → Int) → O} (h : HM p φ) {A B : Int → Int → Int} : φ (prT p 4 A B 6) = φ (A 3) * φ (B 3) := by
  rw [show prT p 4 A B 6 = fun x => (fun x => sm 4 (fun j => if 0 ≤ 6 - j ∧ 6 - j < 4 then cnv (A j) (B (6 - j)) x else 0)) x % p from rfl, h.2.2.1, hm_su4 h (fun j x => if 0 ≤ 6 - j ∧ 6 - j < 4 then cnv (A j) (B (6 - j)) x else 0)]
  rw [pr_n h (b := 6) (j := 0) (by decide), pr_n h (b := 6) (j := 1) (by decide), pr_n h (b := 6) (j := 2) (by decide), pr_y h (b := 6) (j := 3) (k := 3) (by decide) rfl]
  grind
theorem times_eq {p n : Int} {C A B : Int → Int → Int} (hp : 2 ≤ p) (hn : 2 ≤ n ∧ n ≤ 4) (bA : ∀ j x, 0 ≤ A j x ∧ A j x < p) (bB : ∀ j x, 0 ≤ B j x ∧ B j x < p) (l : Int) (l0 : 0 ≤ l) (l1 : l < n) (x : Int) (x0 : 0 ≤ x) : mulF p n B (fun i j => tbl p n C A i.toNat j) l x = lwN p n C 6 (7 - n).toNat (prT p n A B) l x := by
  obtain ⟨O, I, φ, h⟩ := hm_ex hp
  refine h.eqv ?_ (mulF_bd hp l) (lwN_bd hp (fun b y => ⟨em_ge (by omega), em_lt (by omega)⟩) _ l) x x0
  rcases (show n = 2 ∨ n = 3 ∨ n = 4 by omega) with rfl | rfl | rfl
  · have a := lw_pr2_6 (C := C) h (pr_o2_0 (A := A) (B := B) h) (pr_o2_1 (A := A) (B := B) h) (pr_o2_2 (A := A) (B := B) h) (pr_o2_3 (A := A) (B := B) h) (pr_o2_4 (A := A) (B := B) h) (pr_o2_5 (A := A) (B := B) h) (pr_o2_6 (A := A) (B := B) h)
    rcases (show l = 0 ∨ l = 1 by omega) with rfl | rfl
    · exact ((mul_o (n := 2) (B := B) (T := fun i j => tbl p 2 C A i.toNat j) (l := 0) h (by decide) (by decide)).trans (hm_sp2 h B (fun j => tbl p 2 C A j.toNat 0))).trans (a.1).symm
    · exact ((mul_o (n := 2) (B := B) (T := fun i j => tbl p 2 C A i.toNat j) (l := 1) h (by decide) (by decide)).trans (hm_sp2 h B (fun j => tbl p 2 C A j.toNat 1))).trans (a.2).symm
  · have a := lw_pr3_6 (C := C) h (pr_o3_0 (A := A) (B := B) h) (pr_o3_1 (A := A) (B := B) h) (pr_o3_2 (A := A) (B := B) h) (pr_o3_3 (A := A) (B := B) h) (pr_o3_4 (A := A) (B := B) h) (pr_o3_5 (A := A) (B := B) h) (pr_o3_6 (A := A) (B := B) h)
    rcases (show l = 0 ∨ l = 1 ∨ l = 2 by omega) with rfl | rfl | rfl
    · exact ((mul_o (n := 3) (B := B) (T := fun i j => tbl p 3 C A i.toNat j) (l := 0) h (by decide) (by decide)).trans (hm_sp3 h B (fun j => tbl p 3 C A j.toNat 0))).trans (a.1).symm
    · exact ((mul_o (n := 3) (B := B) (T := fun i j => tbl p 3 C A i.toNat j) (l := 1) h (by decide) (by decide)).trans (hm_sp3 h B (fun j => tbl p 3 C A j.toNat 1))).trans (a.2.1).symm
    · exact ((mul_o (n := 3) (B := B) (T := fun i j => tbl p 3 C A i.toNat j) (l := 2) h (by decide) (by decide)).trans (hm_sp3 h B (fun j => tbl p 3 C A j.toNat 2))).trans (a.2.2).symm
  · have a := lw_pr4_6 (C := C) h (pr_o4_0 (A := A) (B := B) h) (pr_o4_1 (A := A) (B := B) h) (pr_o4_2 (A := A) (B := B) h) (pr_o4_3 (A := A) (B := B) h) (pr_o4_4 (A := A) (B := B) h) (pr_o4_5 (A := A) (B := B) h) (pr_o4_6 (A := A) (B := B) h)
    rcases (show l = 0 ∨ l = 1 ∨ l = 2 ∨ l = 3 by omega) with rfl | rfl | rfl | rfl
    · exact ((mul_o (n := 4) (B := B) (T := fun i j => tbl p 4 C A i.toNat j) (l := 0) h (by decide) (by decide)).trans (hm_sp4 h B (fun j => tbl p 4 C A j.toNat 0))).trans (a.1).symm
    · exact ((mul_o (n := 4) (B := B) (T := fun i j => tbl p 4 C A i.toNat j) (l := 1) h (by decide) (by decide)).trans (hm_sp4 h B (fun j => tbl p 4 C A j.toNat 1))).trans (a.2.1).symm
    · exact ((mul_o (n := 4) (B := B) (T := fun i j => tbl p 4 C A i.toNat j) (l := 2) h (by decide) (by decide)).trans (hm_sp4 h B (fun j => tbl p 4 C A j.toNat 2))).trans (a.2.2.1).symm
    · exact ((mul_o (n := 4) (B := B) (T := fun i j => tbl p 4 C A i.toNat j) (l := 3) h (by decide) (by decide)).trans (hm_sp4 h B (fun j => tbl p 4 C A j.toNat 3))).trans (a.2.2.2).symm
