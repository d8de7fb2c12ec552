/-! Layer B: pure reasoning over the abstract machine. Numbers, heaps, loops. -/
theorem w32_id {x : Int} (h1 : -2147483648 ≤ x) (h2 : x < 2147483648) : w32 x = x := by
  unfold w32
  rw [Int.bmod_def]
  split <;> omega
theorem w64_id {x : Int} (h1 : -9223372036854775808 ≤ x) (h2 : x < 9223372036854775808) : w64 x = x := by
  unfold w64
  rw [Int.bmod_def]
  split <;> omega
/-- a row told anew -/
def zR (S : Hp) (a : Int) (f : Int → Int) : Hp := (S.1, S.2.1, fun b j => if b = a then f j else S.2.2 b j)
theorem zK_zS (S : Hp) (a i v b : Int) : zK (zS S a i v) b = zK S b := rfl
theorem zL_zS (S : Hp) (a i v b : Int) : zL (zS S a i v) b = zL S b := rfl
theorem zN_zS (S : Hp) (a i v : Int) : zN (zS S a i v) = zN S := rfl
theorem zT_zS (S : Hp) (a i v : Int) : zT (zS S a i v) = zT S := rfl
theorem zG_zS (S : Hp) (a i v b j : Int) : zG (zS S a i v) b j = if b = a ∧ j = i then v else zG S b j := rfl
theorem zK_zR (S : Hp) (a b : Int) (f : Int → Int) : zK (zR S a f) b = zK S b := rfl
theorem zL_zR (S : Hp) (a b : Int) (f : Int → Int) : zL (zR S a f) b = zL S b := rfl
theorem zG_zR (S : Hp) (a b j : Int) (f : Int → Int) : zG (zR S a f) b j = if b = a then f j else zG S b j := rfl
theorem zG_zR_at (S : Hp) (a j : Int) (f : Int → Int) : zG (zR S a f) a j = f j := if_pos rfl
theorem zG_zR_ne (S : Hp) {a b : Int} (h : b ≠ a) (j : Int) (f : Int → Int) : zG (zR S a f) b j = zG S b j := if_neg h
theorem zG_zS_at (S : Hp) (a i v : Int) : zG (zS S a i v) a i = v := if_pos ⟨rfl, rfl⟩
theorem zG_zS_ne (S : Hp) {a b i j v : Int} (h : b ≠ a ∨ j ≠ i) : zG (zS S a i v) b j = zG S b j := if_neg (fun q => h.elim (fun z => z q.1) (fun z => z q.2))
theorem zK_zC (S : Hp) (a sp b dp n c : Int) : zK (zC S a sp b dp n) c = zK S c := rfl
theorem zL_zC (S : Hp) (a sp b dp n c : Int) : zL (zC S a sp b dp n) c = zL S c := rfl
theorem zG_zC (S : Hp) (a sp b dp n c j : Int) : zG (zC S a sp b dp n) c j = if c = b ∧ dp ≤ j ∧ j < dp + n then zG S a (sp + (j - dp)) else zG S c j := rfl
theorem hp_ext {S T : Hp} (h1 : S.1 = T.1) (h2 : S.2.1 = T.2.1) (h3 : ∀ b j, zG S b j = zG T b j) : S = T := by
  obtain ⟨s1, s2, s3⟩ := S
  obtain ⟨t1, t2, t3⟩ := T
  cases h1
  cases h2
  have : s3 = t3 := funext fun b => funext fun j => h3 b j
  cases this
  rfl
theorem zS_zR (S : Hp) (a i v : Int) (f : Int → Int) : zS (zR S a f) a i v = zR S a (fun j => if j = i then v else f j) := hp_ext rfl rfl fun b j => by
  simp only [zG_zS, zG_zR]
  by_cases h : b = a <;> by_cases h' : j = i <;> simp [h, h']
theorem zR_self (S : Hp) (a : Int) : zR S a (fun j => zG S a j) = S := hp_ext rfl rfl fun b j => by
  simp only [zG_zR]
  by_cases h : b = a <;> simp [h]
theorem zR_congr (S : Hp) (a : Int) {f g : Int → Int} (h : ∀ j, f j = g j) : zR S a f = zR S a g := by
  have : f = g := funext h
  rw [this]
theorem zR_zR (S : Hp) (a : Int) (f g : Int → Int) : zR (zR S a f) a g = zR S a g := hp_ext rfl rfl fun b j => by
  simp only [zG_zR]
  by_cases h : b = a <;> simp [h]
theorem zS_as_zR (S : Hp) (a i v : Int) : zS S a i v = zR S a (fun j => if j = i then v else zG S a j) := hp_ext rfl rfl fun b j => by
  simp only [zG_zS, zG_zR]
  by_cases h : b = a <;> by_cases h' : j = i <;> simp [h, h']
/-- a loop that counts up to hi (not with it); the rest of the state is of any kind -/
theorem loopU {α : Type} {P I : Int → α → Prop} (hi : Int) (hstep : ∀ i a, i < hi → I i a → (∀ a', I (i + 1) a' → P (i + 1) a') → P i a) (hend : ∀ a, I hi a → P hi a) (i : Int) (a : α) (hle : i ≤ hi) (h : I i a) : P i a := by
  have key : ∀ (n : Nat) (i : Int) (a : α), (hi - i).toNat = n → i ≤ hi → I i a → P i a := by
    intro n
    induction n with
    | zero =>
      intro i a hn hle h
      have : i = hi := by omega
      subst this
      exact hend a h
    | succ n ih =>
      intro i a hn hle h
      exact hstep i a (by omega) h (fun a' h' => ih (i + 1) a' (by omega) (by omega) h')
  exact key _ i a rfl hle h
/-- a loop that counts down to lo (with it); it ends at lo - 1 -/
theorem loopD {α : Type} {P I : Int → α → Prop} (lo : Int) (hstep : ∀ i a, lo ≤ i → I i a → (∀ a', I (i - 1) a' → P (i - 1) a') → P i a) (hend : ∀ a, I (lo - 1) a → P (lo - 1) a) (i : Int) (a : α) (hle : lo - 1 ≤ i) (h : I i a) : P i a := by
  have key : ∀ (n : Nat) (i : Int) (a : α), (i - lo + 1).toNat = n → lo - 1 ≤ i → I i a → P i a := by
    intro n
    induction n with
    | zero =>
      intro i a hn hle h
      have : i = lo - 1 := by omega
      subst this
      exact hend a h
    | succ n ih =>
      intro i a hn hle h
      exact hstep i a (by omega) h (fun a' h' => ih (i - 1) a' (by omega) (by omega) h')
  exact key _ i a rfl hle h
/-- a loop by any measure -/
theorem loopM {α : Type} {P I : α → Prop} (μ : α → Nat) (hstep : ∀ a, I a → (∀ a', μ a' < μ a → I a' → P a') → P a) (a : α) (h : I a) : P a := by
  have key : ∀ (n : Nat) (a : α), μ a ≤ n → I a → P a := by
    intro n
    induction n with
    | zero =>
      intro a hn h
      exact hstep a h (fun a' hlt => absurd hlt (by omega))
    | succ n ih =>
      intro a hn h
      exact hstep a h (fun a' hlt h' => ih a' (by omega) h')
  exact key _ a (Nat.le_refl _) h
/-- S' has S's shape; only rows of M may hold other numbers -/
def Md (M : Int → Prop) (S S' : Hp) : Prop := S'.1 = S.1 ∧ S'.2.1 = S.2.1 ∧ ∀ a i, ¬ M a → zG S' a i = zG S a i
theorem Md.refl (M : Int → Prop) (S : Hp) : Md M S S := ⟨rfl, rfl, fun _ _ _ => rfl⟩
theorem Md.trans {M N : Int → Prop} {S T U : Hp} (h : Md M S T) (h' : Md N T U) : Md (fun a => M a ∨ N a) S U := ⟨h'.1.trans h.1, h'.2.1.trans h.2.1, fun a i q => (h'.2.2 a i (fun z => q (Or.inr z))).trans (h.2.2 a i (fun z => q (Or.inl z)))⟩
theorem Md.tr {M : Int → Prop} {S T U : Hp} (h : Md M S T) (h' : Md M T U) : Md M S U := ⟨h'.1.trans h.1, h'.2.1.trans h.2.1, fun a i q => (h'.2.2 a i q).trans (h.2.2 a i q)⟩
theorem Md.wide {M N : Int → Prop} {S T : Hp} (h : Md M S T) (hs : ∀ a, M a → N a) : Md N S T := ⟨h.1, h.2.1, fun a i q => h.2.2 a i (fun z => q (hs a z))⟩
theorem Md.K {M : Int → Prop} {S T : Hp} (h : Md M S T) (a : Int) : zK T a = zK S a := by unfold zK; rw [h.1]
theorem Md.L {M : Int → Prop} {S T : Hp} (h : Md M S T) (a : Int) : zL T a = zL S a := by unfold zL; rw [h.1]
theorem Md.N {M : Int → Prop} {S T : Hp} (h : Md M S T) : zN T = zN S := by unfold zN; rw [h.2.1]
theorem Md.T {M : Int → Prop} {S T : Hp} (h : Md M S T) : zT T = zT S := by unfold zT; rw [h.2.1]
theorem Md.G {M : Int → Prop} {S T : Hp} (h : Md M S T) {a : Int} (hm : ¬ M a) (i : Int) : zG T a i = zG S a i := h.2.2 a i hm
theorem Md.zS (S : Hp) (a i v : Int) : Md (fun x => x = a) S (zS S a i v) := ⟨rfl, rfl, fun b j q => zG_zS_ne S (Or.inl q)⟩
theorem Md.zR (S : Hp) (a : Int) (f : Int → Int) : Md (fun x => x = a) S (zR S a f) := ⟨rfl, rfl, fun b j q => zG_zR_ne S q j f⟩
/-- sums of the first n -/
def sm (n : Nat) (f : Int → Int) : Int := match n with
  | 0 => 0
  | n + 1 => sm n f + f n
theorem sm_zero (f : Int → Int) : sm 0 f = 0 := rfl
theorem sm_succ (n : Nat) (f : Int → Int) : sm (n + 1) f = sm n f + f n := rfl
theorem sm_congr {n : Nat} {f g : Int → Int} (h : ∀ i : Int, 0 ≤ i → i < n → f i = g i) : sm n f = sm n g := by
  induction n with
  | zero => rfl
  | succ n ih => rw [sm_succ, sm_succ, ih (fun i h0 h1 => h i h0 (by omega)), h n (by omega) (by omega)]
theorem sm_none (n : Nat) : sm n (fun _ => 0) = 0 := by
  induction n with
  | zero => rfl
  | succ n ih => rw [sm_succ, ih]; rfl
theorem sm_zeros {n : Nat} {f : Int → Int} (h : ∀ i : Int, 0 ≤ i → i < n → f i = 0) : sm n f = 0 := (sm_congr h).trans (sm_none n)
theorem sm_add (n : Nat) (f g : Int → Int) : sm n (fun i => f i + g i) = sm n f + sm n g := by
  induction n with
  | zero => rfl
  | succ n ih => rw [sm_succ, sm_succ, sm_succ, ih]; omega
theorem sm_mul (n : Nat) (c : Int) (f : Int → Int) : sm n (fun i => c * f i) = c * sm n f := by
  induction n with
  | zero => rw [sm_zero, sm_zero, Int.mul_zero]
  | succ n ih => rw [sm_succ, sm_succ, ih, Int.mul_add]
theorem sm_more {n m : Nat} {f : Int → Int} (hnm : n ≤ m) (h : ∀ i : Int, n ≤ i → i < m → f i = 0) : sm m f = sm n f := by
  induction m with
  | zero => rw [show n = 0 by omega]
  | succ m ih =>
    by_cases e : n = m + 1
    · rw [e]
    · rw [sm_succ, ih (by omega) (fun i h0 h1 => h i h0 (by omega)), h m (by omega) (by omega), Int.add_zero]
theorem sm_le {n : Nat} {f : Int → Int} {B : Int} (h : ∀ i : Int, 0 ≤ i → i < n → f i ≤ B) : sm n f ≤ n * B := by
  induction n with
  | zero => simp [sm_zero]
  | succ n ih =>
    have h1 := ih (fun i h0 h1 => h i h0 (by omega))
    have h2 := h n (by omega) (by omega)
    rw [sm_succ, Int.natCast_add, Int.add_mul]
    omega
theorem sm_ge {n : Nat} {f : Int → Int} {B : Int} (h : ∀ i : Int, 0 ≤ i → i < n → -B ≤ f i) : -(n * B) ≤ sm n f := by
  induction n with
  | zero => simp [sm_zero]
  | succ n ih =>
    have h1 := ih (fun i h0 h1 => h i h0 (by omega))
    have h2 := h n (by omega) (by omega)
    rw [sm_succ, Int.natCast_add, Int.add_mul]
    omega
/-- splitting off the first one -/
theorem sm_first (n : Nat) (f : Int → Int) : sm (n + 1) f = f 0 + sm n (fun i => f (i + 1)) := by
  induction n with
  | zero => rw [sm_succ, sm_zero, sm_zero]; simp
  | succ n ih =>
    rw [sm_succ, ih, sm_succ (n := n) (f := fun i => f (i + 1))]
    simp only [Int.natCast_add, Int.cast_ofNat_Int]
    omega
/-- turned round -/
theorem sm_rev (n : Nat) (f : Int → Int) : sm n (fun i => f (n - 1 - i)) = sm n f := by
  induction n with
  | zero => rfl
  | succ n ih =>
    rw [sm_first, sm_succ (f := f), ← ih]
    have e : sm n (fun i => f (((n + 1 : Nat) : Int) - 1 - (i + 1))) = sm n (fun i => f (n - 1 - i)) := sm_congr fun i _ _ => by
      congr 1
      omega
    rw [e, show ((n + 1 : Nat) : Int) - 1 - 0 = n by omega]
    omega
theorem sm_swap (n m : Nat) (f : Int → Int → Int) : sm n (fun i => sm m (fun j => f i j)) = sm m (fun j => sm n (fun i => f i j)) := by
  induction n with
  | zero => simp only [sm_zero]; exact (sm_none m).symm
  | succ n ih => rw [sm_succ, ih]; simp only [sm_succ]; rw [sm_add]
theorem tm_lt {x p : Int} (hp : 0 < p) : x.tmod p < p := Int.tmod_lt_of_pos x hp
theorem tm_gt {x p : Int} (hp : 0 < p) : -p < x.tmod p := Int.lt_tmod_of_pos x hp
theorem tm_em {x p : Int} : x % p = (x.tmod p) % p := by
  have h := Int.mul_tdiv_add_tmod x p
  rw [← h, Int.add_comm, Int.add_mul_emod_self_left]
  congr 1
  rw [Int.add_comm, h]
/-- Java's remainder, made not negative -/
theorem tm_fix {x p : Int} (hp : 0 < p) : (if 0 ≤ x.tmod p then x.tmod p else x.tmod p + p) = x % p := by
  have h1 := tm_lt (x := x) hp
  have h2 := tm_gt (x := x) hp
  rw [tm_em]
  split
  · rw [Int.emod_eq_of_lt (by omega) h1]
  · rw [← Int.emod_eq_of_lt (a := x.tmod p + p) (b := p) (by omega) (by omega)]
    exact Int.add_emod_right _ _
theorem tm_nn {x p : Int} (hx : 0 ≤ x) : x.tmod p = x % p := Int.tmod_eq_emod_of_nonneg hx
theorem tm_zero {x p : Int} (hp : 0 < p) : x.tmod p = 0 ↔ x % p = 0 := by
  have h := tm_fix (x := x) hp
  have h1 := tm_lt (x := x) hp
  have h2 := tm_gt (x := x) hp
  constructor
  · intro q
    rw [q] at h
    simpa using h.symm
  · intro q
    rw [q] at h
    split at h <;> omega
theorem em_lt {x p : Int} (hp : 0 < p) : x % p < p := Int.emod_lt_of_pos x hp
theorem em_ge {x p : Int} (hp : 0 < p) : 0 ≤ x % p := Int.emod_nonneg x (by omega)
theorem em_id {x p : Int} (h0 : 0 ≤ x) (h1 : x < p) : x % p = x := Int.emod_eq_of_lt h0 h1
/-- numbers that differ by a multiple of p -/
theorem em_sub {x y p : Int} : x % p = y % p ↔ (x - y) % p = 0 := Int.emod_eq_emod_iff_emod_sub_eq_zero
theorem loopU2 {α β : Type} {P I : Int → α → β → Prop} (hi : Int) (hstep : ∀ i a b, i < hi → I i a b → (∀ a' b', I (i + 1) a' b' → P (i + 1) a' b') → P i a b) (hend : ∀ a b, I hi a b → P hi a b) (i : Int) (a : α) (b : β) (hle : i ≤ hi) (h : I i a b) : P i a b :=
  loopU (α := α × β) (P := fun i q => P i q.1 q.2) (I := fun i q => I i q.1 q.2) hi (fun i q h1 h2 h3 => hstep i q.1 q.2 h1 h2 (fun a' b' h => h3 (a', b') h)) (fun q h => hend q.1 q.2 h) i (a, b) hle h
theorem loopD2 {α β : Type} {P I : Int → α → β → Prop} (lo : Int) (hstep : ∀ i a b, lo ≤ i → I i a b → (∀ a' b', I (i - 1) a' b' → P (i - 1) a' b') → P i a b) (hend : ∀ a b, I (lo - 1) a b → P (lo - 1) a b) (i : Int) (a : α) (b : β) (hle : lo - 1 ≤ i) (h : I i a b) : P i a b :=
  loopD (α := α × β) (P := fun i q => P i q.1 q.2) (I := fun i q => I i q.1 q.2) lo (fun i q h1 h2 h3 => hstep i q.1 q.2 h1 h2 (fun a' b' h => h3 (a', b') h)) (fun q h => hend q.1 q.2 h) i (a, b) hle h
theorem loopU3 {α β γ : Type} {P I : Int → α → β → γ → Prop} (hi : Int) (hstep : ∀ i a b c, i < hi → I i a b c → (∀ a' b' c', I (i + 1) a' b' c' → P (i + 1) a' b' c') → P i a b c) (hend : ∀ a b c, I hi a b c → P hi a b c) (i : Int) (a : α) (b : β) (c : γ) (hle : i ≤ hi) (h : I i a b c) : P i a b c :=
  loopU (α := α × β × γ) (P := fun i q => P i q.1 q.2.1 q.2.2) (I := fun i q => I i q.1 q.2.1 q.2.2) hi (fun i q h1 h2 h3 => hstep i q.1 q.2.1 q.2.2 h1 h2 (fun a' b' c' h => h3 (a', b', c') h)) (fun q h => hend q.1 q.2.1 q.2.2 h) i (a, b, c) hle h
