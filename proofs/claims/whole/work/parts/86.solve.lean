/-! Solving equations: what stays when rows are swept. -/
def dot (n : Int) (E : Int → Int) (r : Int) (x : Int → Int) : Int := sm n.toNat (fun i => E (4 * r + i) * x i)
/-- x solves the first c equations -/
def ker (p n c : Int) (E x : Int → Int) : Prop := ∀ r, 0 ≤ r → r < c → p ∣ dot n E r x
theorem dvdL {p a : Int} (h : p ∣ a) (b : Int) : p ∣ a * b := Int.dvd_mul_of_dvd_left h
theorem dvdR {p a : Int} (h : p ∣ a) (b : Int) : p ∣ b * a := Int.dvd_mul_of_dvd_right h
theorem sm_dvd {p : Int} {f g : Int → Int} : ∀ {n : Nat}, (∀ i : Int, 0 ≤ i → i < n → p ∣ f i - g i) → p ∣ sm n f - sm n g
  | 0, _ => ⟨0, by show (0 : Int) - 0 = p * 0; omega⟩
  | n + 1, h => by
    obtain ⟨a, ha⟩ := sm_dvd (n := n) (fun i i0 i1 => h i i0 (by omega))
    obtain ⟨b, hb⟩ := h n (by omega) (by omega)
    refine ⟨a + b, ?_⟩
    rw [sm_succ, sm_succ, Int.mul_add, ← ha, ← hb]
    omega
theorem dvd_of_sub {p a b : Int} (h : p ∣ a - b) (hb : p ∣ b) : p ∣ a := by
  have := Int.dvd_add h hb
  rw [show a - b + b = a by omega] at this
  exact this
theorem dvd_of_sub' {p a b : Int} (h : p ∣ a - b) (ha : p ∣ a) : p ∣ b := by
  have := Int.dvd_sub ha h
  rw [show a - (a - b) = b by omega] at this
  exact this
theorem emod_sub_dvd (p a : Int) : p ∣ a % p - a := ⟨-(a / p), by
  have := Int.emod_add_mul_ediv a p
  rw [Int.mul_neg]
  omega⟩
theorem dvd_neg' {p a b : Int} (h : p ∣ a - b) : p ∣ b - a := by
  obtain ⟨k, hk⟩ := h
  exact ⟨-k, by rw [Int.mul_neg, ← hk]; omega⟩
theorem dvd_tr {p a b c : Int} (h : p ∣ a - b) (h' : p ∣ b - c) : p ∣ a - c := by
  have := Int.dvd_add h h'
  rw [show a - b + (b - c) = a - c by omega] at this
  exact this
theorem sm_one {a j : Int} : ∀ {n : Nat}, 0 ≤ j → j < n → sm n (fun i => if i = j then a else 0) = a
  | 0, h0, h1 => by omega
  | n + 1, h0, h1 => by
    rw [sm_succ]
    by_cases q : j = n
    · rw [if_pos q.symm, sm_zeros (fun i i0 i1 => if_neg (by omega))]
      omega
    · rw [if_neg (fun z => q z.symm), sm_one h0 (by omega)]
      omega
/-- a row times v -/
theorem dot_times {p n v r f : Int} {A E x : Int → Int} (hn : 0 ≤ n) (h : ∀ i, 0 ≤ i → i < n → p ∣ A (4 * r + i) - E (4 * f + i) * v) : p ∣ dot n A r x - v * dot n E f x := by
  unfold dot
  rw [← sm_mul]
  refine sm_dvd fun i i0 i1 => ?_
  have := dvdL (h i i0 (by omega)) (x i)
  rw [Int.sub_mul] at this
  rw [show v * (E (4 * f + i) * x i) = E (4 * f + i) * v * x i by rw [Int.mul_comm (E (4 * f + i)) v, Int.mul_assoc]]
  exact this
/-- a row less k times another -/
theorem dot_less {p n k r u : Int} {B A x : Int → Int} (hn : 0 ≤ n) (h : ∀ i, 0 ≤ i → i < n → p ∣ B (4 * r + i) - (A (4 * r + i) - k * A (4 * u + i))) : p ∣ dot n B r x - (dot n A r x - k * dot n A u x) := by
  have e : dot n A r x - k * dot n A u x = sm n.toNat (fun i => (A (4 * r + i) - k * A (4 * u + i)) * x i) := by
    unfold dot
    rw [← sm_mul, Int.sub_eq_add_neg, show -sm n.toNat (fun i => k * (A (4 * u + i) * x i)) = (-1) * sm n.toNat (fun i => k * (A (4 * u + i) * x i)) by omega, ← sm_mul, ← sm_add]
    refine sm_congr fun i i0 i1 => ?_
    rw [Int.sub_mul, Int.mul_assoc k]
    omega
  rw [e]
  unfold dot
  refine sm_dvd fun i i0 i1 => ?_
  rw [← Int.sub_mul]
  exact dvdL (h i i0 (by omega)) (x i)
theorem dot_same {n r f : Int} {A E x : Int → Int} (hn : 0 ≤ n) (h : ∀ i, 0 ≤ i → i < n → A (4 * r + i) = E (4 * f + i)) : dot n A r x = dot n E f x := by
  unfold dot
  exact sm_congr fun i i0 i1 => by rw [h i i0 (by omega)]
/-- what a sweep does, row by row -/
theorem swB_row {p n u j c r i : Int} {A : Int → Int} (hn : 2 ≤ n ∧ n ≤ 4) (hj : 0 ≤ j ∧ j < n) (hr : 0 ≤ r ∧ r < c) (hi : 0 ≤ i ∧ i < n) (hru : r ≠ u) : p ∣ swB p n A u j c 0 (4 * r + i) - (A (4 * r + i) - A (4 * r + j) * A (4 * u + i)) := by
  have q1 : (4 * r + i) / 4 = r := by omega
  have q2 : (4 * r + i) % 4 = i := by omega
  by_cases q : A (4 * r + j) % p = 0
  · rw [swB_0 (fun z => z.2.2.2.1 (by rw [q1]; exact q))]
    have : p ∣ A (4 * r + j) * A (4 * u + i) := dvdL (Int.dvd_of_emod_eq_zero q) _
    rw [show A (4 * r + i) - (A (4 * r + i) - A (4 * r + j) * A (4 * u + i)) = A (4 * r + j) * A (4 * u + i) by omega]
    exact this
  · rw [swB_1 ⟨by omega, by omega, by omega, by rw [q1]; exact q, by omega⟩, q1, q2]
    refine dvd_tr (emod_sub_dvd p _) ?_
    obtain ⟨k, hk⟩ := emod_sub_dvd p (A (4 * r + j))
    refine ⟨(1 - k) * A (4 * u + i), ?_⟩
    have e : A (4 * r + j) % p = A (4 * r + j) + p * k := by omega
    rw [e]
    grind
theorem swB_at {p n u j c i : Int} {A : Int → Int} (hi : 0 ≤ i ∧ i < n) (hn : n ≤ 4) : swB p n A u j c 0 (4 * u + i) = A (4 * u + i) := swB_0 (fun z => z.2.2.1 (by omega))
theorem swA_at {p n u f v i : Int} {E : Int → Int} (hu : 0 ≤ u) (hi : 0 ≤ i ∧ i < n) (hn : n ≤ 4) : swA p E u f v n (4 * u + i) = E (4 * f + i) * v % p := by
  rw [swA_1 (by omega), show (4 * u + i) % 4 = i by omega]
theorem swA_f {p n u f v i : Int} {E : Int → Int} (hu : 0 ≤ f) (hfu : f ≠ u) (hi : 0 ≤ i ∧ i < n) (hn : n ≤ 4) : swA p E u f v n (4 * f + i) = E (4 * u + i) := by
  rw [swA_2 (by omega) hfu, show (4 * f + i) % 4 = i by omega]
theorem swA_o {p n u f v i r : Int} {E : Int → Int} (hr : r ≠ u) (hfu : r ≠ f) (hi : 0 ≤ i ∧ i < n) (hn : n ≤ 4) : swA p E u f v n (4 * r + i) = E (4 * r + i) := swA_3 (by omega) (by omega)
theorem sw_ker {p n u f v j c : Int} {E x : Int → Int} (hn : 2 ≤ n ∧ n ≤ 4) (hj : 0 ≤ j ∧ j < n) (hu : 0 ≤ u ∧ u ≤ f ∧ f < c) (hv : E (4 * f + j) * v % p = 1) : ker p n c (swB p n (swA p E u f v n) u j c 0) x ↔ ker p n c E x := by
  generalize hA : swA p E u f v n = A
  have au : p ∣ dot n A u x - v * dot n E f x := dot_times (by omega) fun i i0 i1 => by
    rw [← hA, swA_at hu.1 ⟨i0, i1⟩ hn.2]
    exact emod_sub_dvd p _
  have af : f ≠ u → dot n A f x = dot n E u x := fun hfu => dot_same (by omega) fun i i0 i1 => by
    rw [← hA, swA_f (by omega) hfu ⟨i0, i1⟩ hn.2]
  have ao : ∀ r, r ≠ u → r ≠ f → dot n A r x = dot n E r x := fun r h1 h2 => dot_same (by omega) fun i i0 i1 => by
    rw [← hA, swA_o h1 h2 ⟨i0, i1⟩ hn.2]
  have bu : dot n (swB p n A u j c 0) u x = dot n A u x := dot_same (by omega) fun i i0 i1 => swB_at ⟨i0, i1⟩ hn.2
  have br : ∀ r, 0 ≤ r → r < c → r ≠ u → p ∣ dot n (swB p n A u j c 0) r x - (dot n A r x - A (4 * r + j) * dot n A u x) := fun r r0 r1 h1 => dot_less (by omega) fun i i0 i1 => swB_row hn hj ⟨r0, r1⟩ ⟨i0, i1⟩ h1
  have hAE : ker p n c A x ↔ ker p n c E x := by
    constructor
    · intro h
      have ef : p ∣ dot n E f x := by
        have h1 : p ∣ v * dot n E f x := dvd_of_sub' au (h u hu.1 (by omega))
        have h2 : p ∣ E (4 * f + j) * v * dot n E f x := by
          rw [Int.mul_assoc]
          exact dvdR h1 _
        have h3 : p ∣ E (4 * f + j) * v - 1 := by
          have := dvd_neg' (emod_sub_dvd p (E (4 * f + j) * v))
          rw [hv] at this
          exact this
        have h4 := dvdL h3 (dot n E f x)
        rw [Int.sub_mul, Int.one_mul] at h4
        exact dvd_of_sub' h4 h2
      intro r r0 r1
      by_cases q1 : r = f
      · rw [q1]
        exact ef
      · by_cases q2 : r = u
        · rw [q2, ← af (by omega)]
          exact h f (by omega) hu.2.2
        · rw [← ao r q2 q1]
          exact h r r0 r1
    · intro h r r0 r1
      by_cases q2 : r = u
      · rw [q2]
        exact dvd_of_sub au (dvdR (h f (by omega) hu.2.2) _)
      · by_cases q1 : r = f
        · rw [q1, af (by omega)]
          exact h u hu.1 (by omega)
        · rw [ao r q2 q1]
          exact h r r0 r1
  rw [← hAE]
  constructor
  · intro h
    have hu1 : p ∣ dot n A u x := by
      rw [← bu]
      exact h u hu.1 (by omega)
    intro r r0 r1
    by_cases q : r = u
    · rw [q]
      exact hu1
    · have h1 := dvd_of_sub' (br r r0 r1 q) (h r r0 r1)
      exact dvd_of_sub h1 (dvdR hu1 _)
  · intro h r r0 r1
    by_cases q : r = u
    · rw [q, bu]
      exact h u hu.1 (by omega)
    · exact dvd_of_sub (br r r0 r1 q) (Int.dvd_sub (h r r0 r1) (dvdR (h u hu.1 (by omega)) _))
/-- unknown j after the sweep -/
theorem sw_piv {p n u f v j c : Int} {E : Int → Int} (hn : 2 ≤ n ∧ n ≤ 4) (hj : 0 ≤ j ∧ j < n) (hu : 0 ≤ u ∧ u ≤ f ∧ f < c) (hv : E (4 * f + j) * v % p = 1) : swB p n (swA p E u f v n) u j c 0 (4 * u + j) = 1 ∧ ∀ r, 0 ≤ r → r < c → r ≠ u → p ∣ swB p n (swA p E u f v n) u j c 0 (4 * r + j) := by
  have h1 : swA p E u f v n (4 * u + j) = 1 := by rw [swA_at hu.1 hj hn.2, hv]
  refine ⟨by rw [swB_at hj hn.2, h1], fun r r0 r1 hr => ?_⟩
  have := swB_row (p := p) (A := swA p E u f v n) (c := c) hn hj ⟨r0, r1⟩ hj hr
  rw [h1, Int.mul_one, Int.sub_self, Int.sub_zero] at this
  exact this
/-- an unknown that is gone from row u on stays gone, and stays as it was above -/
theorem sw_col {p n u f v j c i : Int} {E : Int → Int} (hn : 2 ≤ n ∧ n ≤ 4) (hj : 0 ≤ j ∧ j < n) (hi : 0 ≤ i ∧ i < n) (hu : 0 ≤ u ∧ u ≤ f ∧ f < c) (hz : ∀ r, u ≤ r → r < c → p ∣ E (4 * r + i)) (r : Int) (r0 : 0 ≤ r) (r1 : r < c) : (r < u → p ∣ swB p n (swA p E u f v n) u j c 0 (4 * r + i) - E (4 * r + i)) ∧ (u ≤ r → p ∣ swB p n (swA p E u f v n) u j c 0 (4 * r + i)) := by
  have h1 : p ∣ swA p E u f v n (4 * u + i) := by
    rw [swA_at hu.1 hi hn.2]
    exact dvd_of_sub (emod_sub_dvd p _) (dvdL (hz f hu.2.1 hu.2.2) _)
  refine ⟨fun hr => ?_, fun hr => ?_⟩
  · have h2 := swB_row (p := p) (A := swA p E u f v n) (c := c) hn hj ⟨r0, r1⟩ hi (show r ≠ u by omega)
    rw [swA_o (show r ≠ u by omega) (show r ≠ f by omega) hi hn.2] at h2
    refine dvd_tr h2 ?_
    rw [show E (4 * r + i) - swA p E u f v n (4 * r + j) * swA p E u f v n (4 * u + i) - E (4 * r + i) = (-swA p E u f v n (4 * r + j)) * swA p E u f v n (4 * u + i) by rw [Int.neg_mul]; omega]
    exact dvdR h1 _
  · by_cases q : r = u
    · rw [q, swB_at hi hn.2]
      exact h1
    · have h2 := swB_row (p := p) (A := swA p E u f v n) (c := c) hn hj ⟨r0, r1⟩ hi q
      refine dvd_of_sub h2 (Int.dvd_sub ?_ (dvdR h1 _))
      by_cases q1 : r = f
      · rw [q1, swA_f (by omega) (by omega) hi hn.2]
        exact hz u (by omega) (by omega)
      · rw [swA_o q q1 hi hn.2]
        exact hz r hr r1
theorem sw_low {p n u f v j c i : Int} {E : Int → Int} (hp : 2 ≤ p) (hn : 2 ≤ n ∧ n ≤ 4) (hi : 0 ≤ i ∧ i < n) (hu : 0 ≤ u ∧ u ≤ f) (hz : ∀ r, 0 ≤ r → r < u → 0 ≤ E (4 * r + i) ∧ E (4 * r + i) < p) (r : Int) (r0 : 0 ≤ r) (r1 : r ≤ u) : 0 ≤ swB p n (swA p E u f v n) u j c 0 (4 * r + i) ∧ swB p n (swA p E u f v n) u j c 0 (4 * r + i) < p := by
  by_cases q : swC p n (swA p E u f v n) u j c 0 (4 * r + i)
  · rw [swB_1 q]
    exact ⟨Int.emod_nonneg _ (by omega), Int.emod_lt_of_pos _ (by omega)⟩
  · rw [swB_0 q]
    by_cases q1 : r = u
    · rw [q1, swA_at hu.1 hi hn.2]
      exact ⟨Int.emod_nonneg _ (by omega), Int.emod_lt_of_pos _ (by omega)⟩
    · rw [swA_o q1 (by omega) hi hn.2]
      exact hz r r0 (by omega)
