/-! More rows than places: some sum of them is nothing. -/
theorem inv_dv {p a : Int} (hp : isPr p) (h : ¬ p ∣ a) : ∃ b, p ∣ a * b - 1 := by
  rcases hp with rfl | rfl | rfl | rfl
  · exact ⟨1, by omega⟩
  · rcases (show a % 3 = 1 ∨ a % 3 = 2 by omega) with e | e
    · exact ⟨1, by omega⟩
    · exact ⟨2, by omega⟩
  · rcases (show a % 5 = 1 ∨ a % 5 = 2 ∨ a % 5 = 3 ∨ a % 5 = 4 by omega) with e | e | e | e
    · exact ⟨1, by omega⟩
    · exact ⟨3, by omega⟩
    · exact ⟨2, by omega⟩
    · exact ⟨4, by omega⟩
  · rcases (show a % 7 = 1 ∨ a % 7 = 2 ∨ a % 7 = 3 ∨ a % 7 = 4 ∨ a % 7 = 5 ∨ a % 7 = 6 by omega) with e | e | e | e | e | e
    · exact ⟨1, by omega⟩
    · exact ⟨4, by omega⟩
    · exact ⟨5, by omega⟩
    · exact ⟨2, by omega⟩
    · exact ⟨3, by omega⟩
    · exact ⟨6, by omega⟩
theorem dvd_sm {p : Int} {n : Nat} {f : Int → Int} (h : ∀ i : Int, 0 ≤ i → i < n → p ∣ f i) : p ∣ sm n f := by
  induction n with
  | zero => exact Int.dvd_zero p
  | succ n ih => exact Int.dvd_add (ih (fun i i0 i1 => h i i0 (by omega))) (h n (by omega) (by omega))
theorem sm_set {n : Nat} {f : Int → Int} {j v : Int} (j0 : 0 ≤ j) (j1 : j < n) : sm n (fun i => if i = j then v else f i) = sm n f - f j + v := by
  induction n with
  | zero => omega
  | succ n ih =>
    rw [sm_succ, sm_succ]
    (try dsimp only)
    by_cases q : (n : Int) = j
    · rw [if_pos q, sm_congr (g := f) (fun i i0 i1 => if_neg (by omega)), q]
      omega
    · rw [if_neg q, ih (by omega)]
      omega
theorem sm_upd {n : Nat} {f : Int → Int} {j : Int} (j0 : 0 ≤ j) (j1 : j ≤ n) : sm (n + 1) f = sm n (fun i => if i = j then f n else f i) + f j := by
  rw [sm_succ]
  by_cases q : j = n
  · rw [sm_congr (g := f) (fun i i0 i1 => if_neg (by omega)), q]
  · rw [sm_set j0 (by omega)]
    omega
theorem ld {p : Int} (hp : isPr p) : ∀ (n : Nat) (d : Int → Int → Int), ∃ r : Int → Int, (∃ i : Int, 0 ≤ i ∧ i ≤ n ∧ ¬ p ∣ r i) ∧ ∀ l : Int, 0 ≤ l → l < n → p ∣ sm (n + 1) (fun i => r i * d i l)
  | 0, d => ⟨fun _ => 1, ⟨0, by omega, by omega, by rcases hp with rfl | rfl | rfl | rfl <;> decide⟩, fun l l0 l1 => by omega⟩
  | n + 1, d => by
    by_cases q : ∀ i : Int, 0 ≤ i → i ≤ n + 1 → p ∣ d i n
    · obtain ⟨r, ⟨i, i0, i1, hi⟩, hr⟩ := ld hp n d
      refine ⟨fun i => if i = n + 1 then 0 else r i, ⟨i, i0, by omega, by (try dsimp only); rw [if_neg (by omega)]; exact hi⟩, fun l l0 l1 => ?_⟩
      by_cases ql : l = n
      · rw [ql]
        refine dvd_sm fun i i0 i1 => Int.dvd_mul_of_dvd_right (q i i0 (by omega))
      · rw [sm_succ]
        (try dsimp only)
        rw [if_pos (by omega), Int.zero_mul, Int.add_zero, sm_congr (g := fun i => r i * d i l) (fun i i0 i1 => by rw [if_neg (by omega)])]
        exact hr l l0 (by omega)
    · have ⟨j, hj⟩ : ∃ j, ¬ (0 ≤ j → j ≤ (n : Int) + 1 → p ∣ d j n) := Classical.byContradiction (fun z => q (fun i a b => Classical.byContradiction (fun y => z ⟨i, fun x => y (x a b)⟩)))
      have j0 : 0 ≤ j := Classical.byContradiction (fun z => hj (fun a => absurd a z))
      have j1 : j ≤ (n : Int) + 1 := Classical.byContradiction (fun z => hj (fun _ a => absurd a z))
      have jd : ¬ p ∣ d j n := fun z => hj (fun _ _ => z)
      obtain ⟨b, hb⟩ := inv_dv hp jd
      have De : ∃ D : Int → Int → Int, ∀ i l, D i l = if i = j then d (n + 1) l else d i l := ⟨_, fun _ _ => rfl⟩
      obtain ⟨D, hD⟩ := De
      obtain ⟨r, ⟨i, i0, i1, hi⟩, hr⟩ := ld hp n (fun i l => D i l - D i n * b * d j l)
      have sd : ∃ s, s = sm (n + 1) (fun i => r i * (D i n * b)) := ⟨_, rfl⟩
      obtain ⟨s, hs⟩ := sd
      have key : ∀ l, sm (n + 1 + 1) (fun i => (if i = j then -s else if i = n + 1 then r j else r i) * d i l) = sm (n + 1) (fun i => r i * (D i l - D i n * b * d j l)) := fun l => by
        rw [sm_upd j0 (by omega)]
        (try dsimp only)
        rw [if_pos rfl]
        have e1 : sm (n + 1) (fun i => if i = j then (if ((n + 1 : Nat) : Int) = j then -s else if ((n + 1 : Nat) : Int) = n + 1 then r j else r ((n + 1 : Nat) : Int)) * d ((n + 1 : Nat) : Int) l else (if i = j then -s else if i = n + 1 then r j else r i) * d i l) = sm (n + 1) (fun i => r i * D i l) := sm_congr fun i i0 i1 => by
          rw [hD]
          by_cases qi : i = j
          · rw [if_pos qi, if_pos qi, if_neg (by omega), if_pos (by omega), qi, show ((n + 1 : Nat) : Int) = n + 1 by omega]
          · rw [if_neg qi, if_neg qi, if_neg qi, if_neg (by omega)]
        rw [e1, show (fun i => r i * (D i l - D i n * b * d j l)) = fun i => (fun i => r i * D i l) i + (fun i => - d j l * (fun i => r i * (D i n * b)) i) i from funext fun i => by
          show r i * (D i l - D i n * b * d j l) = r i * D i l + - d j l * (r i * (D i n * b))
          grind, sm_add, sm_mul, ← hs]
        grind
      refine ⟨fun i => if i = j then -s else if i = n + 1 then r j else r i, ?_, fun l l0 l1 => ?_⟩
      · by_cases qi : i = j
        · refine ⟨n + 1, by omega, by omega, ?_⟩
          (try dsimp only)
          rw [if_neg (by omega), if_pos rfl, ← qi]
          exact hi
        · refine ⟨i, i0, by omega, ?_⟩
          (try dsimp only)
          rw [if_neg qi, if_neg (by omega)]
          exact hi
      · rw [key]
        by_cases ql : l = n
        · rw [ql]
          refine dvd_sm fun i i0 i1 => ?_
          rw [show r i * (D i n - D i n * b * d j n) = (d j n * b - 1) * (- (r i * D i n)) by grind]
          exact Int.dvd_mul_of_dvd_left hb
        · exact hr l l0 (by omega)
