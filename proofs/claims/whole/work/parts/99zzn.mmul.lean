/-! The model's reader: products. -/
theorem mx_ge {F g : Int → Int} : ∀ (k : Nat) (e : Int), 0 ≤ e → e < k → F e ≠ 0 → g e ≤ mxN F g k
  | 0, e, e0, e1, _ => by omega
  | k + 1, e, e0, e1, hF => by
    show g e ≤ (if F k = 0 then mxN F g k else max (mxN F g k) (g k))
    by_cases q : e = (k : Int)
    · rw [if_neg (by rw [← q]; exact hF), q]
      omega
    · have ih := mx_ge (g := g) k e e0 (by omega) hF
      split <;> omega
theorem mx_ex {F g : Int → Int} (hg : ∀ e, 0 ≤ e → 0 ≤ g e) : ∀ (k : Nat), (∃ e, 0 ≤ e ∧ e < (k : Int) ∧ F e ≠ 0) → ∃ e, 0 ≤ e ∧ e < (k : Int) ∧ F e ≠ 0 ∧ mxN F g k ≤ g e
  | 0, ⟨e, e0, e1, _⟩ => by omega
  | k + 1, ⟨e, e0, e1, hF⟩ => by
    have u : mxN F g (k + 1) = if F k = 0 then mxN F g k else max (mxN F g k) (g k) := rfl
    rw [u]
    by_cases q : ∃ e, 0 ≤ e ∧ e < (k : Int) ∧ F e ≠ 0
    · obtain ⟨x, x0, x1, hx, hm⟩ := mx_ex hg k q
      by_cases z : F k = 0
      · rw [if_pos z]
        exact ⟨x, x0, by omega, hx, hm⟩
      · rw [if_neg z]
        by_cases y : g x ≤ g k
        · exact ⟨k, by omega, by omega, z, by omega⟩
        · exact ⟨x, x0, by omega, hx, by omega⟩
    · have ek : e = (k : Int) := Decidable.byContradiction (fun z => q ⟨e, e0, by omega, hF⟩)
      rw [ek] at hF
      have z0 : ∀ (j : Nat), j ≤ k → mxN F g j = 0 := fun j => by
        induction j with
        | zero => intro _; rfl
        | succ j ih =>
          intro hj
          show (if F j = 0 then mxN F g j else max (mxN F g j) (g j)) = 0
          rw [if_pos (Decidable.byContradiction (fun z => q ⟨j, by omega, by omega, z⟩)), ih (by omega)]
      rw [if_neg hF, z0 k (Nat.le_refl k)]
      have := hg k (by omega)
      exact ⟨k, by omega, by omega, hF, by omega⟩
theorem nHi_dgr {A B : Int → Int} (hA : ¬ ∀ e, 0 ≤ e → e < 49 → A e = 0) (hB : ¬ ∀ e, 0 ≤ e → e < 49 → B e = 0) : nHi A B ↔ dgr A + dgr B ≤ 6 := by
  have ex : ∀ {F : Int → Int}, (¬ ∀ e, 0 ≤ e → e < 49 → F e = 0) → ∃ e, 0 ≤ e ∧ e < ((49 : Nat) : Int) ∧ F e ≠ 0 := fun {F} h => Classical.byContradiction (fun z => h (fun e e0 e1 => Decidable.byContradiction (fun y => z ⟨e, e0, e1, y⟩)))
  have gn : ∀ e : Int, 0 ≤ e → 0 ≤ (fun e : Int => e / 7 + e % 7) e := fun e e0 => by
    show 0 ≤ e / 7 + e % 7
    omega
  constructor
  · intro nh
    obtain ⟨a, a0, a1, ha, ma⟩ := mx_ex gn 49 (ex hA)
    obtain ⟨b, b0, b1, hb, mb⟩ := mx_ex gn 49 (ex hB)
    have := nh a b a0 a1 b0 b1 ha hb
    unfold dgS at this
    (try dsimp only at ma mb)
    unfold dgr
    omega
  · intro le e g e0 e1 g0 g1 ha hb
    have x := mx_ge (F := A) (g := fun e => e / 7 + e % 7) 49 e e0 e1 ha
    have y := mx_ge (F := B) (g := fun e => e / 7 + e % 7) 49 g g0 g1 hb
    (try dsimp only at x y)
    unfold dgr at le
    unfold dgS
    omega
