/-! The model's reader at a cursor. -/
def MRS (S : Hp) (D : Int) (T : Int → Int) (n p l i h : Int) : Prop := DW S D ∧ zG S D 18 = n ∧ (0 ≤ n ∧ n ≤ 100) ∧ (0 ≤ i ∧ i ≤ n) ∧ (∀ x, 0 ≤ x → x < n → zG S (D + 13) x = T x) ∧ zG S D 0 = p ∧ zG S D 19 = tkX T n i ∧ zG S D 20 = tkW T n i ∧ zG S D 21 = kdM (tkK T n i) ∧ (tkK T n i = 1 → zG S D 22 = tkV T n i) ∧ zG S D 27 = l ∧ zG S D 28 = h
theorem MRS.next {d : Nat} {S : Hp} {D n p l i h : Int} {T : Int → Int} {Q : Vl → Hp → Prop} (r : MRS S D T n p l i h) (H : ∀ S', Md (fun x => x = D) S S' → MRS S' D T n p l (tkX T n i) h → (∀ j, j ≠ 19 → j ≠ 20 → j ≠ 21 → j ≠ 22 → zG S' D j = zG S D j) → Q (3, 0) S') : Ev (d + 1) 175 [(2, D)] S Q := by
  obtain ⟨a1, a2, a3, a4, a5, a6, a7, a8, a9, a10, a11, a12⟩ := r
  have b := tk_bd (T := T) a4
  refine m_next a3 a1 a2 a7 (by omega) a5 (fun S' r e19 e20 e21 e22 => H S' r.1 ⟨r.2.1, (r.2.2 18 (by omega) (by omega) (by omega) (by omega)).trans a2, a3, by omega, fun x x0 x1 => (r.1.G (by omega) x).trans (a5 x x0 x1), (r.2.2 0 (by omega) (by omega) (by omega) (by omega)).trans a6, e19, e20, e21, e22, (r.2.2 27 (by omega) (by omega) (by omega) (by omega)).trans a11, (r.2.2 28 (by omega) (by omega) (by omega) (by omega)).trans a12⟩ r.2.2)
/-- kept, with new level and high, where the reader's other fields stay -/
theorem MRS.keep {M : Int → Prop} {S S' : Hp} {D n p l l' i h h' : Int} {T : Int → Int} (r : MRS S D T n p l i h) (m : Md M S S') (w : DW S' D) (h13 : ¬ M (D + 13)) (o : ∀ j, j ≠ 27 → j ≠ 28 → j ≠ 33 → j ≠ 34 → zG S' D j = zG S D j) (e27 : zG S' D 27 = l') (e28 : zG S' D 28 = h') : MRS S' D T n p l' i h' := by
  obtain ⟨a1, a2, a3, a4, a5, a6, a7, a8, a9, a10, a11, a12⟩ := r
  exact ⟨w, (o 18 (by omega) (by omega) (by omega) (by omega)).trans a2, a3, a4, fun x x0 x1 => (m.G h13 x).trans (a5 x x0 x1), (o 0 (by omega) (by omega) (by omega) (by omega)).trans a6, (o 19 (by omega) (by omega) (by omega) (by omega)).trans a7, (o 20 (by omega) (by omega) (by omega) (by omega)).trans a8, (o 21 (by omega) (by omega) (by omega) (by omega)).trans a9, fun e => (o 22 (by omega) (by omega) (by omega) (by omega)).trans (a10 e), e27, e28⟩
theorem kdM_sg {k v : Int} (hv : 2 < v) : kdM k = v ↔ k = v := by
  unfold kdM
  split <;> omega
theorem kdM_1 {k : Int} : kdM k = 1 ↔ k = 1 := by
  unfold kdM
  split <;> omega
theorem kdM_0 {k : Int} : kdM k = 0 ↔ k = 0 := by
  unfold kdM
  split <;> omega
