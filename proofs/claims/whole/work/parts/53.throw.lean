/-! The two methods that throw: their contract. -/
def zXn (cd : Int) : String := if cd = 1 then "java/lang/IllegalArgumentException" else if cd = 2 then "java/lang/IllegalStateException" else "java/lang/ArithmeticException"
def zXC (Γ : ZG) (m : Nat) (k : Vl → Hp → Prop) : String → State → State → Prop := fun E st t => ∃ (cd : Int) (S' : Hp), k (9, cd) S' ∧ (∃ idx pc : Nat, ((cd = 1 ∧ idx = 314) ∨ (cd = 2 ∧ idx = 324) ∨ (cd = 3 ∧ idx = 335)) ∧ decode (zB m) pc = .ok (.new idx, 3)) ∧ E = zXn cd ∧ zRep Γ (zU S') t.heap ∧ va_F (zA0 Γ) st t
theorem zRep.grown {Γ : ZG} {S : Hp} {H H' : Heap} (h : zRep Γ S H) (hl : zLow Γ) (hz : H.size ≤ H'.size) (ho : ∀ q, q < H.size → H'[q]? = H[q]?) (h0 : Γ.1.1 ≤ H.size) : zRep Γ (zU S) H' := by
  obtain ⟨⟨f0, f1, f2, f3⟩, h1, h2, h3, h4, h5, h6⟩ := h
  refine ⟨⟨f0, f1, f2, f3⟩, fun a ha => ?_, Nat.le_trans h2 hz, fun q => absurd q (by show ¬ (0 : Int) = 1; decide), h4, ?_, ?_⟩
  · have := f1 a ha
    refine (h1 a ha).kept rfl rfl (fun j => rfl) (ho _ ?_)
    rw [zAd_pos Γ this.1]
    omega
  · rw [ho _ (by have := hl.1; omega)]
    exact h5
  · rw [ho _ (by have := hl.2; omega)]
    exact h6
theorem noTr {l : Launch} (h : l.flags = flags0) : l.stackTraces = false := by
  unfold Launch.stackTraces
  rw [h]
  decide
/-- the words of the three throws that the method's own list holds -/
theorem zTw_good : zThT.all (fun q => (["java/lang/IllegalArgumentException", "java/lang/IllegalStateException", "java/lang/ArithmeticException"].all fun E => !(decide (zXn (if q.1 = 314 then 1 else if q.1 = 324 then 2 else 3) = E)) || (Cond.classLink (zCn 10) q.1 E :: Cond.initialized E :: vx_atS (zCn 10) q.2.2 E ["java/lang/RuntimeException", "java/lang/Exception"]).all (fun w => vx_ot w))) = true := by decide +kernel
