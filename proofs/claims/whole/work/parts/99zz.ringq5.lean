/-! The model: classes, the class of a line, branches. -/
/-- the logarithm of a number of classes -/
def ctL (p n : Int) (f : Int → Int) : Int := lgF p 12 (sm (pwI p n.toNat).toNat f)
def clF (p n w : Int) (T : Int → Int) (a : Int) : Int := if w = 0 then (if pcC p n T (pcC p n T a a) (pcC p n T a a) = 0 then 1 else 0) else if fpC p n T a = a then 1 else 0
theorem clF_01 {p n w a : Int} {T : Int → Int} : 0 ≤ clF p n w T a ∧ clF p n w T a ≤ 1 := by
  unfold clF
  split <;> split <;> omega
theorem clF_congr {p n w : Int} {T T' : Int → Int} (hn : 2 ≤ n ∧ n ≤ 4) (hT : ∀ i j l, 0 ≤ i → i < n → 0 ≤ j → j < n → 0 ≤ l → l < n → T (16 * i + 4 * j + l) = T' (16 * i + 4 * j + l)) (a : Int) : clF p n w T a = clF p n w T' a := by
  unfold clF
  simp only [pcC_congr hn hT, fpC_congr hn hT]
theorem m_classes {d : Nat} {D p n c k w : Int} {S : Hp} {F : Int → Int} {Q : Vl → Hp → Prop} (h : MC S D p n F) (H0 : n = 0 → Q (0, -2) S) (H1 : n ≠ 0 → ¬ (0 ≤ c ∧ c < p) → Q (0, -1) S) (H2 : n ≠ 0 → 0 ≤ c ∧ c < p → ∀ S' L fK dK, opR D S S' → MC S' D p n F → RG S' D c p n (cfF (mvC p c F) n) L fK dK → Q (0, if (0 ≤ k ∧ k ≤ L) ∧ 0 ≤ w ∧ w ≤ 1 then ctL p n (clF p n w (tb1 p n (cfF (mvC p c F) n) (fK k) (dK k) 0)) else -1) S') : Ev (d + 6) 241 [(2, D), (0, c), (0, k), (0, w)] S Q := by
  apply w_Model_classes_0
  refine ⟨h.1.1, m_wrongRing h (fun n0 => ⟨_, rfl, fun z => by omega, fun _ => H0 n0⟩) (fun n0 hc => ⟨_, rfl, fun z => by omega, fun _ => H1 n0 hc⟩) (fun n0 hc S1 L fK dK o mc v r => ⟨fun z => ⟨_, rfl, fun z => by omega, fun _ => ?_⟩, fun hk => ⟨_, rfl, fun _ => m_in ⟨_, rfl, fun y => ⟨mc.1.1, ?_⟩, fun y => ?_⟩, fun y => absurd rfl y⟩⟩)⟩
  · have := H2 n0 hc S1 L fK dK o mc r
    rw [if_neg (fun y => z y.1)] at this
    exact this
  · have hw := i1 y
    have hn : 2 ≤ n ∧ n ≤ 4 := by have := mc.2.2.2.2.1; omega
    have h2 := isPr_b mc.2.2.1
    have pb := pwI_bd h2 n.toNat (by omega)
    refine m_tables mc n0 hc v r hk (fun S2 o2 mc2 r2 e53 tt tb => ⟨rfl, ?_⟩)
    have HH := H2 n0 hc S2 L fK dK (o.tr o2) mc2 r2
    rw [if_pos ⟨hk, hw⟩, show clF p n w (tb1 p n (cfF (mvC p c F) n) (fK k) (dK k) 0) = clF p n w (zG S2 (D + 36)) from funext fun a => (clF_congr hn tt a).symm] at HH
    refine loopU (α := Int) (P := fun a e => At (d + 6) 241 c241_38 [(0, (2, D)), (3, (0, w)), (5, (0, e)), (6, (0, a))] [] S2 Q) (I := fun a e => 0 ≤ a ∧ e = sm a.toNat (clF p n w (zG S2 (D + 36))) ∧ 0 ≤ e ∧ e ≤ a) (pwI p n.toNat) ?_ ?_ 0 0 (by omega) ⟨by omega, rfl, by omega, by omega⟩
    · rintro a e ha ⟨a0, he, e0, e1⟩ hk2
      have fin : ∀ q, q = clF p n w (zG S2 (D + 36)) a → At (d + 6) 241 c241_81 [(0, (2, D)), (3, (0, w)), (6, (0, a))] [(0, q), (0, e)] S2 Q := fun q hq => by
        have b := clF_01 (p := p) (n := n) (w := w) (a := a) (T := zG S2 (D + 36))
        apply w_Model_classes_81
        rw [w32_id (by omega) (by omega), w32_id (by omega) (by omega)]
        rintro _ rfl _ rfl
        refine hk2 _ ⟨by omega, ?_, by omega, by omega⟩
        rw [show (a + 1).toNat = a.toNat + 1 by omega, sm_succ, show ((a.toNat : Nat) : Int) = a by omega, he, hq]
      unfold clF at fin
      apply w_Model_classes_38
      rw [e53]
      refine ⟨mc2.1.1, fun z => by omega, fun _ => ⟨fun w0 => ⟨mc2.1.1, ?_⟩, fun w0 => ⟨mc2.1.1, ?_⟩⟩⟩
      · rw [if_neg w0] at fin
        refine m_powerClass mc2.1 mc2.2.1 h2 mc2.2.2.2.1 hn (by omega) tb ⟨_, rfl, fun q => ?_, fun q => ?_⟩
        · apply w_Model_classes_80
          exact fin 0 (if_neg q).symm
        · apply w_Model_classes_76
          exact fin 1 (if_pos (Decidable.not_not.mp q)).symm
      · rw [if_pos (Decidable.not_not.mp w0)] at fin
        refine m_isNil mc2.1 mc2.2.1 h2 mc2.2.2.2.1 hn (by omega) tb (fun q => ⟨_, rfl, fun z => by omega, fun _ => ?_⟩) (fun q => ⟨_, rfl, fun _ => ?_, fun z => absurd rfl z⟩)
        · apply w_Model_classes_76
          exact fin 1 (if_pos q).symm
        · apply w_Model_classes_80
          exact fin 0 (if_neg q).symm
    · rintro e ⟨-, he, e0, e1⟩
      apply w_Model_classes_38
      rw [e53]
      refine ⟨mc2.1.1, fun _ => ⟨mc2.1.1, m_logOf mc2.1.1 mc2.2.1 h2 (by omega) ⟨_, rfl, ?_⟩⟩, fun z => absurd (Int.le_refl _) z⟩
      rw [he]
      exact HH
  · have := H2 n0 hc S1 L fK dK o mc r
    rw [if_neg (fun q => i2 y q.2)] at this
    exact this
/-- the class of y - v -/
def lnC (p n : Int) (fig : Int → Int → Int → Int) (dp : Int → Int) (v : Int) : Int := cdF p (fun l => shN p n dp fig (lnE p v) l 0) n.toNat 0
