theorem zRep.multi {Γ : ZG} {S : Hp} {H H' : Heap} (h : zRep Γ S H) (hT : zT S = 1) (hl : zLow Γ) (hz : H'.size = H.size + 16) (ho : ∀ q, q < H.size → H'[q]? = H[q]?) (hc : H'[H.size]? = some (arrV (Γ.2.2.1 7) 15 (fun j => va_rf (if j < 15 then some (H.size + 1 + j) else none)))) (hi : ∀ j : Nat, j < 15 → H'[H.size + 1 + j]? = some (arrV (Γ.2.2.1 0) 49 (fun _ => .int 0))) : zRep Γ (zM S 15 49) H' := by
  obtain ⟨⟨f0, f1, f2, f3⟩, h1, h2, h3, h4, h5, h6⟩ := h
  have e0 : zN (zM S 15 49) = zN S + 1 + 15 := rfl
  have eK : ∀ b, zK (zM S 15 49) b = if b = zN S then 108 else if zN S < b ∧ b ≤ zN S + 15 then 101 else zK S b := fun b => by
    show (if b = zN S then ((108 : Int), (15 : Int)) else if zN S < b ∧ b ≤ zN S + 15 then (101, 49) else S.1 b).1 = _
    split
    · rfl
    · split <;> rfl
  have eL : ∀ b, zL (zM S 15 49) b = if b = zN S then 15 else if zN S < b ∧ b ≤ zN S + 15 then 49 else zL S b := fun b => by
    show (if b = zN S then ((108 : Int), (15 : Int)) else if zN S < b ∧ b ≤ zN S + 15 then (101, 49) else S.1 b).2 = _
    split
    · rfl
    · split <;> rfl
  have eG : ∀ b j, zG (zM S 15 49) b j = if b = zN S then (if 0 ≤ j ∧ j < 15 then zN S + 1 + j else 0) else if zN S < b ∧ b ≤ zN S + 15 then 0 else zG S b j := fun b j => rfl
  have hsz := h3 hT
  have hold : ∀ a, ¬ zK S a = 0 → ¬ a = zN S ∧ ¬ (zN S < a ∧ a ≤ zN S + 15) := fun a ha => by
    have := f1 a ha
    exact ⟨by omega, by omega⟩
  refine ⟨⟨by omega, fun a ha => ?_, fun a ha => ?_, fun a j ha hj => ?_⟩, fun a ha => ?_, by rw [e0, hz]; omega, fun _ => by rw [e0, hz]; omega, ?_, ?_, ?_⟩
  · rw [eK] at ha ⊢
    rw [e0]
    by_cases q : a = zN S
    · rw [if_pos q]
      exact ⟨by omega, by omega, Or.inr ⟨by omega, by omega⟩⟩
    · rw [if_neg q] at ha ⊢
      by_cases q2 : zN S < a ∧ a ≤ zN S + 15
      · rw [if_pos q2]
        exact ⟨by omega, by omega, Or.inr ⟨by omega, by omega⟩⟩
      · rw [if_neg q2] at ha ⊢
        have := f1 a ha
        exact ⟨this.1, by omega, this.2.2⟩
  · rw [eK] at ha
    rw [eL]
    by_cases q : a = zN S
    · rw [if_pos q]
      exact ⟨by omega, by omega⟩
    · rw [if_neg q] at ha ⊢
      by_cases q2 : zN S < a ∧ a ≤ zN S + 15
      · rw [if_pos q2]
        exact ⟨by omega, by omega⟩
      · rw [if_neg q2] at ha ⊢
        exact f2 a ha
  · rw [eK] at ha ⊢
    rw [eG]
    by_cases q : a = zN S
    · rw [if_pos q]
      exact ⟨fun z => (by rcases z with z | z <;> cases z), fun z => (by cases z)⟩
    · rw [if_neg q] at ha
      rw [if_neg q, if_neg q]
      by_cases q2 : zN S < a ∧ a ≤ zN S + 15
      · rw [if_pos q2, if_pos q2]
        exact ⟨fun _ => in32_0, fun _ => ⟨by decide, by decide⟩⟩
      · rw [if_neg q2] at ha
        rw [if_neg q2, if_neg q2]
        exact f3 a j ha hj
  · by_cases q : a = zN S
    · have ek : zK (zM S 15 49) a = 108 := by rw [eK, if_pos q]
      refine ⟨fun z => by omega, fun _ => ?_⟩
      have had : zAd Γ a = H.size := by rw [zAd_pos Γ (by omega), hsz, q]
      rw [had, hc, ek, eL, if_pos q]
      congr 2
      funext j
      show _ = cv Γ (tg (zPl (zK (zM S 15 49) a) j), zG (zM S 15 49) a j)
      rw [ek, eG, if_pos q]
      show _ = va_rf (if (if 0 ≤ (j : Int) ∧ (j : Int) < 15 then zN S + 1 + (j : Int) else 0) = 0 then none else some (zAd Γ (if 0 ≤ (j : Int) ∧ (j : Int) < 15 then zN S + 1 + (j : Int) else 0)))
      by_cases hj : j < 15
      · rw [if_pos hj, if_pos (⟨by omega, by omega⟩ : 0 ≤ (j : Int) ∧ (j : Int) < 15), if_neg (by omega), zAd_pos Γ (by omega), hsz]
        congr 2
        omega
      · rw [if_neg hj, if_neg (show ¬ (0 ≤ (j : Int) ∧ (j : Int) < 15) by omega), if_pos rfl]
    · by_cases q2 : zN S < a ∧ a ≤ zN S + 15
      · have ek : zK (zM S 15 49) a = 101 := by rw [eK, if_neg q, if_pos q2]
        refine ⟨fun z => by omega, fun _ => ?_⟩
        have had : zAd Γ a = H.size + 1 + (a - zN S - 1).toNat := by rw [zAd_pos Γ (by omega), hsz]; omega
        rw [had, hi _ (by omega), ek, eL, if_neg q, if_pos q2]
        congr 2
        funext j
        show _ = cv Γ (tg (zPl (zK (zM S 15 49) a) j), zG (zM S 15 49) a j)
        rw [ek, eG, if_neg q, if_pos q2]
        rfl
      · have ha' := ha
        rw [eK, if_neg q, if_neg q2] at ha'
        have := f1 a ha'
        refine (h1 a ha').kept (by rw [eK, if_neg q, if_neg q2]) (by rw [eL, if_neg q, if_neg q2]) (fun j => by rw [eG, if_neg q, if_neg q2]) (ho _ ?_)
        rw [zAd_pos Γ this.1]
        omega
  · obtain ⟨g1, g2, g3⟩ := h4
    have q : ¬ (-2 : Int) = zN S := by omega
    have q2 : ¬ (zN S < (-2 : Int) ∧ (-2 : Int) ≤ zN S + 15) := by omega
    refine ⟨by rw [eL, if_neg q, if_neg q2]; exact g1, by rw [eL, if_neg q, if_neg q2]; exact g2, fun j j0 j1 => ?_⟩
    rw [eL, if_neg q, if_neg q2] at j1
    rw [eG, if_neg q, if_neg q2]
    exact g3 j j0 j1
  · rw [ho _ (by have := hl.1; omega)]
    exact h5
  · rw [ho _ (by have := hl.2; omega)]
    exact h6
section ZW6
variable {Γ : ZG} {p : Program} {l : Launch} {e : Env} {R : Room} {s : State} {m : MethodId} {args : Array Value} {below : List Frame} {meth : Method} {c : Code} {Z : State → Prop} {mi pc : Nat} {ls : Lc} {st : List Vl} {S : Hp}
theorem zw_multi {cc s9 rc rs : Int} (hC : zCx Γ p s m args meth c mi) (hd : decode (zB mi) pc = .ok (.multianewarray 19 2, 4)) (hon : zOn mi = 8) (h0 : lk ls 1000 = some (0, cc)) (h1 : lk ls 1001 = some (0, s9)) (h2 : lk ls 1002 = some (0, rc)) (h3 : lk ls 1003 = some (0, rs)) (hc0 : cc + (16 : Nat) ≤ rc) (hs0 : s9 + (750 : Nat) ≤ rs) (hT : zT S = 1)
    (kk : zW Γ p l e R s m args below meth c Z mi (pc + 4) (up1 (up1 ls 1000 (0, cc + (16 : Nat))) 1001 (0, s9 + (750 : Nat))) ((2, zN S) :: st) (zM S 15 49)) : zW Γ p l e R s m args below meth c Z mi pc ls ((0, 49) :: (0, 15) :: st) S := by
  intro H locs cells slots lsA h
  have hE := hC.2.2.2.2.2.2.2.2
  have hts := hC.2.2.2.2.2.1
  obtain ⟨r1, r2, r3⟩ := h.2.2.2.2.2.made h0 h1 h2 h3 hc0 hs0
  have had := zAd_new h.1 hT
  have hown := hC.2.2.2.2.1
  rw [hon] at hown
  intro T hT9 Xs
  obtain ⟨vm₁, cA, comp, -, fA, fC, hO, -, X', step⟩ := Xs.multianewarray2F hC.1 hown (index := 19) (ty := .int) (hts _ zW_clI) (va_AOA.use hE.2.2.2.1) (hts _ zW_ac_int) (g := F0 m pc lsA (List.map (cv Γ) ((0, 49) :: (0, 15) :: st))) rfl (by rw [hC.2.1]; exact hd) (n := 15) (k := 49) rfl (by decide) (by decide) (by decide) (by decide) (by decide) (by decide) (by decide) r1 r2
  have e15 : (15 : Int32).toNatClampNeg = 15 := by decide
  have e49 : (49 : Int32).toNatClampNeg = 49 := by decide
  rw [e15, e49] at X' step
  have hRA7 : s.vm.findClass ("[" ++ (FieldType.array .int).toString) = some (Γ.2.2.1 7) := (hE.1.2 7 _ (zTys_at Γ (by decide))).2
  have hRA0 : s.vm.findClass ("[" ++ FieldType.int.toString) = some (Γ.2.2.1 0) := (hE.1.2 0 _ (zTys_at Γ (by decide))).2
  have ecA : cA = Γ.2.2.1 7 := Option.some.inj (fA.symm.trans hRA7)
  have ec0 : comp = Γ.2.2.1 0 := Option.some.inj (fC.symm.trans hRA0)
  subst ecA
  subst ec0
  generalize hF : Jvm.Free.Multi.fill (T.setVm vm₁) (Γ.2.2.1 7) (Γ.2.2.1 0) 15 49 (defaultValue .int) 15 = F at X' step
  have hTh : (T.setVm vm₁).heap = H := hT9
  obtain ⟨f1, f2, -, -⟩ := Jvm.Free.Multi.fill_facts (T.setVm vm₁) (Γ.2.2.1 7) (Γ.2.2.1 0) 15 49 (defaultValue .int) 15
  rw [hF, hTh] at f1 f2
  have hold : ∀ x : Nat, x < H.size → F.heap[x]? = H[x]? := fun x hx => by
    have := Jvm.Free.Multi.fill_old (T.setVm vm₁) (Γ.2.2.1 7) (Γ.2.2.1 0) 15 49 (defaultValue .int) (a := x) (by rw [hTh]; exact hx) 15
    rw [hF, hTh] at this
    exact this
  have hrow : ∀ j : Nat, j < 15 → F.heap[H.size + 1 + j]? = some (arrV (Γ.2.2.1 0) 49 (fun _ => .int 0)) := fun j hj => by
    have := Jvm.Free.Multi.fill_inner (T.setVm vm₁) (Γ.2.2.1 7) (Γ.2.2.1 0) 15 49 (defaultValue .int) 15 j hj
    rw [hF, hTh] at this
    rw [this]
    congr 1
  rw [vr_outer] at f2
  obtain ⟨s1, s2, s3⟩ := h.2.1
  obtain ⟨t, a1, b1⟩ := kk F.heap locs (cells + 16) (slots + 750) lsA ⟨h.1.multi hT hE.2.2.2.2.2.2.1 (by rw [f1]) hold f2 hrow, ⟨by rw [f1]; omega, fun x x1 x2 => by rw [hold x (by omega)]; exact s2 x x1 x2, s3⟩, h.2.2.1.mem (cvL_sub (fun q hq h9 => by
    rcases up_cnt hq with rfl | rfl | hq
    · exact absurd (show (1001 : Nat) < 1000 from h9) (by decide)
    · exact absurd (show (1000 : Nat) < 1000 from h9) (by decide)
    · exact hq.1)), ok_cons (okV2 _) (ok_tl (ok_tl h.ok)), fun q hq => by
    have g5 := h.2.2.2.2.2
    have k0 := g5.2.2.1 cc (lk_mem h0)
    have k1 := g5.2.2.2.1 s9 (lk_mem h1)
    have o2a : rc < 2147483648 := ((h.2.2.2.2.1 _ (lk_mem h2)).1 rfl).2
    have o3a : rs < 2147483648 := ((h.2.2.2.2.1 _ (lk_mem h3)).1 rfl).2
    rcases up_cnt hq with rfl | rfl | hq
    · exact okV0 ⟨by omega, by omega⟩
    · exact okV0 ⟨by omega, by omega⟩
    · exact h.2.2.2.2.1 q hq.1, r3⟩ F rfl X'
  refine ⟨t, step t ?_, b1⟩
  have e : T.heap.size = H.size := by rw [hT9]
  rw [e]
  rw [List.map_cons, cv_at Γ (by have := h.1.1.1; omega), had] at a1
  exact a1
theorem sct_sum (Γ : ZG) (st : List Vl) : (List.map (fun v => v.category) (List.map (cv Γ) st)).sum = sct st := by
  induction st with
  | nil => rfl
  | cons v r ih =>
    rw [List.map_cons, List.map_cons, List.sum_cons, ih, cv_cat]
    rfl
theorem zRep.copy {Γ : ZG} {S : Hp} {H H' : Heap} {a b sp dp n : Int} (h : zRep Γ S H) (hl : zLow Γ) (ha : ¬ zK S a = 0) (hb : ¬ zK S b = 0) (hab : zK S a = zK S b) (hK : 100 ≤ zK S b) (h0 : 0 ≤ sp) (h1 : 0 ≤ dp) (h2 : 0 ≤ n) (hz : H'.size = H.size) (ho : ∀ q, q ≠ zAd Γ b → H'[q]? = H[q]?)
    (hc : H'[zAd Γ b]? = some (arrV (Γ.2.2.1 (zK S b - 101).toNat) (zL S b).toNat (va_cpy (zV Γ S a) (zV Γ S b) sp.toNat dp.toNat n.toNat))) : zRep Γ (zC S a sp b dp n) H' := by
  obtain ⟨⟨f0, f1, f2, f3⟩, g1, g2, g3, g4, g5, g6⟩ := h
  have hp := f1 b hb
  have had : Γ.1.1 ≤ zAd Γ b := by rw [zAd_pos Γ hp.1]; omega
  have pA : ∀ j j', zPl (zK S a) j = zPl (zK S b) j' := fun j j' => by
    rw [hab]
    have q : ¬ zK S b < 100 := by omega
    unfold zPl
    simp only [if_neg q]
  refine ⟨⟨f0, f1, f2, fun x j hx hj => ?_⟩, fun k hk => ?_, by rw [hz]; exact g2, fun q => by rw [hz]; exact g3 q, ?_, ?_, ?_⟩
  · show okP (zPl (zK S x) j) (if x = b ∧ dp ≤ j ∧ j < dp + n then zG S a (sp + (j - dp)) else zG S x j)
    split
    · rename_i q
      obtain ⟨rfl, q1, q2⟩ := q
      have := f3 a (sp + (j - dp)) ha (by omega)
      rw [pA _ j] at this
      exact this
    · exact f3 x j hx hj
  · by_cases q : k = b
    · subst q
      refine ⟨fun z => ?_, fun _ => ?_⟩
      · have z' : zK S k < 100 := z
        omega
      · rw [hc]
        congr 2
        funext j
        unfold va_cpy
        show _ = cv Γ (tg (zPl (zK S k) j), (if k = k ∧ dp ≤ (j : Int) ∧ (j : Int) < dp + n then zG S a (sp + ((j : Int) - dp)) else zG S k j))
        by_cases z : dp.toNat ≤ j ∧ j < dp.toNat + n.toNat
        · rw [if_pos z, if_pos ⟨rfl, by omega, by omega⟩]
          show cv Γ (tg (zPl (zK S a) _), zG S a _) = _
          rw [pA _ (j : Int)]
          congr 2
          congr 1
          omega
        · rw [if_neg z, if_neg (fun z2 => z (by omega))]
          rfl
    · refine (g1 k hk).kept rfl rfl (fun j => ?_) (ho _ (zAd_ne Γ (f1 k hk).1 hp.1 q))
      show (if k = b ∧ dp ≤ (j : Int) ∧ (j : Int) < dp + n then zG S a (sp + ((j : Int) - dp)) else zG S k j) = zG S k j
      rw [if_neg (fun z => q z.1)]
  · obtain ⟨k1, k2, k3⟩ := g4
    refine ⟨k1, k2, fun j j0 j1 => ?_⟩
    have e : zG (zC S a sp b dp n) (-2) j = zG S (-2) j := by
      show (if (-2 : Int) = b ∧ dp ≤ j ∧ j < dp + n then zG S a (sp + (j - dp)) else zG S (-2) j) = _
      rw [if_neg (fun z => by omega)]
    rw [e]
    exact k3 j j0 j1
  · rw [ho _ (by have := hl.1; omega)]
    exact g5
  · rw [ho _ (by have := hl.2; omega)]
    exact g6
theorem zw_copy {idx k : Nat} {a b sp dp n : Int} (hC : zCx Γ p s m args meth c mi) (hd : decode (zB mi) pc = .ok (.invokestatic idx, 3)) (hw : Cond.methodLink (zCn (zOn mi)) idx arraycopyName ∈ gw) (hk : k < 2) (ha : zK S a = (k : Int) + 101) (hb : zK S b = (k : Int) + 101) (h0 : 0 ≤ sp) (h1 : 0 ≤ dp) (h2 : 0 ≤ n) (h4 : sp + n ≤ zL S a) (h5 : dp + n ≤ zL S b) (hs8 : sct st ≤ 8) (hf : 1 ≤ R.frames) (hl64 : 64 ≤ R.locals)
    (kk : zW Γ p l e R s m args below meth c Z mi (pc + 3) ls st (zC S a sp b dp n)) : zW Γ p l e R s m args below meth c Z mi pc ls ((0, n) :: (0, dp) :: (2, b) :: (0, sp) :: (2, a) :: st) S := by
  intro H locs cells slots lsA h
  have hE := hC.2.2.2.2.2.2.2.2
  have hts := hC.2.2.2.2.2.1
  have ha1 : 1 ≤ a := zx_pos h.1 (by omega)
  have hb1 : 1 ≤ b := zx_pos h.1 (by omega)
  have hn32 : in32 n := (ok_hd h.ok).1 rfl
  have hd32 : in32 dp := (ok_hd (ok_tl h.ok)).1 rfl
  have hs32 : in32 sp := (ok_hd (ok_tl (ok_tl (ok_tl h.ok)))).1 rfl
  have hLa := zx_len h.1 (x := a) (by omega)
  have hLb := zx_len h.1 (x := b) (by omega)
  have hc0 := zx_cell h.1 ha
  have hc1 := zx_cell h.1 hb
  have ng : ∀ z : Int, in32 z → 0 ≤ z → ¬ Int32.ofInt z < 0 := fun z hz z0 => by
    rw [show (0 : Int32) = Int32.ofInt 0 from rfl, o32_lt hz in32_0]
    omega
  rw [List.map_cons, List.map_cons, List.map_cons, List.map_cons, List.map_cons, cv_at Γ (x := a) (by omega), cv_at Γ (x := b) (by omega)]
  intro T hT X
  obtain ⟨-, k0, hk0, cm0, hkk0⟩ := zx_arr hE (show k < 8 by omega) (zL S a).toNat (zV Γ S a)
  obtain ⟨-, k1, hk1, cm1, hkk1⟩ := zx_arr hE (show k < 8 by omega) (zL S b).toNat (zV Γ S b)
  have hprim : refKind (zTy k) = false := by
    rcases (show k = 0 ∨ k = 1 by omega) with rfl | rfl <;> rfl
  obtain ⟨vm', X', step⟩ := X.arraycopy hC.1 hC.2.2.2.2.1 (hts _ hw) (hts _ zW_cp1) (hts _ zW_cp2) (hts _ zW_cp3) (src := zAd Γ a) (dst := zAd Γ b) (cs := arrV (Γ.2.2.1 k) (zL S a).toNat (zV Γ S a)) (cd := arrV (Γ.2.2.1 k) (zL S b).toNat (zV Γ S b)) (srcPos := Int32.ofInt sp) (destPos := Int32.ofInt dp) (n := Int32.ofInt n) (by rw [hT]; exact hc0) (by rw [hT]; exact hc1)
    (fun _ h => by cases h) (fun _ h => by cases h) (fun h => by cases h) (fun h => by cases h) hk0 hk1 hkk0 hkk1 (by simp [hprim]) (ng sp hs32 h0) (ng dp hd32 h1) (ng n hn32 h2)
    (by rw [t32 hs32, t32 hn32, arrV_size]; omega)
    (by rw [t32 hd32, t32 hn32, arrV_size]; omega)
    (fun vm₁ _ i hi => by
      rw [o32_clamp hs32]
      rw [o32_clamp hn32] at hi
      have e : (arrV (Γ.2.2.1 k) (zL S a).toNat (zV Γ S a)).slots.getD (sp.toNat + i) .null = zV Γ S a (sp.toNat + i) := by
        rw [Array.getD_eq_getD_getElem?, arrV_read _ _ (by omega)]
        rfl
      rw [e]
      show fits (zTy k) (cv Γ (tg (zPl (zK S a) _), zG S a _)) = true ∧ _
      have e2 : zV Γ S a (sp.toNat + i) = cv Γ (tg (zPl (zK S a) ((sp.toNat + i : Nat) : Int)), zG S a ((sp.toNat + i : Nat) : Int)) := rfl
      rw [e2, ha, zPl_arr]
      rcases (show k = 0 ∨ k = 1 by omega) with rfl | rfl <;> exact ⟨rfl, trivial⟩)
    (g := F0 m pc lsA (.int (Int32.ofInt n) :: .int (Int32.ofInt dp) :: .ref (zAd Γ b) :: .int (Int32.ofInt sp) :: .ref (zAd Γ a) :: List.map (cv Γ) st)) rfl (by rw [hC.2.2.2.1]; exact h.2.2.1.1) (rest := List.map (cv Γ) st) rfl (by rw [hC.2.1]; exact hd) hf (by
      rw [sct_sum]
      have e9 : nativeFrameWords "java/lang/System" "arraycopy" 5 + 11 ≤ 40 := by decide +kernel
      show 2 * 0 + _ + _ ≤ _
      omega)
  have e1 : copied (arrV (Γ.2.2.1 k) (zL S a).toNat (zV Γ S a)) (arrV (Γ.2.2.1 k) (zL S b).toNat (zV Γ S b)) (Int32.ofInt sp) (Int32.ofInt dp) (Int32.ofInt n) = arrV (Γ.2.2.1 k) (zL S b).toNat (va_cpy (zV Γ S a) (zV Γ S b) sp.toNat dp.toNat n.toNat) := by
    have := va_copied (fun z : Value => z) (Γ.2.2.1 k) (Γ.2.2.1 k) (n0 := (zL S a).toNat) (n1 := (zL S b).toNat) (sp := sp.toNat) (dp := dp.toNat) (n := n.toNat) (zV Γ S a) (zV Γ S b) (by omega)
    unfold copied
    rw [o32_clamp hs32, o32_clamp hd32, o32_clamp hn32]
    exact this
  rw [e1] at X' step
  have hl : zAd Γ b < H.size := (Array.getElem?_eq_some_iff.mp hc1).1
  generalize hN : arrV (Γ.2.2.1 k) (zL S b).toNat (va_cpy (zV Γ S a) (zV Γ S b) sp.toNat dp.toNat n.toNat) = N at X' step
  have hheap : ((T.setVm vm').setCell (zAd Γ b) N).heap = H.setIfInBounds (zAd Γ b) N := by rw [← hT]; rfl
  have oq : ∀ q : Nat, q ≠ zAd Γ b → (H.setIfInBounds (zAd Γ b) N)[q]? = H[q]? := fun q hq => by simp [Array.getElem?_setIfInBounds, Ne.symm hq]
  have hA := zA0_ad Γ hb1
  obtain ⟨s1, s2, s3⟩ := h.2.1
  obtain ⟨t, a1, b1⟩ := kk (H.setIfInBounds (zAd Γ b) N) _ cells slots lsA ⟨h.1.copy hE.2.2.2.2.2.2.1 (by omega) (by omega) (by omega) (by omega) h0 h1 h2 (by simp) oq (by
      rw [hb, show ((k : Int) + 101 - 101).toNat = k by omega, hN]
      simp [Array.getElem?_setIfInBounds, hl]), ⟨by simp; exact s1, fun q g1 g2 => by
      rw [oq q (fun e => g2 (by rw [e]; exact hA))]
      exact s2 q g1 g2, fun q hq => by
      rcases List.mem_append.mp hq with h | h
      · exact s3 q h
      · obtain ⟨z, -, hz⟩ := List.mem_map.mp h
        rw [← hz]
        exact hA⟩, h.2.2.1, ok_tl (ok_tl (ok_tl (ok_tl (ok_tl h.ok)))), h.2.2.2.2.1, h.2.2.2.2.2⟩ _ hheap X'
  exact ⟨t, step t a1, b1⟩
end ZW6
