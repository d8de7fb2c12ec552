section ZW2
variable {Γ : ZG} {p : Program} {l : Launch} {e : Env} {R : Room} {s : State} {m : MethodId} {args : Array Value} {below : List Frame} {meth : Method} {c : Code} {Z : State → Prop} {mi pc : Nat} {ls : Lc} {st : List Vl} {S : Hp}
theorem cv_ref (Γ : ZG) (x : Int) : cv Γ (2, x) = .null ∨ ∃ a, cv Γ (2, x) = .ref a := by
  show va_rf (if x = 0 then none else some (zAd Γ x)) = .null ∨ ∃ a, va_rf (if x = 0 then none else some (zAd Γ x)) = .ref a
  split
  · exact Or.inl rfl
  · exact Or.inr ⟨_, rfl⟩
theorem cv_at (Γ : ZG) {x : Int} (h : ¬ x = 0) : cv Γ (2, x) = .ref (zAd Γ x) := by
  show va_rf (if x = 0 then none else some (zAd Γ x)) = _
  rw [if_neg h]
  rfl
theorem zw_iload_n {k : Fin 4} {x : Int} (hC : zCx Γ p s m args meth c mi) (hd : decode (zB mi) pc = .ok (.iload_n k, 1)) (hv : lk ls k = some (0, x)) (kk : zW Γ p l e R s m args below meth c Z mi (pc + 1) ls ((0, x) :: st) S) : zW Γ p l e R s m args below meth c Z mi pc ls st S := by
  intro H locs cells slots lsA h
  obtain ⟨h1, h2⟩ := h.at hv (by omega)
  exact lv_iload_n hC.1 hC.2.1 hd rfl h1 (kk H locs cells slots lsA (h.st (ok_cons h2 h.ok)))
theorem zw_iload {k : Nat} {x : Int} (hC : zCx Γ p s m args meth c mi) (hd : decode (zB mi) pc = .ok (.iload k, 2)) (hk : k < 1000) (hv : lk ls k = some (0, x)) (kk : zW Γ p l e R s m args below meth c Z mi (pc + 2) ls ((0, x) :: st) S) : zW Γ p l e R s m args below meth c Z mi pc ls st S := by
  intro H locs cells slots lsA h
  obtain ⟨h1, h2⟩ := h.at hv hk
  exact lv_iload hC.1 hC.2.1 hd h1 (kk H locs cells slots lsA (h.st (ok_cons h2 h.ok)))
theorem zw_lload_n {k : Fin 4} {x : Int} (hC : zCx Γ p s m args meth c mi) (hd : decode (zB mi) pc = .ok (.lload_n k, 1)) (hv : lk ls k = some (1, x)) (kk : zW Γ p l e R s m args below meth c Z mi (pc + 1) ls ((1, x) :: st) S) : zW Γ p l e R s m args below meth c Z mi pc ls st S := by
  intro H locs cells slots lsA h
  obtain ⟨h1, h2⟩ := h.at hv (by omega)
  exact lv_lload_n hC.1 hC.2.1 hd rfl h1 (kk H locs cells slots lsA (h.st (ok_cons h2 h.ok)))
theorem zw_lload {k : Nat} {x : Int} (hC : zCx Γ p s m args meth c mi) (hd : decode (zB mi) pc = .ok (.lload k, 2)) (hk : k < 1000) (hv : lk ls k = some (1, x)) (kk : zW Γ p l e R s m args below meth c Z mi (pc + 2) ls ((1, x) :: st) S) : zW Γ p l e R s m args below meth c Z mi pc ls st S := by
  intro H locs cells slots lsA h
  obtain ⟨h1, h2⟩ := h.at hv hk
  exact lv_lload hC.1 hC.2.1 hd h1 (kk H locs cells slots lsA (h.st (ok_cons h2 h.ok)))
theorem zw_aload_n {k : Fin 4} {x : Int} (hC : zCx Γ p s m args meth c mi) (hd : decode (zB mi) pc = .ok (.aload_n k, 1)) (hv : lk ls k = some (2, x)) (kk : zW Γ p l e R s m args below meth c Z mi (pc + 1) ls ((2, x) :: st) S) : zW Γ p l e R s m args below meth c Z mi pc ls st S := by
  intro H locs cells slots lsA h
  obtain ⟨h1, h2⟩ := h.at hv (by omega)
  have hk := kk H locs cells slots lsA (h.st (ok_cons h2 h.ok))
  rw [List.map_cons] at hk
  rcases cv_ref Γ x with q | ⟨a, q⟩
  · rw [q] at h1 hk
    exact lv_aload_nN hC.1 hC.2.1 hd rfl h1 hk
  · rw [q] at h1 hk
    exact lv_aload_n hC.1 hC.2.1 hd rfl h1 hk
theorem zw_aload {k : Nat} {x : Int} (hC : zCx Γ p s m args meth c mi) (hd : decode (zB mi) pc = .ok (.aload k, 2)) (hk9 : k < 1000) (hv : lk ls k = some (2, x)) (kk : zW Γ p l e R s m args below meth c Z mi (pc + 2) ls ((2, x) :: st) S) : zW Γ p l e R s m args below meth c Z mi pc ls st S := by
  intro H locs cells slots lsA h
  obtain ⟨h1, h2⟩ := h.at hv hk9
  have hk := kk H locs cells slots lsA (h.st (ok_cons h2 h.ok))
  rw [List.map_cons] at hk
  rcases cv_ref Γ x with q | ⟨a, q⟩
  · rw [q] at h1 hk
    exact lv_aloadN hC.1 hC.2.1 hd h1 hk
  · rw [q] at h1 hk
    exact lv_aload hC.1 hC.2.1 hd h1 hk
/-- the locals with one more stored -/
theorem zSd.up1 {v : Vl} {H : Heap} {locs : List Loc} {cells slots : Nat} {lsA lsB : Array Slot} {k : Nat} (h : zSd Γ R s mi ls (v :: st) S H locs cells slots lsA) (hk : k < 1000) (hl : lv_has lsB (zMx mi) (cvL Γ (up1 ls k v))) : zSd Γ R s mi (up1 ls k v) st S H locs cells slots lsB :=
  ⟨h.1, h.2.1, hl, ok_tl h.ok, fun q hq => by
    rcases up1_mem hq with rfl | hq
    · exact ok_hd h.ok
    · exact h.2.2.2.2.1 q hq, h.2.2.2.2.2.sub (fun q hq h9 => by
    rcases up1_mem hq with rfl | hq
    · exact absurd h9 (Nat.not_le.mpr hk)
    · exact hq)⟩
theorem zSd.up2 {v : Vl} {H : Heap} {locs : List Loc} {cells slots : Nat} {lsA lsB : Array Slot} {k : Nat} (h : zSd Γ R s mi ls (v :: st) S H locs cells slots lsA) (hk : k < 1000) (hl : lv_has lsB (zMx mi) (cvL Γ (up2 ls k v))) : zSd Γ R s mi (up2 ls k v) st S H locs cells slots lsB :=
  ⟨h.1, h.2.1, hl, ok_tl h.ok, fun q hq => by
    rcases up2_mem hq with rfl | hq
    · exact ok_hd h.ok
    · exact h.2.2.2.2.1 q hq, h.2.2.2.2.2.sub (fun q hq h9 => by
    rcases up2_mem hq with rfl | hq
    · exact absurd h9 (Nat.not_le.mpr hk)
    · exact hq)⟩
theorem zw_istore_n {k : Fin 4} {x : Int} (hC : zCx Γ p s m args meth c mi) (hd : decode (zB mi) pc = .ok (.istore_n k, 1)) (hn : k.val < zMx mi) (kk : zW Γ p l e R s m args below meth c Z mi (pc + 1) (up1 ls k (0, x)) st S) : zW Γ p l e R s m args below meth c Z mi pc ls ((0, x) :: st) S := by
  intro H locs cells slots lsA h
  have hk : k.val < 1000 := by omega
  exact lv_istore_n hC.1 hC.2.1 hd rfl h.2.2.1 hn (cvL_up1 Γ ls k.val (0, x) hk) (fun lsB hl => kk H locs cells slots lsB (h.up1 hk hl))
theorem zw_istore {k : Nat} {x : Int} (hC : zCx Γ p s m args meth c mi) (hd : decode (zB mi) pc = .ok (.istore k, 2)) (hk : k < 1000) (hn : k < zMx mi) (kk : zW Γ p l e R s m args below meth c Z mi (pc + 2) (up1 ls k (0, x)) st S) : zW Γ p l e R s m args below meth c Z mi pc ls ((0, x) :: st) S := by
  intro H locs cells slots lsA h
  exact lv_istore hC.1 hC.2.1 hd h.2.2.1 hn (cvL_up1 Γ ls k (0, x) hk) (fun lsB hl => kk H locs cells slots lsB (h.up1 hk hl))
theorem zw_lstore_n {k : Fin 4} {x : Int} (hC : zCx Γ p s m args meth c mi) (hd : decode (zB mi) pc = .ok (.lstore_n k, 1)) (hn : k.val + 1 < zMx mi) (kk : zW Γ p l e R s m args below meth c Z mi (pc + 1) (up2 ls k (1, x)) st S) : zW Γ p l e R s m args below meth c Z mi pc ls ((1, x) :: st) S := by
  intro H locs cells slots lsA h
  have hk : k.val < 1000 := by omega
  exact lv_lstore_n hC.1 hC.2.1 hd rfl h.2.2.1 hn (cvL_up2 Γ ls k.val (1, x) hk) (fun lsB hl => kk H locs cells slots lsB (h.up2 hk hl))
theorem zw_lstore {k : Nat} {x : Int} (hC : zCx Γ p s m args meth c mi) (hd : decode (zB mi) pc = .ok (.lstore k, 2)) (hk : k < 1000) (hn : k + 1 < zMx mi) (kk : zW Γ p l e R s m args below meth c Z mi (pc + 2) (up2 ls k (1, x)) st S) : zW Γ p l e R s m args below meth c Z mi pc ls ((1, x) :: st) S := by
  intro H locs cells slots lsA h
  exact lv_lstore hC.1 hC.2.1 hd h.2.2.1 hn (cvL_up2 Γ ls k (1, x) hk) (fun lsB hl => kk H locs cells slots lsB (h.up2 hk hl))
theorem zw_astore_n {k : Fin 4} {x : Int} (hC : zCx Γ p s m args meth c mi) (hd : decode (zB mi) pc = .ok (.astore_n k, 1)) (hn : k.val < zMx mi) (kk : zW Γ p l e R s m args below meth c Z mi (pc + 1) (up1 ls k (2, x)) st S) : zW Γ p l e R s m args below meth c Z mi pc ls ((2, x) :: st) S := by
  intro H locs cells slots lsA h
  have hk : k.val < 1000 := by omega
  have hu := cvL_up1 Γ ls k.val (2, x) hk
  rw [List.map_cons]
  rcases cv_ref Γ x with q | ⟨a, q⟩
  · rw [q] at hu ⊢
    exact lv_astore_nN hC.1 hC.2.1 hd rfl h.2.2.1 hn hu (fun lsB hl => kk H locs cells slots lsB (h.up1 hk hl))
  · rw [q] at hu ⊢
    exact lv_astore_n hC.1 hC.2.1 hd rfl h.2.2.1 hn hu (fun lsB hl => kk H locs cells slots lsB (h.up1 hk hl))
theorem zw_astore {k : Nat} {x : Int} (hC : zCx Γ p s m args meth c mi) (hd : decode (zB mi) pc = .ok (.astore k, 2)) (hk : k < 1000) (hn : k < zMx mi) (kk : zW Γ p l e R s m args below meth c Z mi (pc + 2) (up1 ls k (2, x)) st S) : zW Γ p l e R s m args below meth c Z mi pc ls ((2, x) :: st) S := by
  intro H locs cells slots lsA h
  have hu := cvL_up1 Γ ls k (2, x) hk
  rw [List.map_cons]
  rcases cv_ref Γ x with q | ⟨a, q⟩
  · rw [q] at hu ⊢
    exact lv_astoreN hC.1 hC.2.1 hd h.2.2.1 hn hu (fun lsB hl => kk H locs cells slots lsB (h.up1 hk hl))
  · rw [q] at hu ⊢
    exact lv_astore hC.1 hC.2.1 hd h.2.2.1 hn hu (fun lsB hl => kk H locs cells slots lsB (h.up1 hk hl))
theorem zw_iinc {k : Nat} {n x : Int} (hC : zCx Γ p s m args meth c mi) (hd : decode (zB mi) pc = .ok (.iinc k n, 3)) (hk : k < 1000) (hn : k < zMx mi) (hv : lk ls k = some (0, x)) (kk : zW Γ p l e R s m args below meth c Z mi (pc + 3) (up1 ls k (0, w32 (x + n))) st S) : zW Γ p l e R s m args below meth c Z mi pc ls st S := by
  intro H locs cells slots lsA h
  obtain ⟨i9, hi9⟩ := List.getElem?_of_mem (cvL_mem (Γ := Γ) (lk_mem hv) hk)
  refine lv_iinc (v := Int32.ofInt (w32 (x + n))) hC.1 hC.2.1 hd h.2.2.1 hi9 (by rw [o32w, Int32.ofInt_add]) hn (cvL_up1 Γ ls k (0, w32 (x + n)) hk) (fun lsB hl => kk H locs cells slots lsB ?_)
  exact zSd.up1 (v := (0, w32 (x + n))) (lsA := lsA) (h.st (ok_cons (okV0 (w32_in _)) h.ok)) hk hl
theorem zw_iconst {n : Int} (hC : zCx Γ p s m args meth c mi) (hd : decode (zB mi) pc = .ok (.iconst n, 1)) (h0 : in32 n) (k : zW Γ p l e R s m args below meth c Z mi (pc + 1) ls ((0, n) :: st) S) : zW Γ p l e R s m args below meth c Z mi pc ls st S :=
  zw_st (st' := (0, n) :: st) (fun h => ok_cons (okV0 h0) h) (fun _ _ _ _ _ _ q => lv_iconst hC.1 hC.2.1 hd rfl q) k
theorem o8 {n : Int} (h1 : -128 ≤ n) (h2 : n < 128) : (Int8.ofInt n).toInt32 = Int32.ofInt n := Int32.toInt_inj.mp (by
  rw [Int8.toInt_toInt32, Int8.toInt_ofInt_of_le (by omega) (by omega), t32 ⟨by omega, by omega⟩])
theorem o16 {n : Int} (h1 : -32768 ≤ n) (h2 : n < 32768) : (Int16.ofInt n).toInt32 = Int32.ofInt n := Int32.toInt_inj.mp (by
  rw [Int16.toInt_toInt32, Int16.toInt_ofInt_of_le (by omega) (by omega), t32 ⟨by omega, by omega⟩])
theorem zw_bipush {n : Int} (hC : zCx Γ p s m args meth c mi) (hd : decode (zB mi) pc = .ok (.bipush n, 2)) (h1 : -128 ≤ n) (h2 : n < 128) (k : zW Γ p l e R s m args below meth c Z mi (pc + 2) ls ((0, n) :: st) S) : zW Γ p l e R s m args below meth c Z mi pc ls st S :=
  zw_st (st' := (0, n) :: st) (fun h => ok_cons (okV0 ⟨by omega, by omega⟩) h) (fun _ _ _ _ _ _ q => lv_bipush hC.1 hC.2.1 hd (o8 h1 h2) q) k
theorem zw_sipush {n : Int} (hC : zCx Γ p s m args meth c mi) (hd : decode (zB mi) pc = .ok (.sipush n, 3)) (h1 : -32768 ≤ n) (h2 : n < 32768) (k : zW Γ p l e R s m args below meth c Z mi (pc + 3) ls ((0, n) :: st) S) : zW Γ p l e R s m args below meth c Z mi pc ls st S :=
  zw_st (st' := (0, n) :: st) (fun h => ok_cons (okV0 ⟨by omega, by omega⟩) h) (fun _ _ _ _ _ _ q => lv_sipush hC.1 hC.2.1 hd (o16 h1 h2) q) k
theorem zw_lconst {n : Fin 2} (hC : zCx Γ p s m args meth c mi) (hd : decode (zB mi) pc = .ok (.lconst n, 1)) (k : zW Γ p l e R s m args below meth c Z mi (pc + 1) ls ((1, (n.val : Int)) :: st) S) : zW Γ p l e R s m args below meth c Z mi pc ls st S :=
  zw_st (st' := (1, (n.val : Int)) :: st) (fun h => ok_cons (okV1 ⟨by omega, by omega⟩) h) (fun _ _ _ _ _ _ q => lv_lconst hC.1 hC.2.1 hd Int64.ofInt_eq_ofNat.symm q) k
theorem zw_ldc {idx : Nat} {v : Int} (hC : zCx Γ p s m args meth c mi) (hd : decode (zB mi) pc = .ok (.ldc idx, 2)) (hw : Cond.constant (zCn (zOn mi)) idx (Int32.ofInt v) ∈ gw) (h0 : in32 v) (k : zW Γ p l e R s m args below meth c Z mi (pc + 2) ls ((0, v) :: st) S) : zW Γ p l e R s m args below meth c Z mi pc ls st S :=
  zw_st (st' := (0, v) :: st) (fun h => ok_cons (okV0 h0) h) (fun _ _ _ _ _ _ q => lv_ldc hC.1 hC.2.1 hC.2.2.2.2.1 (hC.2.2.2.2.2.1 _ hw) hd q) k
theorem zw_ldc2 {idx : Nat} {v : Int} (hC : zCx Γ p s m args meth c mi) (hd : decode (zB mi) pc = .ok (.ldc2_w idx, 3)) (hw : Cond.constantLong (zCn (zOn mi)) idx (Int64.ofInt v) ∈ gw) (h0 : in64 v) (k : zW Γ p l e R s m args below meth c Z mi (pc + 3) ls ((1, v) :: st) S) : zW Γ p l e R s m args below meth c Z mi pc ls st S :=
  zw_st (st' := (1, v) :: st) (fun h => ok_cons (okV1 h0) h) (fun _ _ _ _ _ _ q => lv_ldc2 hC.1 hC.2.1 hC.2.2.2.2.1 (hC.2.2.2.2.2.1 _ hw) hd q) k
theorem zw_dup {v : Vl} (hC : zCx Γ p s m args meth c mi) (hd : decode (zB mi) pc = .ok (.dup, 1)) (hv : ct v = 1) (k : zW Γ p l e R s m args below meth c Z mi (pc + 1) ls (v :: v :: st) S) : zW Γ p l e R s m args below meth c Z mi pc ls (v :: st) S :=
  zw_st (st' := v :: v :: st) (fun h => ok_cons (ok_hd h) h) (fun _ _ _ _ _ _ q => lv_dup hC.1 hC.2.1 hd (by rw [cv_cat]; exact hv) q) k
theorem zw_dup2 {v w : Vl} (hC : zCx Γ p s m args meth c mi) (hd : decode (zB mi) pc = .ok (.dup2, 1)) (hv : ct v = 1) (hw : ct w = 1) (k : zW Γ p l e R s m args below meth c Z mi (pc + 1) ls (v :: w :: v :: w :: st) S) : zW Γ p l e R s m args below meth c Z mi pc ls (v :: w :: st) S :=
  zw_st (st' := v :: w :: v :: w :: st) (fun h => ok_cons (ok_hd h) (ok_cons (ok_hd (ok_tl h)) h)) (fun _ _ _ _ _ _ q => lv_dup2_11 hC.1 hC.2.1 hd (by rw [cv_cat]; exact hv) (by rw [cv_cat]; exact hw) q) k
theorem zw_pop {v : Vl} (hC : zCx Γ p s m args meth c mi) (hd : decode (zB mi) pc = .ok (.pop, 1)) (hv : ct v = 1) (k : zW Γ p l e R s m args below meth c Z mi (pc + 1) ls st S) : zW Γ p l e R s m args below meth c Z mi pc ls (v :: st) S :=
  zw_st (st' := st) (fun h => ok_tl h) (fun _ _ _ _ _ _ q => lv_pop hC.1 hC.2.1 hd (by rw [cv_cat]; exact hv) q) k
theorem zw_goto {off : Int} {tgt : Nat} (hC : zCx Γ p s m args meth c mi) (hd : decode (zB mi) pc = .ok (.goto off, 3)) (ht : (pc : Int) + off = (tgt : Int)) (k : zW Γ p l e R s m args below meth c Z mi tgt ls st S) : zW Γ p l e R s m args below meth c Z mi pc ls st S :=
  zw_st (st' := st) (fun h => h) (fun _ _ _ _ _ _ q => lv_goto hC.1 hC.2.1 hd ht q) k
theorem zw_if {cd : Jvm.ClassFile.Cond} {off : Int} {tgt : Nat} {x : Int} (hC : zCx Γ p s m args meth c mi) (hd : decode (zB mi) pc = .ok (.ifCond cd off, 3)) (ht : (pc : Int) + off = (tgt : Int)) (k : cnd cd x 0 → zW Γ p l e R s m args below meth c Z mi tgt ls st S) (k' : ¬ cnd cd x 0 → zW Γ p l e R s m args below meth c Z mi (pc + 3) ls st S) : zW Γ p l e R s m args below meth c Z mi pc ls ((0, x) :: st) S := by
  intro H locs cells slots lsA h
  have hx : in32 x := (ok_hd h.ok).1 rfl
  have e0 : (0 : Int32) = Int32.ofInt 0 := rfl
  have kt := fun q => k q H locs cells slots lsA (h.st (ok_tl h.ok))
  have kf := fun q => k' q H locs cells slots lsA (h.st (ok_tl h.ok))
  cases cd
  · exact lv_if_eq hC.1 hC.2.1 hd ht (fun q => kt ((o32_inj hx in32_0).mp (by rw [← e0]; exact q))) (fun q => kf (fun z => q (by rw [e0]; exact (o32_inj hx in32_0).mpr z)))
  · exact lv_if_ne hC.1 hC.2.1 hd ht (fun q => kt (fun z => q (by rw [e0]; exact (o32_inj hx in32_0).mpr z))) (fun q => kf (fun z => z ((o32_inj hx in32_0).mp (by rw [← e0]; exact q))))
  · exact lv_if_lt hC.1 hC.2.1 hd ht (fun q => kt ((o32_lt hx in32_0).mp (by rw [← e0]; exact q))) (fun q => kf (fun z => q (by rw [e0]; exact (o32_lt hx in32_0).mpr z)))
  · exact lv_if_ge hC.1 hC.2.1 hd ht (fun q => kt ((o32_le in32_0 hx).mp (by rw [← e0]; exact q))) (fun q => kf (fun z => q (by rw [e0]; exact (o32_le in32_0 hx).mpr z)))
  · exact lv_if_gt hC.1 hC.2.1 hd ht (fun q => kt ((o32_lt in32_0 hx).mp (by rw [← e0]; exact q))) (fun q => kf (fun z => q (by rw [e0]; exact (o32_lt in32_0 hx).mpr z)))
  · exact lv_if_le hC.1 hC.2.1 hd ht (fun q => kt ((o32_le hx in32_0).mp (by rw [← e0]; exact q))) (fun q => kf (fun z => q (by rw [e0]; exact (o32_le hx in32_0).mpr z)))
theorem zw_icmp {cd : Jvm.ClassFile.Cond} {off : Int} {tgt : Nat} {x y : Int} (hC : zCx Γ p s m args meth c mi) (hd : decode (zB mi) pc = .ok (.if_icmp cd off, 3)) (ht : (pc : Int) + off = (tgt : Int)) (k : cnd cd x y → zW Γ p l e R s m args below meth c Z mi tgt ls st S) (k' : ¬ cnd cd x y → zW Γ p l e R s m args below meth c Z mi (pc + 3) ls st S) : zW Γ p l e R s m args below meth c Z mi pc ls ((0, y) :: (0, x) :: st) S := by
  intro H locs cells slots lsA h
  have hy : in32 y := (ok_hd h.ok).1 rfl
  have hx : in32 x := (ok_hd (ok_tl h.ok)).1 rfl
  have kt := fun q => k q H locs cells slots lsA (h.st (ok_tl (ok_tl h.ok)))
  have kf := fun q => k' q H locs cells slots lsA (h.st (ok_tl (ok_tl h.ok)))
  cases cd
  · exact lv_icmp_eq hC.1 hC.2.1 hd ht (fun q => kt ((o32_inj hx hy).mp q)) (fun q => kf (fun z => q ((o32_inj hx hy).mpr z)))
  · exact lv_icmp_ne hC.1 hC.2.1 hd ht (fun q => kt (fun z => q ((o32_inj hx hy).mpr z))) (fun q => kf (fun z => z ((o32_inj hx hy).mp q)))
  · exact lv_icmp_lt hC.1 hC.2.1 hd ht (fun q => kt ((o32_lt hx hy).mp q)) (fun q => kf (fun z => q ((o32_lt hx hy).mpr z)))
  · exact lv_icmp_ge hC.1 hC.2.1 hd ht (fun q => kt ((o32_le hy hx).mp q)) (fun q => kf (fun z => q ((o32_le hy hx).mpr z)))
  · exact lv_icmp_gt hC.1 hC.2.1 hd ht (fun q => kt ((o32_lt hy hx).mp q)) (fun q => kf (fun z => q ((o32_lt hy hx).mpr z)))
  · exact lv_icmp_le hC.1 hC.2.1 hd ht (fun q => kt ((o32_le hx hy).mp q)) (fun q => kf (fun z => q ((o32_le hx hy).mpr z)))
end ZW2
