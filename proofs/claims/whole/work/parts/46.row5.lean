/-! What is made: objects, rows, rows of rows; rows copied. -/
theorem lv_has.mem {ls : Array Slot} {n : Nat} {l l' : List (Nat × Value)} (h : lv_has ls n l) (hs : ∀ q ∈ l', q ∈ l) : lv_has ls n l' := ⟨h.1, h.2.1, fun q hq => h.2.2 q (hs q hq)⟩
theorem cvL_sub {Γ : ZG} {ls ls' : Lc} (h : ∀ q ∈ ls', q.1 < 1000 → q ∈ ls) : ∀ q ∈ cvL Γ ls', q ∈ cvL Γ ls := by
  intro q hq
  obtain ⟨w, hw, rfl⟩ := List.mem_map.mp hq
  obtain ⟨w1, w2⟩ := List.mem_filter.mp hw
  have w3 : w.1 < 1000 := by simpa using w2
  exact List.mem_map.mpr ⟨w, List.mem_filter.mpr ⟨h w w1 w3, w2⟩, rfl⟩
theorem up_cnt {ls : Lc} {u v : Vl} {q : Nat × Vl} (h : q ∈ up1 (up1 ls 1000 u) 1001 v) : q = (1001, v) ∨ q = (1000, u) ∨ (q ∈ ls ∧ q.1 ≠ 1000 ∧ q.1 ≠ 1001) := by
  rcases List.mem_cons.mp h with h | h
  · exact Or.inl h
  · obtain ⟨h1, h2⟩ := List.mem_filter.mp h
    simp only [Bool.and_eq_true, Bool.not_eq_true', beq_eq_false_iff_ne, ne_eq] at h2
    rcases List.mem_cons.mp h1 with h1 | h1
    · exact Or.inr (Or.inl h1)
    · obtain ⟨h3, h4⟩ := List.mem_filter.mp h1
      simp only [Bool.and_eq_true, Bool.not_eq_true', beq_eq_false_iff_ne, ne_eq] at h4
      exact Or.inr (Or.inr ⟨h3, h4.1, h2.1⟩)
/-- the counters of a method that makes cells -/
theorem zCt.made {R : Room} {ls : Lc} {cells slots c0 n0 : Nat} {c s rc rs : Int} (h : zCt R ls cells slots) (h0 : lk ls 1000 = some (0, c)) (h1 : lk ls 1001 = some (0, s)) (h2 : lk ls 1002 = some (0, rc)) (h3 : lk ls 1003 = some (0, rs)) (hc : c + c0 ≤ rc) (hs : s + n0 ≤ rs) :
    cells + c0 ≤ R.cells ∧ slots + n0 ≤ R.slots ∧ zCt R (up1 (up1 ls 1000 (0, c + c0)) 1001 (0, s + n0)) (cells + c0) (slots + n0) := by
  obtain ⟨g1, g2, g3, g4, g5, g6⟩ := h
  have k0 := g3 c (lk_mem h0)
  have k1 := g4 s (lk_mem h1)
  have k2 := g5 rc (lk_mem h2)
  have k3 := g6 rs (lk_mem h3)
  refine ⟨by omega, by omega, by omega, by omega, fun x q => ?_, fun x q => ?_, fun x q => ?_, fun x q => ?_⟩
  · rcases up_cnt q with q | q | ⟨q1, q2, q3⟩
    · cases q
    · cases q
      omega
    · exact absurd rfl q2
  · rcases up_cnt q with q | q | ⟨q1, q2, q3⟩
    · cases q
      omega
    · cases q
    · exact absurd rfl q3
  · rcases up_cnt q with q | q | ⟨q1, q2, q3⟩
    · cases q
    · cases q
    · exact g5 x q1
  · rcases up_cnt q with q | q | ⟨q1, q2, q3⟩
    · cases q
    · cases q
    · exact g6 x q1
theorem zRep.new {Γ : ZG} {S : Hp} {H H' : Heap} {k n : Int} (h : zRep Γ S H) (hT : zT S = 1) (hk : (1 ≤ k ∧ k ≤ 12) ∨ (101 ≤ k ∧ k ≤ 108)) (hn : 0 ≤ n ∧ n ≤ 100000) (hl : zLow Γ) (hz : H'.size = H.size + 1) (ho : ∀ q, q < H.size → H'[q]? = H[q]?) (hc : zCell Γ (zA S k n) (zN S) H') : zRep Γ (zA S k n) H' := by
  obtain ⟨⟨f0, f1, f2, f3⟩, h1, h2, h3, h4, h5, h6⟩ := h
  have e0 : zN (zA S k n) = zN S + 1 := rfl
  have eK : ∀ b, zK (zA S k n) b = if b = zN S then k else zK S b := fun b => by
    show (if b = zN S then (k, n) else S.1 b).1 = _
    split <;> rfl
  have eL : ∀ b, zL (zA S k n) b = if b = zN S then n else zL S b := fun b => by
    show (if b = zN S then (k, n) else S.1 b).2 = _
    split <;> rfl
  have eG : ∀ b j, zG (zA S k n) b j = if b = zN S then 0 else zG S b j := fun b j => rfl
  have hsz := h3 hT
  refine ⟨⟨by omega, fun a ha => ?_, fun a ha => ?_, fun a j ha hj => ?_⟩, fun a ha => ?_, by rw [e0, hz]; omega, fun _ => by rw [e0, hz]; omega, ?_, ?_, ?_⟩
  · rw [eK] at ha ⊢
    rw [e0]
    by_cases q : a = zN S
    · rw [if_pos q]
      exact ⟨by omega, by omega, hk⟩
    · rw [if_neg q] at ha ⊢
      have := f1 a ha
      exact ⟨this.1, by omega, this.2.2⟩
  · rw [eK] at ha
    rw [eL]
    by_cases q : a = zN S
    · rw [if_pos q]
      exact hn
    · rw [if_neg q] at ha ⊢
      exact f2 a ha
  · rw [eK] at ha ⊢
    rw [eG]
    by_cases q : a = zN S
    · rw [if_pos q, if_pos q]
      exact ⟨fun _ => in32_0, fun _ => ⟨by decide, by decide⟩⟩
    · rw [if_neg q] at ha
      rw [if_neg q, if_neg q]
      exact f3 a j ha hj
  · by_cases q : a = zN S
    · subst q
      exact hc
    · have ha' := ha
      rw [eK, if_neg q] at ha'
      have := f1 a ha'
      refine (h1 a ha').kept (by rw [eK, if_neg q]) (by rw [eL, if_neg q]) (fun j => by rw [eG, if_neg q]) (ho _ ?_)
      rw [zAd_pos Γ this.1]
      omega
  · obtain ⟨g1, g2, g3⟩ := h4
    have q : ¬ (-2 : Int) = zN S := by omega
    refine ⟨by rw [eL, if_neg q]; exact g1, by rw [eL, if_neg q]; exact g2, fun j j0 j1 => ?_⟩
    rw [eL, if_neg q] at j1
    rw [eG, if_neg q]
    exact g3 j j0 j1
  · rw [ho _ (by have := hl.1; omega)]
    exact h5
  · rw [ho _ (by have := hl.2; omega)]
    exact h6
section ZW5
variable {Γ : ZG} {p : Program} {l : Launch} {e : Env} {R : Room} {s : State} {m : MethodId} {args : Array Value} {below : List Frame} {meth : Method} {c : Code} {Z : State → Prop} {mi pc : Nat} {ls : Lc} {st : List Vl} {S : Hp}
/-- behind the making of a cell -/
theorem zSd_new {H H' : Heap} {locs : List Loc} {cells slots c0 n0 : Nat} {lsA : Array Slot} {st' : List Vl} {k n c s9 rc rs : Int} (hE : zExt Γ s) (h : zSd Γ R s mi ls st S H locs cells slots lsA) (hst : ∀ v ∈ st', okV v) (h0 : lk ls 1000 = some (0, c)) (h1 : lk ls 1001 = some (0, s9)) (h2 : lk ls 1002 = some (0, rc)) (h3 : lk ls 1003 = some (0, rs)) (hc0 : c + c0 ≤ rc) (hs0 : s9 + n0 ≤ rs)
    (hT : zT S = 1) (hk : (1 ≤ k ∧ k ≤ 12) ∨ (101 ≤ k ∧ k ≤ 108)) (hn : 0 ≤ n ∧ n ≤ 100000) (hz : H'.size = H.size + 1) (ho : ∀ q, q < H.size → H'[q]? = H[q]?) (hc : zCell Γ (zA S k n) (zN S) H') : zSd Γ R s mi (up1 (up1 ls 1000 (0, c + c0)) 1001 (0, s9 + n0)) st' (zA S k n) H' locs (cells + c0) (slots + n0) lsA := by
  obtain ⟨s1, s2, s3⟩ := h.2.1
  refine ⟨h.1.new hT hk hn hE.2.2.2.2.2.2.1 hz ho hc, ⟨by omega, fun x x1 x2 => by rw [ho x (by omega)]; exact s2 x x1 x2, s3⟩, h.2.2.1.mem (cvL_sub (fun q hq h9 => ?_)), hst, fun q hq => ?_, (h.2.2.2.2.2.made h0 h1 h2 h3 hc0 hs0).2.2⟩
  · rcases up_cnt hq with rfl | rfl | hq
    · exact absurd (show (1001 : Nat) < 1000 from h9) (by decide)
    · exact absurd (show (1000 : Nat) < 1000 from h9) (by decide)
    · exact hq.1
  · have g5 := h.2.2.2.2.2
    have k0 := g5.2.2.1 c (lk_mem h0)
    have k1 := g5.2.2.2.1 s9 (lk_mem h1)
    have o2 := (h.2.2.2.2.1 _ (lk_mem h2)).1 rfl
    have o3 := (h.2.2.2.2.1 _ (lk_mem h3)).1 rfl
    have o2a : rc < 2147483648 := o2.2
    have o3a : rs < 2147483648 := o3.2
    rcases up_cnt hq with rfl | rfl | hq
    · exact okV0 ⟨by omega, by omega⟩
    · exact okV0 ⟨by omega, by omega⟩
    · exact h.2.2.2.2.1 q hq.1
theorem zAd_new {H : Heap} (hR : zRep Γ S H) (hT : zT S = 1) : zAd Γ (zN S) = H.size := by
  rw [zAd_pos Γ hR.1.1, hR.2.2.2.1 hT]
theorem zK_new (S : Hp) (k n : Int) : zK (zA S k n) (zN S) = k := by
  show (if zN S = zN S then (k, n) else S.1 (zN S)).1 = k
  rw [if_pos rfl]
theorem zL_new (S : Hp) (k n : Int) : zL (zA S k n) (zN S) = n := by
  show (if zN S = zN S then (k, n) else S.1 (zN S)).2 = n
  rw [if_pos rfl]
theorem zV_new (Γ : ZG) (S : Hp) (k n : Int) (j : Nat) : zV Γ (zA S k n) (zN S) j = cv Γ (tg (zPl k j), 0) := by
  unfold zV
  rw [zK_new]
  show cv Γ (_, (if zN S = zN S then 0 else zG S (zN S) j)) = _
  rw [if_pos rfl]
theorem fit_def {ci k : Nat} (hc : ci < 12) (hk : k < zNf ci) : defaultValue (zTt ci k) = cv Γ (tg (zFt ci k), 0) := by
  have h := List.all_eq_true.mp (List.all_eq_true.mp fit_all ci (List.mem_range.mpr hc)) k (List.mem_range.mpr hk)
  generalize zFt ci k = t at h
  generalize zTt ci k = ty at h
  unfold fitB at h
  split at h
  · rfl
  · rfl
  · rfl
  · rfl
  · cases h
theorem zw_new {idx ci : Nat} {cc s9 rc rs : Int} (hC : zCx Γ p s m args meth c mi) (hd : decode (zB mi) pc = .ok (.new idx, 3)) (hc : ci < 12) (hw : Cond.classLink (zCn (zOn mi)) idx (zCn ci) ∈ gw) (h0 : lk ls 1000 = some (0, cc)) (h1 : lk ls 1001 = some (0, s9)) (h2 : lk ls 1002 = some (0, rc)) (h3 : lk ls 1003 = some (0, rs)) (hc0 : cc + (1 : Nat) ≤ rc) (hs0 : s9 + (zNf ci : Nat) ≤ rs) (hT : zT S = 1)
    (kk : zW Γ p l e R s m args below meth c Z mi (pc + 3) (up1 (up1 ls 1000 (0, cc + (1 : Nat))) 1001 (0, s9 + (zNf ci : Nat))) ((2, zN S) :: st) (zA S ((ci : Int) + 1) 0)) : zW Γ p l e R s m args below meth c Z mi pc ls st S := by
  intro H locs cells slots lsA h
  have hE := hC.2.2.2.2.2.2.2.2
  have hts := hC.2.2.2.2.2.1
  obtain ⟨r1, r2, -⟩ := h.2.2.2.2.2.made h0 h1 h2 h3 hc0 hs0
  have hKn := zx_cls hE hc
  have had := zAd_new h.1 hT
  have hX := List.all_eq_true.mp zX_ok ci (List.mem_range.mpr hc)
  simp only [zXok, Bool.and_eq_true] at hX
  refine W.newcK hC.1 hC.2.1 hC.2.2.2.2.1 (hts _ hw) (hts _ (zIg_mem hX.1)) (hts _ (zIg_mem hX.2)) rfl hd r1 r2 hKn.2.1 rfl fun H' kC hkC e1 z1 o1 => ?_
  have hb := u_born (zTt ci) hts (zIn_lay ci hc) hKn hkC e1 (zTy_all ci hc)
  have hk := kk H' locs (cells + 1) (slots + zNf ci) lsA (zSd_new (k := (ci : Int) + 1) (n := 0) hE h (ok_cons (okV2 _) h.ok) h0 h1 h2 h3 hc0 hs0 hT (Or.inl ⟨by omega, by omega⟩) ⟨by omega, by omega⟩ z1 o1 ⟨fun _ => ?_, fun q => ?_⟩)
  · rw [List.map_cons, cv_at Γ (by have := h.1.1.1; omega), had] at hk
    exact hk
  · rw [zK_new, show ((ci : Int) + 1 - 1).toNat = ci by omega, had]
    refine hb.to (fun j hj => ?_)
    rw [zV_new, zPl_obj hc _ rfl]
    exact fit_def hc hj
  · rw [zK_new] at q
    omega
theorem zRA_prim (hE : zExt Γ s) {k : Nat} (hk : k < 3) : s.vm.findClass ("[" ++ (zTy k).toString) = some (Γ.2.2.1 k) := by
  have := (hE.1.2 k _ (zTys_at Γ (by omega))).2
  rcases (show k = 0 ∨ k = 1 ∨ k = 2 by omega) with rfl | rfl | rfl <;> exact this
theorem zPl_arr {k : Nat} (j : Int) : zPl ((k : Int) + 101) j = (if k = 0 then 0 else if k = 1 then 1 else if k = 2 then 3 else 2) := by
  unfold zPl
  rw [if_neg (by omega)]
  by_cases h0 : k = 0
  · rw [if_pos (by omega), if_pos h0]
  · rw [if_neg (by omega), if_neg h0]
    by_cases h1 : k = 1
    · rw [if_pos (by omega), if_pos h1]
    · rw [if_neg (by omega), if_neg h1]
      by_cases h2 : k = 2
      · rw [if_pos (by omega), if_pos h2]
      · rw [if_neg (by omega), if_neg h2]
/-- the kind of row that newarray makes -/
def zNt (t : ArrayType) : Nat := match t with
  | .int => 0
  | .long => 1
  | .boolean => 2
  | _ => 9
theorem zw_newa {t : ArrayType} {n cc s9 rc rs : Int} (hC : zCx Γ p s m args meth c mi) (hd : decode (zB mi) pc = .ok (.newarray t, 2)) (ht : zNt t < 3) (h0 : lk ls 1000 = some (0, cc)) (h1 : lk ls 1001 = some (0, s9)) (h2 : lk ls 1002 = some (0, rc)) (h3 : lk ls 1003 = some (0, rs)) (hc0 : cc + 1 ≤ rc) (hs0 : s9 + n ≤ rs) (hT : zT S = 1) (hn0 : 0 ≤ n) (hn1 : n ≤ 100000)
    (kk : zW Γ p l e R s m args below meth c Z mi (pc + 2) (up1 (up1 ls 1000 (0, cc + 1)) 1001 (0, s9 + n)) ((2, zN S) :: st) (zA S ((zNt t : Int) + 101) n)) : zW Γ p l e R s m args below meth c Z mi pc ls ((0, n) :: st) S := by
  intro H locs cells slots lsA h
  have hE := hC.2.2.2.2.2.2.2.2
  have hts := hC.2.2.2.2.2.1
  obtain ⟨n', rfl⟩ : ∃ n' : Nat, n = n' := ⟨n.toNat, by omega⟩
  obtain ⟨r1, r2, -⟩ := h.2.2.2.2.2.made (c0 := 1) h0 h1 h2 h3 hc0 hs0
  have had := zAd_new h.1 hT
  have hn32 : in32 (n' : Int) := (ok_hd h.ok).1 rfl
  have hrf := zRA_prim hE ht
  rw [List.map_cons]
  have main : ∀ (ty : FieldType), newarray.typeOf t = ty → zTy (zNt t) = ty → (Cond.arrayClass ty).before args s = true → componentBytes ty ≤ 8 → defaultValue ty = cv Γ (tg (zPl ((zNt t : Int) + 101) 0), 0) → W p l e R s m args below meth c H locs cells slots Z (F0 m pc lsA (cv Γ (0, (n' : Int)) :: List.map (cv Γ) st)) := by
    intro ty hty hz hac hcb hdv
    refine va_newaK hC.1 hC.2.1 (atype := t) (by rw [hty]; exact hac) rfl hd (n := Int32.ofInt n') (N := n') rfl (by rw [show (0 : Int32) = Int32.ofInt 0 from rfl, o32_lt hn32 in32_0]; omega) (by rw [o32_clamp hn32]; omega) (by rw [hty]; have : n' * componentBytes ty ≤ n' * 8 := Nat.mul_le_mul_left _ hcb; omega) r1 r2 rfl fun H' cA e1 z1 o1 hAr hNm => ?_
    rw [hty] at e1 hNm
    rw [hz] at hrf
    have ecA : cA = Γ.2.2.1 (zNt t) := Option.some.inj (hNm.symm.trans hrf)
    have hk := kk H' locs (cells + 1) (slots + n') lsA (zSd_new (c0 := 1) (k := (zNt t : Int) + 101) (n := (n' : Int)) hE h (ok_cons (okV2 _) (ok_tl h.ok)) h0 h1 h2 h3 hc0 hs0 hT (Or.inr ⟨by omega, by omega⟩) ⟨by omega, by omega⟩ z1 o1 ⟨fun q => ?_, fun q => ?_⟩)
    · rw [List.map_cons, cv_at Γ (by have := h.1.1.1; omega), had] at hk
      exact hk
    · rw [zK_new] at q
      omega
    · rw [had, e1, zK_new, zL_new, show ((zNt t : Int) + 101 - 101).toNat = zNt t by omega, ecA, Int.toNat_natCast]
      congr 2
      funext j
      rw [zV_new, hdv, zPl_arr, zPl_arr]
  cases t with
  | int => exact main .int rfl rfl (hts _ zW_ac_int) (by decide) rfl
  | long => exact main .long rfl rfl (hts _ zW_ac_long) (by decide) rfl
  | boolean => exact main .boolean rfl rfl (hts _ zW_ac_boolean) (by decide) rfl
  | _ => exact absurd ht (by decide)
theorem zw_anew {idx k : Nat} {n cc s9 rc rs : Int} (hC : zCx Γ p s m args meth c mi) (hd : decode (zB mi) pc = .ok (.anewarray idx, 3)) (hk : 3 ≤ k) (hk7 : k < 7) (hw : Cond.classLink (zCn (zOn mi)) idx (zCn (zEl k)) ∈ gw) (h0 : lk ls 1000 = some (0, cc)) (h1 : lk ls 1001 = some (0, s9)) (h2 : lk ls 1002 = some (0, rc)) (h3 : lk ls 1003 = some (0, rs)) (hc0 : cc + 1 ≤ rc) (hs0 : s9 + n ≤ rs) (hT : zT S = 1) (hn0 : 0 ≤ n) (hn1 : n ≤ 100000)
    (kk : zW Γ p l e R s m args below meth c Z mi (pc + 3) (up1 (up1 ls 1000 (0, cc + 1)) 1001 (0, s9 + n)) ((2, zN S) :: st) (zA S ((k : Int) + 101) n)) : zW Γ p l e R s m args below meth c Z mi pc ls ((0, n) :: st) S := by
  intro H locs cells slots lsA h
  have hE := hC.2.2.2.2.2.2.2.2
  have hts := hC.2.2.2.2.2.1
  obtain ⟨n', rfl⟩ : ∃ n' : Nat, n = n' := ⟨n.toNat, by omega⟩
  obtain ⟨r1, r2, -⟩ := h.2.2.2.2.2.made (c0 := 1) h0 h1 h2 h3 hc0 hs0
  have had := zAd_new h.1 hT
  have hn32 : in32 (n' : Int) := (ok_hd h.ok).1 rfl
  have hcl : (Int32.ofInt (n' : Int)).toNatClampNeg = n' := by rw [o32_clamp hn32]; omega
  have hAO : va_AO (zCn (zEl k)) s := by
    rcases (show k = 3 ∨ k = 4 ∨ k = 5 ∨ k = 6 by omega) with rfl | rfl | rfl | rfl
    · exact hE.2.2.1.1
    · exact hE.2.2.1.2.1
    · exact hE.2.2.1.2.2.1
    · exact hE.2.2.1.2.2.2
  have hRA := (hE.1.2 k _ (zTys_at Γ (by omega))).2
  rw [zTy_el hk hk7] at hRA
  obtain ⟨kA, comp, -, -, -, k4⟩ := hRA
  rw [List.map_cons]
  refine W.anew hC.1 hC.2.1 hC.2.2.2.2.1 (hts _ hw) (va_AO.use hAO) rfl hd (n := Int32.ofInt n') rfl (by rw [show (0 : Int32) = Int32.ofInt 0 from rfl, o32_lt hn32 in32_0]; omega) (by rw [hcl]; omega) r1 (by rw [hcl]; exact r2) fun cA kA2 comp2 f1 f2 f3 f4 => ?_
  rw [hcl]
  have ecA : cA = Γ.2.2.1 k := Option.some.inj (f1.symm.trans k4)
  generalize hH1 : H.push ({ cls := cA, slots := Array.replicate n' .null, vm := .none } : Cell) = H'
  have z1 : H'.size = H.size + 1 := by rw [← hH1, Array.size_push]
  have e1 : H'[H.size]? = some (arrV cA n' (fun _ => .null)) := by rw [← hH1, Array.getElem?_push_size, ← arrV_new]
  have o1 : ∀ q : Nat, q < H.size → H'[q]? = H[q]? := fun q hq => by rw [← hH1, Array.getElem?_push, if_neg (Nat.ne_of_lt hq)]
  have hk9 := kk H' locs (cells + 1) (slots + n') lsA (zSd_new (c0 := 1) (k := (k : Int) + 101) (n := (n' : Int)) hE h (ok_cons (okV2 _) (ok_tl h.ok)) h0 h1 h2 h3 hc0 hs0 hT (Or.inr ⟨by omega, by omega⟩) ⟨by omega, by omega⟩ z1 o1 ⟨fun q => ?_, fun q => ?_⟩)
  · rw [List.map_cons, cv_at Γ (by have := h.1.1.1; omega), had] at hk9
    exact hk9
  · rw [zK_new] at q
    omega
  · rw [had, e1, zK_new, zL_new, show ((k : Int) + 101 - 101).toNat = k by omega, ecA, Int.toNat_natCast]
    congr 2
    funext j
    rw [zV_new, zPl_arr, if_neg (by omega), if_neg (by omega), if_neg (by omega)]
    rfl
end ZW5
