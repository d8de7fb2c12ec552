section ZW3
variable {Γ : ZG} {p : Program} {l : Launch} {e : Env} {R : Room} {s : State} {m : MethodId} {args : Array Value} {below : List Frame} {meth : Method} {c : Code} {Z : State → Prop} {mi pc : Nat} {ls : Lc} {st : List Vl} {S : Hp}
theorem zSd.fine {H : Heap} {locs : List Loc} {cells slots : Nat} {lsA : Array Slot} (h : zSd Γ R s mi ls st S H locs cells slots lsA) : zFine S := h.1.1
/-- what the tables say of an array's class -/
theorem zx_arr (hE : zExt Γ s) {k : Nat} (hk : k < 8) (n : Nat) (z : Nat → Value) : s.isArrayOf (arrV (Γ.2.2.1 k) n z) (zTy k) := (hE.1.2 k _ (zTys_at Γ hk)).1 n z
theorem zx_cls (hE : zExt Γ s) {ci : Nat} (h : ci < 12) : u_Kn s (zCn ci) (zTf ci) (zNf ci) (Γ.2.1.1 ci) (Γ.2.1.2 ci) := hE.1.1 ci _ (zCl_at h)
theorem zx_obj {H : Heap} {x : Int} {ci : Nat} (hR : zRep Γ S H) (h : zK S x = (ci : Int) + 1) (hc : ci < 12) : t_OB (zAd Γ x) (Γ.2.1.1 ci) (zNf ci) (Γ.2.1.2 ci) H (zV Γ S x) := by
  have h1 := (hR.2.1 x (by omega)).1 (by omega)
  rw [h, show ((ci : Int) + 1 - 1).toNat = ci by omega] at h1
  exact h1
theorem zx_cell {H : Heap} {x : Int} {k : Nat} (hR : zRep Γ S H) (h : zK S x = (k : Int) + 101) : H[zAd Γ x]? = some (arrV (Γ.2.2.1 k) (zL S x).toNat (zV Γ S x)) := by
  have h1 := (hR.2.1 x (by omega)).2 (by omega)
  rw [h, show ((k : Int) + 101 - 101).toNat = k by omega] at h1
  exact h1
theorem zx_pos {H : Heap} {x : Int} (hR : zRep Γ S H) (h : ¬ zK S x = 0) : 1 ≤ x := (hR.1.2.1 x h).1
theorem zx_len {H : Heap} {x : Int} (hR : zRep Γ S H) (h : ¬ zK S x = 0) : 0 ≤ zL S x ∧ zL S x ≤ 100000 := hR.1.2.2.1 x h
theorem zw_getf {idx ci k : Nat} {x : Int} (hC : zCx Γ p s m args meth c mi) (hd : decode (zB mi) pc = .ok (.getfield idx, 3)) (hc : ci < 12) (hk : k < zNf ci) (hw : Cond.fieldLink (zCn (zOn mi)) idx (zTf ci k).1 (zTf ci k).2.1 (zTf ci k).2.2.1 ∈ gw) (hx : zK S x = (ci : Int) + 1)
    (kk : zW Γ p l e R s m args below meth c Z mi (pc + 3) ls ((tg (zPl (zK S x) k), zG S x k) :: st) S) : zW Γ p l e R s m args below meth c Z mi pc ls ((2, x) :: st) S := by
  intro H locs cells slots lsA h
  have hE := hC.2.2.2.2.2.2.2.2
  have h1 : 1 ≤ x := zx_pos h.1 (by omega)
  obtain ⟨cell, q1, q2, q3, q4⟩ := zx_obj h.1 hx hc
  obtain ⟨hS, hfc, kC, hkC, hkind⟩ := zx_cls hE hc
  obtain ⟨cf, kf, fi, f, hi, hsl⟩ := hS k hk
  rw [List.map_cons, cv_at Γ (by omega)]
  refine W.getf hC.1 hC.2.1 hC.2.2.2.2.1 (hC.2.2.2.2.2.1 _ hw) hi (u_facts hfc hkC (u_lays hC.2.2.2.2.2.1 (zIn_lay ci hc) hk) hi).1 q1 (by rw [q3]; exact fun h => by cases h) (v := zV Γ S x k) ?_ rfl rfl hd (kk H locs cells slots lsA (h.st (ok_cons ?_ (ok_tl h.ok))))
  · rw [hsl]
    exact q4 k hk
  · have h9 := h.1.1.2.2.2 x (k : Int) (by omega) (by omega)
    unfold okP at h9
    generalize zPl (zK S x) (k : Int) = t at h9
    refine ⟨fun q => h9.1 ?_, fun q => h9.2 ?_⟩
    · have q' : tg t = 0 := q
      unfold tg at q'
      split at q'
      · exact Or.inr rfl
      · exact Or.inl q'
    · have q' : tg t = 1 := q
      unfold tg at q'
      split at q'
      · cases q'
      · exact q'
theorem zw_iald {x j : Int} (hC : zCx Γ p s m args meth c mi) (hd : decode (zB mi) pc = .ok (.iaload, 1)) (hx : zK S x = 101) (h0 : 0 ≤ j) (hj : j < zL S x) (kk : zW Γ p l e R s m args below meth c Z mi (pc + 1) ls ((0, zG S x j) :: st) S) : zW Γ p l e R s m args below meth c Z mi pc ls ((0, j) :: (2, x) :: st) S := by
  intro H locs cells slots lsA h
  have hE := hC.2.2.2.2.2.2.2.2
  have h1 : 1 ≤ x := zx_pos h.1 (by omega)
  have hj32 : in32 j := (ok_hd h.ok).1 rfl
  have hL := zx_len h.1 (x := x) (by omega)
  have hc := zx_cell (k := 0) h.1 (x := x) (by omega)
  rw [List.map_cons, List.map_cons, cv_at Γ (x := x) (by omega)]
  have e : zV Γ S x j.toNat = .int (Int32.ofInt (zG S x j)) := by
    show cv Γ (tg (zPl (zK S x) (j.toNat : Int)), zG S x (j.toNat : Int)) = _
    rw [hx, show ((j.toNat : Nat) : Int) = j by omega]
    rfl
  refine W.iald (v := zV Γ S x j.toNat) hC.1 hC.2.1 hc (zx_arr hE (by decide) _ _) (fun q => by cases q) (by rw [arrV_size]; exact o32_in hj32 h0 (by omega)) (by rw [o32_clamp hj32, arrV_read _ _ (by omega)]) rfl rfl hd ?_
  rw [e]
  have h9 := h.1.1.2.2.2 x j (by omega) h0
  rw [hx] at h9
  exact kk H locs cells slots lsA (h.st (ok_cons (okV0 (h9.1 (Or.inl rfl))) (ok_tl (ok_tl h.ok))))
theorem zw_zald {x j : Int} (hC : zCx Γ p s m args meth c mi) (hd : decode (zB mi) pc = .ok (.baload, 1)) (hx : zK S x = 103) (h0 : 0 ≤ j) (hj : j < zL S x) (kk : zW Γ p l e R s m args below meth c Z mi (pc + 1) ls ((0, zG S x j) :: st) S) : zW Γ p l e R s m args below meth c Z mi pc ls ((0, j) :: (2, x) :: st) S := by
  intro H locs cells slots lsA h
  have hE := hC.2.2.2.2.2.2.2.2
  have h1 : 1 ≤ x := zx_pos h.1 (by omega)
  have hj32 : in32 j := (ok_hd h.ok).1 rfl
  have hL := zx_len h.1 (x := x) (by omega)
  have hc := zx_cell (k := 2) h.1 (x := x) (by omega)
  rw [List.map_cons, List.map_cons, cv_at Γ (x := x) (by omega)]
  have e : zV Γ S x j.toNat = .int (Int32.ofInt (zG S x j)) := by
    show cv Γ (tg (zPl (zK S x) (j.toNat : Int)), zG S x (j.toNat : Int)) = _
    rw [hx, show ((j.toNat : Nat) : Int) = j by omega]
    rfl
  refine W.zald (v := zV Γ S x j.toNat) hC.1 hC.2.1 hc (zx_arr hE (by decide) _ _) (fun q => by cases q) (by rw [arrV_size]; exact o32_in hj32 h0 (by omega)) (by rw [o32_clamp hj32, arrV_read _ _ (by omega)]) rfl rfl hd ?_
  rw [e]
  have h9 := h.1.1.2.2.2 x j (by omega) h0
  rw [hx] at h9
  exact kk H locs cells slots lsA (h.st (ok_cons (okV0 (h9.1 (Or.inr rfl))) (ok_tl (ok_tl h.ok))))
theorem zw_lald {x j : Int} (hC : zCx Γ p s m args meth c mi) (hd : decode (zB mi) pc = .ok (.laload, 1)) (hx : zK S x = 102) (h0 : 0 ≤ j) (hj : j < zL S x) (kk : zW Γ p l e R s m args below meth c Z mi (pc + 1) ls ((1, zG S x j) :: st) S) : zW Γ p l e R s m args below meth c Z mi pc ls ((0, j) :: (2, x) :: st) S := by
  intro H locs cells slots lsA h
  have hE := hC.2.2.2.2.2.2.2.2
  have h1 : 1 ≤ x := zx_pos h.1 (by omega)
  have hj32 : in32 j := (ok_hd h.ok).1 rfl
  have hL := zx_len h.1 (x := x) (by omega)
  have hc := zx_cell (k := 1) h.1 (x := x) (by omega)
  rw [List.map_cons, List.map_cons, cv_at Γ (x := x) (by omega)]
  have e : zV Γ S x j.toNat = .long (Int64.ofInt (zG S x j)) := by
    show cv Γ (tg (zPl (zK S x) (j.toNat : Int)), zG S x (j.toNat : Int)) = _
    rw [hx, show ((j.toNat : Nat) : Int) = j by omega]
    rfl
  refine W.lald (v := zV Γ S x j.toNat) hC.1 hC.2.1 hc (zx_arr hE (by decide) _ _) (fun q => by cases q) (by rw [arrV_size]; exact o32_in hj32 h0 (by omega)) (by rw [o32_clamp hj32, arrV_read _ _ (by omega)]) rfl rfl hd ?_
  rw [e]
  have h9 := h.1.1.2.2.2 x j (by omega) h0
  rw [hx] at h9
  exact kk H locs cells slots lsA (h.st (ok_cons (okV1 (h9.2 rfl)) (ok_tl (ok_tl h.ok))))
theorem zTy_ref {k : Nat} (h : 3 ≤ k) : (zTy k).isReference = true := by
  unfold zTy
  split <;> first | omega | rfl
theorem zw_aald {x j : Int} {k : Nat} (hC : zCx Γ p s m args meth c mi) (hd : decode (zB mi) pc = .ok (.aaload, 1)) (hk : 3 ≤ k) (hk8 : k < 8) (hx : zK S x = (k : Int) + 101) (h0 : 0 ≤ j) (hj : j < zL S x) (kk : zW Γ p l e R s m args below meth c Z mi (pc + 1) ls ((2, zG S x j) :: st) S) : zW Γ p l e R s m args below meth c Z mi pc ls ((0, j) :: (2, x) :: st) S := by
  intro H locs cells slots lsA h
  have hE := hC.2.2.2.2.2.2.2.2
  have h1 : 1 ≤ x := zx_pos h.1 (by omega)
  have hj32 : in32 j := (ok_hd h.ok).1 rfl
  have hL := zx_len h.1 (x := x) (by omega)
  have hc := zx_cell h.1 hx
  rw [List.map_cons, List.map_cons, cv_at Γ (x := x) (by omega)]
  have e : zV Γ S x j.toNat = cv Γ (2, zG S x j) := by
    show cv Γ (tg (zPl (zK S x) (j.toNat : Int)), zG S x (j.toNat : Int)) = _
    rw [hx, show ((j.toNat : Nat) : Int) = j by omega]
    unfold zPl
    rw [if_neg (by omega), if_neg (by omega), if_neg (by omega), if_neg (by omega)]
    rfl
  refine W.aald (v := zV Γ S x j.toNat) hC.1 hC.2.1 hc (zx_arr hE hk8 _ _) (zTy_ref hk) (fun q => by cases q) (by rw [arrV_size]; exact o32_in hj32 h0 (by omega)) (by rw [o32_clamp hj32, arrV_read _ _ (by omega)]) rfl rfl hd ?_
  rw [e]
  exact kk H locs cells slots lsA (h.st (ok_cons (okV2 _) (ok_tl (ok_tl h.ok))))
theorem zw_alen {x : Int} {k : Nat} (hC : zCx Γ p s m args meth c mi) (hd : decode (zB mi) pc = .ok (.arraylength, 1)) (hk8 : k < 8) (hx : zK S x = (k : Int) + 101) (kk : zW Γ p l e R s m args below meth c Z mi (pc + 1) ls ((0, zL S x) :: st) S) : zW Γ p l e R s m args below meth c Z mi pc ls ((2, x) :: st) S := by
  intro H locs cells slots lsA h
  have hE := hC.2.2.2.2.2.2.2.2
  have h1 : 1 ≤ x := zx_pos h.1 (by omega)
  have hL := zx_len h.1 (x := x) (by omega)
  have hc := zx_cell h.1 hx
  rw [List.map_cons, cv_at Γ (x := x) (by omega)]
  refine W.alen (n := Int32.ofInt (zL S x)) hC.1 hC.2.1 hc (zx_arr hE hk8 _ _) ?_ rfl rfl hd (kk H locs cells slots lsA (h.st (ok_cons (okV0 ⟨by omega, by omega⟩) (ok_tl h.ok))))
  rw [arrV_size]
  show Int32.ofNat (zL S x).toNat = _
  rw [o32_nat]
  congr 1
  omega
theorem zw_start {j : Int} (hC : zCx Γ p s m args meth c mi) (hd : decode (zB mi) pc = .ok (.iaload, 1)) (h0 : 0 ≤ j) (hj : j < 16) (kk : zW Γ p l e R s m args below meth c Z mi (pc + 1) ls ((0, zSt j) :: st) S) (hin : in32 (zSt j)) : zW Γ p l e R s m args below meth c Z mi pc ls ((0, j) :: (2, -1) :: st) S := by
  intro H locs cells slots lsA h
  have hE := hC.2.2.2.2.2.2.2.2
  have hj32 : in32 j := (ok_hd h.ok).1 rfl
  obtain ⟨g1, g2, g3, g4⟩ := hE.2.2.2.2.2.1
  refine W.iald (v := .int (Int32.ofInt (zSt j))) hC.1 hC.2.1 (show H[zAd Γ (-1)]? = some Γ.2.2.2.2 from h.1.2.2.2.2.2.2) g1 g2 (o32_in hj32 h0 (by omega)) (by rw [o32_clamp hj32, g4 _ (by omega), show ((j.toNat : Nat) : Int) = j by omega]) rfl rfl hd (kk H locs cells slots lsA (h.st (ok_cons (okV0 hin) (ok_tl (ok_tl h.ok)))))
theorem zw_script {j : Int} (hC : zCx Γ p s m args meth c mi) (hd : decode (zB mi) pc = .ok (.iaload, 1)) (h0 : 0 ≤ j) (hj : j < zL S (-2)) (kk : zW Γ p l e R s m args below meth c Z mi (pc + 1) ls ((0, zG S (-2) j) :: st) S) : zW Γ p l e R s m args below meth c Z mi pc ls ((0, j) :: (2, -2) :: st) S := by
  intro H locs cells slots lsA h
  have hE := hC.2.2.2.2.2.2.2.2
  have hj32 : in32 j := (ok_hd h.ok).1 rfl
  obtain ⟨g1, g2, g3⟩ := h.1.2.2.2.2.1
  obtain ⟨g4, g5⟩ := g3 j h0 hj
  refine W.iald (v := .int (Int32.ofInt (zG S (-2) j))) hC.1 hC.2.1 (show H[zAd Γ (-2)]? = some Γ.2.2.2.1 from h.1.2.2.2.2.2.1) hE.2.2.2.2.1.1 hE.2.2.2.2.1.2 (o32_in hj32 h0 (by omega)) (by rw [o32_clamp hj32, g4]) rfl rfl hd (kk H locs cells slots lsA (h.st (ok_cons (okV0 g5) (ok_tl (ok_tl h.ok)))))
theorem zw_slen (hC : zCx Γ p s m args meth c mi) (hd : decode (zB mi) pc = .ok (.arraylength, 1)) (kk : zW Γ p l e R s m args below meth c Z mi (pc + 1) ls ((0, zL S (-2)) :: st) S) : zW Γ p l e R s m args below meth c Z mi pc ls ((2, -2) :: st) S := by
  intro H locs cells slots lsA h
  have hE := hC.2.2.2.2.2.2.2.2
  obtain ⟨g1, g2, g3⟩ := h.1.2.2.2.2.1
  refine W.alen (n := Int32.ofInt (zL S (-2))) hC.1 hC.2.1 (show H[zAd Γ (-2)]? = some Γ.2.2.2.1 from h.1.2.2.2.2.2.1) hE.2.2.2.2.1.1 ?_ rfl rfl hd (kk H locs cells slots lsA (h.st (ok_cons (okV0 ⟨by omega, by omega⟩) (ok_tl h.ok))))
  show Int32.ofNat _ = _
  rw [o32_nat, g1]
/-- behind a write to one of the cells -/
theorem zSd.put {H H' : Heap} {locs : List Loc} {cells slots : Nat} {lsA : Array Slot} {st' : List Vl} {a i v : Int} {q : Loc} (hE : zExt Γ s) (h : zSd Γ R s mi ls st S H locs cells slots lsA) (hst : ∀ v ∈ st', okV v) (ha : ¬ zK S a = 0) (hv : okP (zPl (zK S a) i) v) (hc : zCell Γ (zS S a i v) a H') (hz : H'.size = H.size) (ho : ∀ q, q ≠ zAd Γ a → H'[q]? = H[q]?) (hq : q.base = zAd Γ a) : zSd Γ R s mi ls st' (zS S a i v) H' (locs ++ [q]) cells slots lsA := by
  have h1 : 1 ≤ a := zx_pos h.1 ha
  have hA := zA0_ad Γ h1
  obtain ⟨s1, s2, s3⟩ := h.2.1
  refine ⟨h.1.put hE.2.2.2.2.2.2.1 ha hv hc hz ho, ⟨by rw [hz]; exact s1, fun x x1 x2 => ?_, fun x hx => ?_⟩, h.2.2.1, hst, h.2.2.2.2.1, h.2.2.2.2.2⟩
  · rw [ho x (fun q => x2 (by rw [q]; exact hA))]
    exact s2 x x1 x2
  · rcases List.mem_append.mp hx with hx | hx
    · exact s3 x hx
    · rw [List.mem_singleton.mp hx, hq]
      exact hA
theorem zw_iast {x j v : Int} (hC : zCx Γ p s m args meth c mi) (hd : decode (zB mi) pc = .ok (.iastore, 1)) (hx : zK S x = 101) (h0 : 0 ≤ j) (hj : j < zL S x) (kk : zW Γ p l e R s m args below meth c Z mi (pc + 1) ls st (zS S x j v)) : zW Γ p l e R s m args below meth c Z mi pc ls ((0, v) :: (0, j) :: (2, x) :: st) S := by
  intro H locs cells slots lsA h
  have hE := hC.2.2.2.2.2.2.2.2
  have h1 : 1 ≤ x := zx_pos h.1 (by omega)
  have hj32 : in32 j := (ok_hd (ok_tl h.ok)).1 rfl
  have hv32 : in32 v := (ok_hd h.ok).1 rfl
  have hL := zx_len h.1 (x := x) (by omega)
  have hc := zx_cell (k := 0) h.1 (x := x) (by omega)
  rw [List.map_cons, List.map_cons, List.map_cons, cv_at Γ (x := x) (by omega)]
  refine W.iast hC.1 hC.2.1 hc (zx_arr hE (by decide) _ _) (fun q => by cases q) (by rw [arrV_size]; exact o32_in hj32 h0 (by omega)) rfl rfl hd fun H' e1 e2 e3 => ?_
  refine kk H' _ cells slots lsA (h.put hE (ok_tl (ok_tl (ok_tl h.ok))) (by omega) (by rw [hx]; exact ⟨fun _ => hv32, fun q => by cases q⟩) (zCell_arr (by omega) h0 ?_) e2 e3 rfl)
  rw [e1, o32_clamp hj32, hx]
  rfl
theorem zw_zast {x j v : Int} (hC : zCx Γ p s m args meth c mi) (hd : decode (zB mi) pc = .ok (.bastore, 1)) (hx : zK S x = 103) (h0 : 0 ≤ j) (hj : j < zL S x) (hv : in01 v) (kk : zW Γ p l e R s m args below meth c Z mi (pc + 1) ls st (zS S x j v)) : zW Γ p l e R s m args below meth c Z mi pc ls ((0, v) :: (0, j) :: (2, x) :: st) S := by
  intro H locs cells slots lsA h
  have hE := hC.2.2.2.2.2.2.2.2
  have h1 : 1 ≤ x := zx_pos h.1 (by omega)
  have hj32 : in32 j := (ok_hd (ok_tl h.ok)).1 rfl
  have hv32 : in32 v := (ok_hd h.ok).1 rfl
  have hL := zx_len h.1 (x := x) (by omega)
  have hc := zx_cell (k := 2) h.1 (x := x) (by omega)
  rw [List.map_cons, List.map_cons, List.map_cons, cv_at Γ (x := x) (by omega)]
  refine W.zast hC.1 hC.2.1 hc (zx_arr hE (by decide) _ _) (fun q => by cases q) (by rw [arrV_size]; exact o32_in hj32 h0 (by omega)) rfl rfl hd fun H' e1 e2 e3 => ?_
  refine kk H' _ cells slots lsA (h.put hE (ok_tl (ok_tl (ok_tl h.ok))) (by omega) (by rw [hx]; exact ⟨fun _ => hv32, fun q => by cases q⟩) (zCell_arr (by omega) h0 ?_) e2 e3 rfl)
  rw [e1, o32_clamp hj32, hx]
  rcases hv with rfl | rfl <;> rfl
theorem zw_last {x j v : Int} (hC : zCx Γ p s m args meth c mi) (hd : decode (zB mi) pc = .ok (.lastore, 1)) (hx : zK S x = 102) (h0 : 0 ≤ j) (hj : j < zL S x) (kk : zW Γ p l e R s m args below meth c Z mi (pc + 1) ls st (zS S x j v)) : zW Γ p l e R s m args below meth c Z mi pc ls ((1, v) :: (0, j) :: (2, x) :: st) S := by
  intro H locs cells slots lsA h
  have hE := hC.2.2.2.2.2.2.2.2
  have h1 : 1 ≤ x := zx_pos h.1 (by omega)
  have hj32 : in32 j := (ok_hd (ok_tl h.ok)).1 rfl
  have hv64 : in64 v := (ok_hd h.ok).2 rfl
  have hL := zx_len h.1 (x := x) (by omega)
  have hc := zx_cell (k := 1) h.1 (x := x) (by omega)
  rw [List.map_cons, List.map_cons, List.map_cons, cv_at Γ (x := x) (by omega)]
  refine W.last hC.1 hC.2.1 hc (zx_arr hE (by decide) _ _) (fun q => by cases q) (by rw [arrV_size]; exact o32_in hj32 h0 (by omega)) rfl rfl hd fun H' e1 e2 e3 => ?_
  refine kk H' _ cells slots lsA (h.put hE (ok_tl (ok_tl (ok_tl h.ok))) (by omega) (by rw [hx]; exact ⟨fun q => (by rcases q with q | q <;> cases q), fun _ => hv64⟩) (zCell_arr (by omega) h0 ?_) e2 e3 rfl)
  rw [e1, o32_clamp hj32, hx]
  rfl
/-- the class of the elements of a row of references -/
def zEl (k : Nat) : Nat := match k with
  | 3 => 3
  | 4 => 6
  | 5 => 9
  | _ => 7
theorem zEl_lt (k : Nat) : zEl k < 12 := by
  unfold zEl
  split <;> decide
theorem zTy_el {k : Nat} (h3 : 3 ≤ k) (h7 : k < 7) : zTy k = .object (zCn (zEl k)) := by
  rcases (show k = 3 ∨ k = 4 ∨ k = 5 ∨ k = 6 by omega) with rfl | rfl | rfl | rfl <;> rfl
theorem zw_aast {x j v : Int} {k : Nat} (hC : zCx Γ p s m args meth c mi) (hd : decode (zB mi) pc = .ok (.aastore, 1)) (hk : 3 ≤ k) (hk7 : k < 7) (hx : zK S x = (k : Int) + 101) (h0 : 0 ≤ j) (hj : j < zL S x) (hv : zK S v = (zEl k : Int) + 1) (kk : zW Γ p l e R s m args below meth c Z mi (pc + 1) ls st (zS S x j v)) : zW Γ p l e R s m args below meth c Z mi pc ls ((2, v) :: (0, j) :: (2, x) :: st) S := by
  intro H locs cells slots lsA h
  have hE := hC.2.2.2.2.2.2.2.2
  have h1 : 1 ≤ x := zx_pos h.1 (by omega)
  have hv1 : 1 ≤ v := zx_pos h.1 (by omega)
  have hj32 : in32 j := (ok_hd (ok_tl h.ok)).1 rfl
  have hL := zx_len h.1 (x := x) (by omega)
  have hc := zx_cell h.1 hx
  obtain ⟨cellV, g1, g2, g3, -⟩ := zx_obj h.1 hv (zEl_lt k)
  have hKn := zx_cls hE (zEl_lt k)
  have hcls := hKn.2
  have hRA := (hE.1.2 k _ (zTys_at Γ (by omega))).2
  rw [zTy_el hk hk7] at hRA
  obtain ⟨kA, comp, k1, k2, k3, -⟩ := hRA
  have hcomp : comp = Γ.2.1.1 (zEl k) := Option.some.inj (k3.symm.trans hcls.1)
  subst hcomp
  obtain ⟨kC, hkC, hkind⟩ := hcls.2
  rw [List.map_cons, List.map_cons, List.map_cons, cv_at Γ (x := x) (by omega), cv_at Γ (x := v) (by omega)]
  refine W.aast hC.1 hC.2.1 hc (fun q h => by cases h) (fun h => by cases h) k1 k2 rfl hkC ⟨fun q => o32_in hj32 h0 (n := (zL S x).toNat) (by omega) (Or.inl q), by rw [arrV_size, o32_clamp hj32]; omega⟩ g1 (fun q h => by rw [g3] at h; cases h) (by rw [g2]; exact hkC) (by rw [g2]; exact va_assign hcls) rfl rfl hd fun H' e1 e2 e3 => ?_
  have e4 : zPl (zK S x) j = 2 := by
    rw [hx]
    unfold zPl
    rw [if_neg (by omega), if_neg (by omega), if_neg (by omega), if_neg (by omega)]
  refine kk H' _ cells slots lsA (h.put hE (ok_tl (ok_tl (ok_tl h.ok))) (by omega) (by rw [e4]; exact ⟨fun q => (by rcases q with q | q <;> cases q), fun q => by cases q⟩) (zCell_arr (by omega) h0 ?_) e2 e3 rfl)
  rw [e1, o32_clamp hj32, e4, hx, show ((k : Int) + 101 - 101).toNat = k by omega]
  congr 2
  exact (cv_at Γ (by omega)).symm
end ZW3
