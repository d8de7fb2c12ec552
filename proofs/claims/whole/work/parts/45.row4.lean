section ZW4
variable {Γ : ZG} {p : Program} {l : Launch} {e : Env} {R : Room} {s : State} {m : MethodId} {args : Array Value} {below : List Frame} {meth : Method} {c : Code} {Z : State → Prop} {mi pc : Nat} {ls : Lc} {st : List Vl} {S : Hp}
theorem zw_getst (hC : zCx Γ p s m args meth c mi) (hd : decode (zB mi) pc = .ok (.getstatic 30, 3)) (ho : zOn mi = 5) (k : zW Γ p l e R s m args below meth c Z mi (pc + 3) ls ((2, -1) :: st) S) : zW Γ p l e R s m args below meth c Z mi pc ls st S := by
  intro H locs cells slots lsA h
  have hE := hC.2.2.2.2.2.2.2.2
  have hown := hC.2.2.2.2.1
  rw [ho] at hown
  exact va_gets hC.1 hC.2.1 hE.2.2.2.2.2.2.2.1 h.2.1 hown (hC.2.2.2.2.2.1 _ zW_st1) (fun x hx => hx) hd (k H locs cells slots lsA (h.st (ok_cons (okV2 _) h.ok)))
theorem zw_obji {idx : Nat} {x : Int} (hC : zCx Γ p s m args meth c mi) (hd : decode (zB mi) pc = .ok (.invokespecial idx, 3)) (hw : Cond.methodLink (zCn (zOn mi)) idx Lib.objectInit ∈ gw) (hx : ¬ x = 0) (hs : sct st ≤ 8) (hf : 1 ≤ R.frames) (hl : 64 ≤ R.locals) (k : zW Γ p l e R s m args below meth c Z mi (pc + 3) ls st S) : zW Γ p l e R s m args below meth c Z mi pc ls ((2, x) :: st) S := by
  intro H locs cells slots lsA h
  rw [List.map_cons, cv_at Γ hx]
  have e9 : (List.map (fun v => v.category) (List.map (cv Γ) st)).sum = sct st := by
    clear hs h k
    induction st with
    | nil => rfl
    | cons v r ih =>
      rw [List.map_cons, List.map_cons, List.sum_cons, ih, cv_cat]
      rfl
  refine W.objInit hC.1 hC.2.1 hC.2.2.2.2.1 (hC.2.2.2.2.2.1 _ hw) (hC.2.2.2.2.2.1 _ zW_obj1) (hC.2.2.2.2.2.1 _ zW_obj2) rfl (by rw [hC.2.2.2.1]; exact h.2.2.1.1) rfl hd hf ?_ (k H locs cells slots lsA (h.st (ok_tl h.ok)))
  rw [e9]
  show 2 * 0 + _ + 12 ≤ _
  omega
def fitB (t : Nat) (ty : FieldType) : Bool := match t, ty with
  | 0, .int => true
  | 3, .boolean => true
  | 2, .object _ => true
  | 2, .array _ => true
  | _, _ => false
theorem fit_all : (List.range 12).all (fun c => (List.range (zNf c)).all (fun k => fitB (zFt c k) (zTt c k))) = true := by decide +kernel
/-- the value of a field fits it -/
theorem zx_fit {ci k : Nat} (hc : ci < 12) (hk : k < zNf ci) {v : Int} (h3 : zFt ci k = 3 → in01 v) : narrow (zTt ci k) (cv Γ (tg (zFt ci k), v)) = cv Γ (tg (zFt ci k), v) ∧ fits (zTt ci k) (cv Γ (tg (zFt ci k), v)) = true := by
  have h := List.all_eq_true.mp (List.all_eq_true.mp fit_all ci (List.mem_range.mpr hc)) k (List.mem_range.mpr hk)
  generalize zFt ci k = t at h h3
  generalize zTt ci k = ty at h
  unfold fitB at h
  split at h
  · exact ⟨rfl, rfl⟩
  · rcases h3 rfl with rfl | rfl <;> exact ⟨rfl, rfl⟩
  · rw [show cv Γ (tg 2, v) = cv Γ (2, v) from rfl]
    rcases cv_ref Γ v with q | ⟨a, q⟩ <;> rw [q] <;> exact ⟨rfl, rfl⟩
  · rw [show cv Γ (tg 2, v) = cv Γ (2, v) from rfl]
    rcases cv_ref Γ v with q | ⟨a, q⟩ <;> rw [q] <;> exact ⟨rfl, rfl⟩
  · cases h
theorem zPl_obj {ci : Nat} (hc : ci < 12) (K : Int) (hK : K = (ci : Int) + 1) (k : Nat) : zPl K (k : Int) = zFt ci k := by
  unfold zPl zF
  rw [if_pos (by omega), hK, show ((ci : Int) + 1 - 1).toNat = ci by omega, Int.toNat_natCast]
theorem zCell_obj {ci k : Nat} {x v : Int} {H H' : Heap} {cell : Cell} (hc : ci < 12) (hx : zK S x = (ci : Int) + 1) (hk : k < zNf ci) (q2 : cell.cls = Γ.2.1.1 ci) (q3 : cell.vm = .none) (q4 : ∀ k, k < zNf ci → cell.slots[Γ.2.1.2 ci k]? = some (zV Γ S x k)) (hap : ∀ x y, x < zNf ci → y < zNf ci → x ≠ y → (Γ.2.1.2 ci) x ≠ (Γ.2.1.2 ci) y) (e1 : H'[zAd Γ x]? = some (cell.setSlot (Γ.2.1.2 ci k) (cv Γ (tg (zFt ci k), v)))) : zCell Γ (zS S x k v) x H' := by
  have hx' : zK (zS S x k v) x = (ci : Int) + 1 := hx
  refine ⟨fun _ => ?_, fun q => by omega⟩
  rw [hx', show ((ci : Int) + 1 - 1).toNat = ci by omega]
  refine t_OB.to (V := updV (zV Γ S x) k (cv Γ (tg (zFt ci k), v))) ⟨_, e1, q2, q3, t_set q4 hap hk _⟩ (fun j _ => ?_)
  have := zV_put Γ S x (k : Int) v (by omega) j
  rw [Int.toNat_natCast, zPl_obj hc _ hx k] at this
  exact this.symm
theorem zw_putf {idx ci k : Nat} {x v : Int} (hC : zCx Γ p s m args meth c mi) (hd : decode (zB mi) pc = .ok (.putfield idx, 3)) (hc : ci < 12) (hk : k < zNf ci) (hw : Cond.fieldLink (zCn (zOn mi)) idx (zTf ci k).1 (zTf ci k).2.1 (zTf ci k).2.2.1 ∈ gw) (hfin : (zTf ci k).2.2.2 = false ∨ ((zTf ci k).2.2.2 = true ∧ (zYn mi).name = "<init>" ∧ (zTf ci k).1 = zCn (zOn mi))) (hx : zK S x = (ci : Int) + 1) (h3 : zFt ci k = 3 → in01 v)
    (kk : zW Γ p l e R s m args below meth c Z mi (pc + 3) ls st (zS S x k v)) : zW Γ p l e R s m args below meth c Z mi pc ls ((tg (zFt ci k), v) :: (2, x) :: st) S := by
  intro H locs cells slots lsA h
  have hE := hC.2.2.2.2.2.2.2.2
  have hts := hC.2.2.2.2.2.1
  have h1 : 1 ≤ x := zx_pos h.1 (by omega)
  obtain ⟨cell, q1, q2, q3, q4⟩ := zx_obj h.1 hx hc
  obtain ⟨hS, hfc, kC, hkC, hkind⟩ := zx_cls hE hc
  obtain ⟨cf, kf, fi, f, hi, hsl⟩ := hS k hk
  have hap := va_apart (own := zCn (zOn mi)) hts (zIn_lay ci hc) (zTt ci) (zTy_all ci hc) (zNm_all ci hc) hE.1 (zCl_at hc)
  have hlay := hts _ (zIn_lay ci hc _ (u_in_lay hk))
  unfold u_lay at hlay
  have hst := (u_facts hfc hkC (u_lays hts (zIn_lay ci hc) hk) hi).1
  obtain ⟨hn, hfit⟩ := zx_fit (Γ := Γ) hc hk h3
  have hok : okP (zPl (zK S x) (k : Int)) v := by
    rw [zPl_obj hc _ hx]
    have h9 := ok_hd h.ok
    generalize zFt ci k = t at h9 h3
    refine ⟨fun q => ?_, fun q => ?_⟩
    · rcases q with rfl | rfl
      · exact h9.1 rfl
      · exact h9.1 rfl
    · subst q
      exact h9.2 rfl
  rw [List.map_cons, List.map_cons, cv_at Γ (x := x) (by omega)]
  rcases hfin with hf | ⟨hf, hin, hdecl⟩
  · rw [if_neg (by rw [hf]; decide)] at hlay
    have h6 := u_store hfc hkC hkind hlay hi (zTy_all ci hc k hk) hn hfit
    refine W.putK hC.1 hC.2.1 (f := f) ⟨hC.2.2.2.2.1, hts _ hw, ⟨_, _, _, hi⟩, hst⟩ (by rw [q2]; exact h6) q1 q3 (by rw [hsl]; exact k2_hasslot (q4 k hk)) rfl rfl hd fun H' e1 e2 e3 => ?_
    rw [hsl] at e1
    exact kk H' _ cells slots lsA (h.put hE (ok_tl (ok_tl h.ok)) (by omega) hok (zCell_obj (H := H) hc hx hk q2 q3 q4 hap e1) e2 e3 rfl)
  · rw [if_pos hf] at hlay
    have hcf : m.cls = cf := by
      obtain ⟨_, _, c', _, _, _, -, -, hf', -, -, -, hown2, -⟩ := Cond.laysFinal_spec hlay
      have e1 : c' = cf := by have := hi.symm.trans hf'; simp at this; exact this.1.symm
      rw [hdecl] at hown2
      rw [← e1]; exact Option.some.inj (hC.2.2.2.2.1.symm.trans hown2)
    have h6 := u_fits hfc hkC hkind (Or.inr hlay) hi (zTy_all ci hc k hk) hn hfit
    refine W.putFinK hC.1 hC.2.1 hC.2.2.2.2.1 (hts _ hw) hi hst hcf (by rw [hC.2.2.2.2.2.2.2.1]; exact hin) (by rw [q2]; exact h6) q1 q3 (by rw [hsl]; exact k2_hasslot (q4 k hk)) rfl rfl hd fun H' e1 e2 e3 => ?_
    rw [hsl] at e1
    exact kk H' _ cells slots lsA (h.put hE (ok_tl (ok_tl h.ok)) (by omega) hok (zCell_obj (H := H) hc hx hk q2 q3 q4 hap e1) e2 e3 rfl)
end ZW4
