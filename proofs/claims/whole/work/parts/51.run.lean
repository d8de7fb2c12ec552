section ZC
variable {Γ : ZG} {p : Program} {l : Launch} {e : Env} {R : Room} {s : State} {m : MethodId} {args : Array Value} {below : List Frame} {meth : Method} {c : Code} {Z : State → Prop} {mi pc : Nat} {ls ls' : Lc} {st st0 : List Vl} {S : Hp}
/-- what a call leaves on the stack -/
def zPu (r : Vl) (st : List Vl) : List Vl := match r.1 with
  | 3 => st
  | _ => r :: st
theorem zPu_map (Γ : ZG) (r : Vl) (st : List Vl) : (zPu r st).map (cv Γ) = (zRv Γ r).toList ++ st.map (cv Γ) := by
  obtain ⟨t, x⟩ := r
  match t with
  | 0 => rfl
  | 1 => rfl
  | 2 => rfl
  | 3 => rfl
  | n + 4 => rfl
/-- the counters behind a call: none, or as the callee's room has them -/
def zLs (ls ls' : Lc) (mc ms : Nat) : Prop := (mc = 0 ∧ ms = 0 ∧ ls' = ls) ∨ ∃ cc s9 rc rs : Int, lk ls 1000 = some (0, cc) ∧ lk ls 1001 = some (0, s9) ∧ lk ls 1002 = some (0, rc) ∧ lk ls 1003 = some (0, rs) ∧ cc + (mc : Int) ≤ rc ∧ s9 + (ms : Int) ≤ rs ∧ ls' = up1 (up1 ls 1000 (0, cc + (mc : Int))) 1001 (0, s9 + (ms : Int))
theorem zLs.room {H : Heap} {locs : List Loc} {cells slots mc ms : Nat} {lsA : Array Slot} (hL : zLs ls ls' mc ms) (h : zSd Γ R s mi ls st0 S H locs cells slots lsA) : cells + mc ≤ R.cells ∧ slots + ms ≤ R.slots ∧ zCt R ls' (cells + mc) (slots + ms) ∧ (∀ q ∈ ls', q.1 < 1000 → q ∈ ls) ∧ ∀ q ∈ ls', okV q.2 := by
  rcases hL with ⟨rfl, rfl, rfl⟩ | ⟨cc, s9, rc, rs, h0, h1, h2, h3, h4, h5, rfl⟩
  · have := h.2.2.2.2.2
    exact ⟨this.1, this.2.1, this, fun q hq _ => hq, h.2.2.2.2.1⟩
  · obtain ⟨r1, r2, r3⟩ := h.2.2.2.2.2.made h0 h1 h2 h3 h4 h5
    refine ⟨r1, r2, r3, fun q hq h9 => ?_, fun q hq => ?_⟩
    · rcases up_cnt hq with rfl | rfl | hq
      · exact absurd (show (1001 : Nat) < 1000 from h9) (by decide)
      · exact absurd (show (1000 : Nat) < 1000 from h9) (by decide)
      · exact hq.1
    · have g5 := h.2.2.2.2.2
      have k0 := g5.2.2.1 cc (lk_mem h0)
      have k1 := g5.2.2.2.1 s9 (lk_mem h1)
      have o2a : rc < 2147483648 := ((h.2.2.2.2.1 _ (lk_mem h2)).1 rfl).2
      have o3a : rs < 2147483648 := ((h.2.2.2.2.1 _ (lk_mem h3)).1 rfl).2
      rcases up_cnt hq with rfl | rfl | hq
      · exact okV0 ⟨by omega, by omega⟩
      · exact okV0 ⟨by omega, by omega⟩
      · exact h.2.2.2.2.1 q hq.1
theorem zw_run {mc ms : Nat} {a : Array Value} {k : Vl → Hp → Prop} (hE : zExt Γ s) (hL : zLs ls ls' mc ms) (hst : (∀ v ∈ st0, okV v) → ∀ v ∈ st, okV v)
    (hr : ∀ (H : Heap) (locs : List Loc) (cells slots : Nat) (lsA : Array Slot), zSd Γ R s mi ls st0 S H locs cells slots lsA → va_Run p l e R s m args below meth c H locs cells slots mc ms (F0 m pc lsA (st0.map (cv Γ))) (st.map (cv Γ)) (zQc Γ k a) (zA0 Γ))
    (kk : ∀ r S', k r S' → zTag r → zW Γ p l e R s m args below meth c Z mi (pc + 3) ls' (zPu r st) S') : zW Γ p l e R s m args below meth c Z mi pc ls st0 S := by
  intro H locs cells slots lsA h T hT X
  obtain ⟨r1, r2, r3, r4, r5⟩ := hL.room h
  obtain ⟨v, st₀, t, T', L, g0, X', g1, e1, e2, ⟨⟨r, S', hk, hok, htg, hv, hR⟩, hz, hkp⟩, go⟩ := hr H locs cells slots lsA h T hT X
  rw [g0] at hz hkp
  have hv' : v = zRv Γ r := Outcome.returned.inj hv
  subst hv'
  obtain ⟨s1, s2, s3⟩ := h.2.1
  have hsd : zSd Γ R s mi ls' (zPu r st) S' T'.heap (locs ++ L) (cells + mc) (slots + ms) lsA := by
    refine ⟨by rw [e1]; exact hR, ⟨by rw [e1]; omega, fun x x1 x2 => ?_, fun x hx => ?_⟩, h.2.2.1.mem (cvL_sub r4), ?_, r5, r3⟩
    · rw [e1, hkp x (by omega) x2]
      exact s2 x x1 x2
    · rcases List.mem_append.mp hx with hx | hx
      · exact s3 x hx
      · exact g1 x hx
    · intro w hw
      unfold zPu at hw
      split at hw
      · exact hst h.ok w hw
      · exact ok_cons hok (hst h.ok) w hw
  obtain ⟨t2, a1, b1⟩ := kk r S' hk htg T'.heap (locs ++ L) (cells + mc) (slots + ms) lsA hsd T' rfl X'
  refine ⟨t2, go t2 ?_, b1⟩
  rw [zPu_map] at a1
  exact a1
set_option maxRecDepth 8000 in
/-- the words of a call -/
theorem zCB {d m' idx : Nat} (hC : zCx Γ p s m args meth c mi) (hm : m' < 291) (hf : 2 * (d + 1) + 20 ≤ R.frames) (hl : 128 * (d + 1 + 20) ≤ R.locals) (hlink : (Cond.methodLink (zCn (zOn mi)) idx (zYn m')).before args s = true) : CallB R s args (zCn (zOn mi)) idx (zYn m') (zB m') (zMx m') (zRt m') (zWs m') (zRm d m') (zBc m') (zBs m') (zNp m') := by
  obtain ⟨f1, f2, f3, f4, f5, f6, f7, f8⟩ := zM_facts hm
  have hts := hC.2.2.2.2.2.1
  have hfr : (zRm d m').frames + 1 ≤ R.frames := by simp only [zRm]; omega
  have hlr : 8 + (zMx m' + 11) + (zRm d m').locals ≤ R.locals := by simp only [zRm]; omega
  refine ⟨rfl, rfl, hfr, hlr, pay_in hts (zWs_good hm), List.mem_cons_self, hts _ (cw_all m' hm), hts _ f1, f6, fun sig hs => ?_, hlink⟩
  rw [hs] at f7
  exact (Option.some.inj f7).symm
theorem tkr_spec : ∀ (n : Nat) (st acc as r : List Vl), tkr n st acc = some (as, r) → ∃ xs : List Vl, as = xs ++ acc ∧ xs.length = n ∧ st = xs.reverse ++ r
  | 0, st, acc, as, r, h => by
    have h' : (acc, st) = (as, r) := Option.some.inj h
    cases h'
    exact ⟨[], rfl, rfl, rfl⟩
  | n + 1, v :: t, acc, as, r, h => by
    obtain ⟨xs, h1, h2, h3⟩ := tkr_spec n t (v :: acc) as r h
    exact ⟨xs ++ [v], by rw [h1, List.append_assoc]; rfl, by rw [List.length_append, h2]; rfl, by rw [List.reverse_append, h3]; rfl⟩
  | n + 1, [], acc, as, r, h => by cases h
theorem ok_app {as st : List Vl} (h : ∀ v ∈ as.reverse ++ st, okV v) : (∀ v ∈ as, okV v) ∧ ∀ v ∈ st, okV v := ⟨fun v hv => h v (List.mem_append_left _ (List.mem_reverse.mpr hv)), fun v hv => h v (List.mem_append_right _ hv)⟩
theorem zw_callV {d m' idx : Nat} {x : Int} {as : List Vl} {k : Vl → Hp → Prop} (hC : zCx Γ p s m args meth c mi) (hX : zXt Γ s) (hfl : l.flags = flags0) (hd : decode (zB mi) pc = .ok (.invokevirtual idx, 3)) (hm : m' < 291) (hw : Cond.methodLink (zCn (zOn mi)) idx (zYn m') ∈ gw) (his : zIs m' = false) (hni : ¬ (zYn m').name = "<init>") (hf : 2 * (d + 1) + 20 ≤ R.frames) (hl : 128 * (d + 1 + 20) ≤ R.locals)
    (hS : Snd d m' (zP m' 0) (zEn m' ((2, x) :: as)) [] S k) (hk : ∀ x S', ¬ k (9, x) S') (hsz : sct ((2, x) :: as) ≤ zMx m') (hn : as.length = zNp m') (h8 : sct st ≤ 8) (hx : zK S x = (zOn m' : Int) + 1) (ho : zOn m' < 12) (hL : zLs ls ls' (zBc m') (zBs m'))
    (kk : ∀ r S', k r S' → zTag r → zW Γ p l e R s m args below meth c Z mi (pc + 3) ls' (zPu r st) S') : zW Γ p l e R s m args below meth c Z mi pc ls (((2, x) :: as).reverse ++ st) S := by
  have hE := hC.2.2.2.2.2.2.2.2
  have hts := hC.2.2.2.2.2.1
  obtain ⟨f1, f2, f3, f4, f5, f6, f7, f8⟩ := zM_facts hm
  refine zw_run (a := (((2, x) :: as).map (cv Γ)).toArray) hE hL (fun h => (ok_app h).2) (fun H locs cells slots lsA h => ?_) kk
  obtain ⟨r1, r2, -⟩ := hL.room h
  have hx1 : 1 ≤ x := zx_pos h.1 (by omega)
  obtain ⟨cell, q1, q2, q3, -⟩ := zx_obj h.1 hx ho
  have hst : List.map (cv Γ) (((2, x) :: as).reverse ++ st) = (as.map (cv Γ)).reverse ++ .ref (zAd Γ x) :: st.map (cv Γ) := by
    rw [List.map_append, List.map_reverse, List.map_cons, List.reverse_cons, List.append_assoc, cv_at Γ (by omega)]
    rfl
  have hA : (((2, x) :: as).map (cv Γ)).toArray = (Value.ref (zAd Γ x) :: as.map (cv Γ)).toArray := by
    rw [List.map_cons, cv_at Γ (by omega)]
  rw [hst, hA]
  have hr := va_runV (l := l) (e := e) (below := below) (meth := meth) (locs := locs) (cells := cells) (slots := slots) (As := as.map (cv Γ)) (rest := st.map (cv Γ)) (b := zAd Γ x) (C := (zYn m').cls) (g := F0 m pc lsA ((as.map (cv Γ)).reverse ++ .ref (zAd Γ x) :: st.map (cv Γ))) (Ts := gw) ⟨hC.1, hC.2.1, hC.2.2.2.1, hC.2.2.2.2.1, hts⟩ (zMet (Γ := Γ) hfl hm hS hk hsz (ok_app h.ok).1) ⟨zCB hC hm hf hl (hts _ hw), hts _ (f3 his).1, hts _ ((f3 his).2.resolve_left hni)⟩
    ⟨zPc_blind Γ _ S, ⟨cell, q1, by rw [q3]; rfl, by rw [q2, f5]; exact (zx_cls hE ho).2.1⟩, fun U hU hW => ⟨hA.symm, by rw [hU]; exact h.1, hE.moved hW (locs := locs) (by rw [hU]; exact h.2.1), hX.moved hW (locs := locs) (by rw [hU]; exact h.2.1)⟩⟩ rfl (by rw [List.length_map]; exact hn) h.2.2.1.1 rfl (lv_room (by rw [sct_sum]; exact h8)) hd ⟨r1, r2⟩
  exact hr
theorem zw_callS {d m' idx : Nat} {as : List Vl} {k : Vl → Hp → Prop} (hC : zCx Γ p s m args meth c mi) (hX : zXt Γ s) (hfl : l.flags = flags0) (hd : decode (zB mi) pc = .ok (.invokestatic idx, 3)) (hm : m' < 291) (hw : Cond.methodLink (zCn (zOn mi)) idx (zYn m') ∈ gw) (his : zIs m' = true) (hf : 2 * (d + 1) + 20 ≤ R.frames) (hl : 128 * (d + 1 + 20) ≤ R.locals)
    (hS : Snd d m' (zP m' 0) (zEn m' as) [] S k) (hk : ∀ x S', ¬ k (9, x) S') (hsz : sct as ≤ zMx m') (hn : as.length = zNp m') (h8 : sct st ≤ 8) (hL : zLs ls ls' (zBc m') (zBs m'))
    (kk : ∀ r S', k r S' → zTag r → zW Γ p l e R s m args below meth c Z mi (pc + 3) ls' (zPu r st) S') : zW Γ p l e R s m args below meth c Z mi pc ls (as.reverse ++ st) S := by
  have hE := hC.2.2.2.2.2.2.2.2
  have hts := hC.2.2.2.2.2.1
  obtain ⟨f1, f2, f3, f4, f5, f6, f7, f8⟩ := zM_facts hm
  refine zw_run (a := (as.map (cv Γ)).toArray) hE hL (fun h => (ok_app h).2) (fun H locs cells slots lsA h => ?_) kk
  obtain ⟨r1, r2, -⟩ := hL.room h
  have hst : List.map (cv Γ) (as.reverse ++ st) = (as.map (cv Γ)).reverse ++ st.map (cv Γ) := by
    rw [List.map_append, List.map_reverse]
  rw [hst]
  exact va_runS (l := l) (e := e) (below := below) (meth := meth) (locs := locs) (cells := cells) (slots := slots) (As := as.map (cv Γ)) (rest := st.map (cv Γ)) (g := F0 m pc lsA ((as.map (cv Γ)).reverse ++ st.map (cv Γ))) (Ts := gw) ⟨hC.1, hC.2.1, hC.2.2.2.1, hC.2.2.2.2.1, hts⟩ (zMet (Γ := Γ) hfl hm hS hk hsz (ok_app h.ok).1) ⟨zCB hC hm hf hl (hts _ hw), hts _ (f2 his)⟩
    ⟨zPc_blind Γ _ S, fun U hU hW => ⟨rfl, by rw [hU]; exact h.1, hE.moved hW (locs := locs) (by rw [hU]; exact h.2.1), hX.moved hW (locs := locs) (by rw [hU]; exact h.2.1)⟩⟩ rfl (by rw [List.length_map]; exact hn) h.2.2.1.1 rfl (lv_room (by rw [sct_sum]; exact h8)) hd ⟨r1, r2⟩
theorem zw_callI {d m' idx : Nat} {x : Int} {as : List Vl} {k : Vl → Hp → Prop} (hC : zCx Γ p s m args meth c mi) (hX : zXt Γ s) (hfl : l.flags = flags0) (hd : decode (zB mi) pc = .ok (.invokespecial idx, 3)) (hm : m' < 291) (hw : Cond.methodLink (zCn (zOn mi)) idx (zYn m') ∈ gw) (his : zIs m' = false) (hni : (zYn m').name = "<init>") (hrt : zRt m' = none) (hf : 2 * (d + 1) + 20 ≤ R.frames) (hl : 128 * (d + 1 + 20) ≤ R.locals)
    (hS : Snd d m' (zP m' 0) (zEn m' ((2, x) :: as)) [] S k) (hk : ∀ x S', ¬ k (9, x) S') (hsz : sct ((2, x) :: as) ≤ zMx m') (hn : as.length = zNp m') (h8 : sct st ≤ 8) (hx : ¬ x = 0) (hL : zLs ls ls' (zBc m') (zBs m'))
    (kk : ∀ r S', k r S' → zTag r → zW Γ p l e R s m args below meth c Z mi (pc + 3) ls' (zPu r st) S') : zW Γ p l e R s m args below meth c Z mi pc ls (((2, x) :: as).reverse ++ st) S := by
  have hE := hC.2.2.2.2.2.2.2.2
  have hts := hC.2.2.2.2.2.1
  obtain ⟨f1, f2, f3, f4, f5, f6, f7, f8⟩ := zM_facts hm
  refine zw_run (a := (((2, x) :: as).map (cv Γ)).toArray) hE hL (fun h => (ok_app h).2) (fun H locs cells slots lsA h => ?_) kk
  obtain ⟨r1, r2, -⟩ := hL.room h
  have hst : List.map (cv Γ) (((2, x) :: as).reverse ++ st) = (as.map (cv Γ)).reverse ++ .ref (zAd Γ x) :: st.map (cv Γ) := by
    rw [List.map_append, List.map_reverse, List.map_cons, List.reverse_cons, List.append_assoc, cv_at Γ hx]
    rfl
  have hA : (((2, x) :: as).map (cv Γ)).toArray = (Value.ref (zAd Γ x) :: as.map (cv Γ)).toArray := by
    rw [List.map_cons, cv_at Γ hx]
  rw [hst, hA]
  have cb := zCB (d := d) hC hm hf hl (hts _ hw)
  rw [hrt] at cb
  exact va_runI (l := l) (e := e) (below := below) (meth := meth) (locs := locs) (cells := cells) (slots := slots) (As := as.map (cv Γ)) (rest := st.map (cv Γ)) (b := zAd Γ x) (g := F0 m pc lsA ((as.map (cv Γ)).reverse ++ .ref (zAd Γ x) :: st.map (cv Γ))) (Ts := gw) ⟨hC.1, hC.2.1, hC.2.2.2.1, hC.2.2.2.2.1, hts⟩ (zMet (Γ := Γ) hfl hm hS hk hsz (ok_app h.ok).1) ⟨cb, hni, hts _ (f3 his).1⟩
    ⟨zPc_blind Γ _ S, fun U hU hW => ⟨hA.symm, by rw [hU]; exact h.1, hE.moved hW (locs := locs) (by rw [hU]; exact h.2.1), hX.moved hW (locs := locs) (by rw [hU]; exact h.2.1)⟩⟩ rfl (by rw [List.length_map]; exact hn) h.2.2.1.1 rfl (lv_room (by rw [sct_sum]; exact h8)) hd ⟨r1, r2⟩
set_option maxRecDepth 8000 in
theorem zCN {d m' idx : Nat} (hC : zCx Γ p s m args meth c mi) (hm : m' < 291) (hf : 2 * (d + 1) + 20 ≤ R.frames) (hl : 128 * (d + 1 + 20) ≤ R.locals) (hlink : va_Nw (.methodLinkNest (zCn (zOn mi)) idx (zYn m') "CurveRingsClosed") s) : va_CN R s args (zCn (zOn mi)) idx (zYn m') "CurveRingsClosed" (zB m') (zMx m') (zRt m') (zWs m') (zRm d m') (zBc m') (zBs m') (zNp m') := by
  obtain ⟨f1, f2, f3, f4, f5, f6, f7, f8⟩ := zM_facts hm
  have hts := hC.2.2.2.2.2.1
  have hfr : (zRm d m').frames + 1 ≤ R.frames := by simp only [zRm]; omega
  have hlr : 8 + (zMx m' + 11) + (zRm d m').locals ≤ R.locals := by simp only [zRm]; omega
  exact va_cnB (zNp m') hts (zWs_good hm) rfl rfl rfl hlink (hts _ f1) ⟨f6.1, f6.2, f7⟩ ⟨hfr, hlr⟩
theorem zw_callSN {d m' idx : Nat} {as : List Vl} {k : Vl → Hp → Prop} (hC : zCx Γ p s m args meth c mi) (hX : zXt Γ s) (hfl : l.flags = flags0) (hd : decode (zB mi) pc = .ok (.invokestatic idx, 3)) (hm : m' < 291) (hw : va_Nw (.methodLinkNest (zCn (zOn mi)) idx (zYn m') "CurveRingsClosed") s) (his : zIs m' = true) (hf : 2 * (d + 1) + 20 ≤ R.frames) (hl : 128 * (d + 1 + 20) ≤ R.locals)
    (hS : Snd d m' (zP m' 0) (zEn m' as) [] S k) (hk : ∀ x S', ¬ k (9, x) S') (hsz : sct as ≤ zMx m') (hn : as.length = zNp m') (h8 : sct st ≤ 8) (hL : zLs ls ls' (zBc m') (zBs m'))
    (kk : ∀ r S', k r S' → zTag r → zW Γ p l e R s m args below meth c Z mi (pc + 3) ls' (zPu r st) S') : zW Γ p l e R s m args below meth c Z mi pc ls (as.reverse ++ st) S := by
  have hE := hC.2.2.2.2.2.2.2.2
  have hts := hC.2.2.2.2.2.1
  obtain ⟨f1, f2, f3, f4, f5, f6, f7, f8⟩ := zM_facts hm
  refine zw_run (a := (as.map (cv Γ)).toArray) hE hL (fun h => (ok_app h).2) (fun H locs cells slots lsA h => ?_) kk
  obtain ⟨r1, r2, -⟩ := hL.room h
  have hst : List.map (cv Γ) (as.reverse ++ st) = (as.map (cv Γ)).reverse ++ st.map (cv Γ) := by
    rw [List.map_append, List.map_reverse]
  rw [hst]
  exact va_runSN (l := l) (e := e) (below := below) (meth := meth) (locs := locs) (cells := cells) (slots := slots) (As := as.map (cv Γ)) (rest := st.map (cv Γ)) (g := F0 m pc lsA ((as.map (cv Γ)).reverse ++ st.map (cv Γ))) (Ts := gw) ⟨hC.1, hC.2.1, hC.2.2.2.1, hC.2.2.2.2.1, hts⟩ (zMet (Γ := Γ) hfl hm hS hk hsz (ok_app h.ok).1) ⟨zCN hC hm hf hl hw, hts _ (f2 his), trivial⟩
    ⟨zPc_blind Γ _ S, fun U hU hW => ⟨rfl, by rw [hU]; exact h.1, hE.moved hW (locs := locs) (by rw [hU]; exact h.2.1), hX.moved hW (locs := locs) (by rw [hU]; exact h.2.1)⟩⟩ rfl (by rw [List.length_map]; exact hn) h.2.2.1.1 rfl (lv_room (by rw [sct_sum]; exact h8)) hd ⟨r1, r2⟩
theorem zw_callIN {d m' idx : Nat} {x : Int} {as : List Vl} {k : Vl → Hp → Prop} (hC : zCx Γ p s m args meth c mi) (hX : zXt Γ s) (hfl : l.flags = flags0) (hd : decode (zB mi) pc = .ok (.invokespecial idx, 3)) (hm : m' < 291) (hw : va_Nw (.methodLinkNest (zCn (zOn mi)) idx (zYn m') "CurveRingsClosed") s) (his : zIs m' = false) (hni : (zYn m').name = "<init>") (hrt : zRt m' = none) (hf : 2 * (d + 1) + 20 ≤ R.frames) (hl : 128 * (d + 1 + 20) ≤ R.locals)
    (hS : Snd d m' (zP m' 0) (zEn m' ((2, x) :: as)) [] S k) (hk : ∀ x S', ¬ k (9, x) S') (hsz : sct ((2, x) :: as) ≤ zMx m') (hn : as.length = zNp m') (h8 : sct st ≤ 8) (hx : ¬ x = 0) (hL : zLs ls ls' (zBc m') (zBs m'))
    (kk : ∀ r S', k r S' → zTag r → zW Γ p l e R s m args below meth c Z mi (pc + 3) ls' (zPu r st) S') : zW Γ p l e R s m args below meth c Z mi pc ls (((2, x) :: as).reverse ++ st) S := by
  have hE := hC.2.2.2.2.2.2.2.2
  have hts := hC.2.2.2.2.2.1
  obtain ⟨f1, f2, f3, f4, f5, f6, f7, f8⟩ := zM_facts hm
  refine zw_run (a := (((2, x) :: as).map (cv Γ)).toArray) hE hL (fun h => (ok_app h).2) (fun H locs cells slots lsA h => ?_) kk
  obtain ⟨r1, r2, -⟩ := hL.room h
  have hst : List.map (cv Γ) (((2, x) :: as).reverse ++ st) = (as.map (cv Γ)).reverse ++ .ref (zAd Γ x) :: st.map (cv Γ) := by
    rw [List.map_append, List.map_reverse, List.map_cons, List.reverse_cons, List.append_assoc, cv_at Γ hx]
    rfl
  have hA : (((2, x) :: as).map (cv Γ)).toArray = (Value.ref (zAd Γ x) :: as.map (cv Γ)).toArray := by
    rw [List.map_cons, cv_at Γ hx]
  rw [hst, hA]
  have cb := zCN (d := d) hC hm hf hl hw
  rw [hrt] at cb
  exact va_runIN (l := l) (e := e) (below := below) (meth := meth) (locs := locs) (cells := cells) (slots := slots) (As := as.map (cv Γ)) (rest := st.map (cv Γ)) (b := zAd Γ x) (g := F0 m pc lsA ((as.map (cv Γ)).reverse ++ .ref (zAd Γ x) :: st.map (cv Γ))) (Ts := gw) ⟨hC.1, hC.2.1, hC.2.2.2.1, hC.2.2.2.2.1, hts⟩ (zMet (Γ := Γ) hfl hm hS hk hsz (ok_app h.ok).1) ⟨cb, hni, hts _ (f3 his).1⟩
    ⟨zPc_blind Γ _ S, fun U hU hW => ⟨hA.symm, by rw [hU]; exact h.1, hE.moved hW (locs := locs) (by rw [hU]; exact h.2.1), hX.moved hW (locs := locs) (by rw [hU]; exact h.2.1)⟩⟩ rfl (by rw [List.length_map]; exact hn) h.2.2.1.1 rfl (lv_room (by rw [sct_sum]; exact h8)) hd ⟨r1, r2⟩
end ZC
