/-! From the abstract machine's law to the law's entry: the world at the start. -/
def R_law : String := "CurveRingsClosedLaw"
def zStT : Term := .static "CurveRingsClosed$Minors" "START" "[I"
/-- the first heap: nothing is made yet, the script lies at -2 -/
def zH0 (L : Nat) (xs : Nat → Int32) : Hp := (fun a => if a = -2 then (0, (L : Int)) else (0, 0), (1, 1), fun a j => if a = -2 then (xs j.toNat).toInt else 0)
theorem zH0_K (L : Nat) (xs : Nat → Int32) (a : Int) : zK (zH0 L xs) a = 0 := by
  unfold zK zH0
  dsimp only
  split <;> rfl
theorem zH0_L (L : Nat) (xs : Nat → Int32) : zL (zH0 L xs) (-2) = L := rfl
theorem zH0_G (L : Nat) (xs : Nat → Int32) (j : Int) : zG (zH0 L xs) (-2) j = (xs j.toNat).toInt := rfl
theorem zArrs {args : Array Value} {s : State} (hts : ∀ w ∈ lw_tbl, w.before args s = true) : ∃ f : Nat → ClassId, ∀ k, k < 8 → ArrOfT s (f k) (zTy k) ∧ va_RA s (f k) (zTy k) := by
  have prim : ∀ ty : FieldType, (∀ C, ty ≠ .object C) → Cond.arrayClass ty ∈ gw → ∃ c : ClassId, ArrOfT s c ty ∧ va_RA s c ty := by
    intro ty hty hw
    obtain ⟨c, kA, comp, h1, h2, h3⟩ := Cond.arrayClass_spec (hts _ (List.mem_filter.mp hw).1)
    refine ⟨c, fun n z => ⟨fun k h => (by cases h), kA, h2, comp, h3⟩, ?_⟩
    cases ty with
    | object C => exact absurd rfl (hty C)
    | _ => exact h1
  have obj : ∀ C : String, Cond.arrayOver (.object C) ∈ lw_tbl → ∃ c : ClassId, ArrOfT s c (.object C) ∧ va_RA s c (.object C) := by
    intro C hw
    obtain ⟨comp, c, kA, h1, -, h2, h3, h4⟩ := Cond.arrayOver_spec (hts _ hw)
    exact ⟨c, fun n z => ⟨fun k h => (by cases h), kA, h2, comp, h3⟩, kA, comp, h2, h3, h1, h4⟩
  have arr : ∃ c : ClassId, ArrOfT s c (.array .int) ∧ va_RA s c (.array .int) := by
    obtain ⟨comp, c, kA, h1, -, h2, h3, h4⟩ := arrayOverA_spec (hts _ zW_aoI)
    exact ⟨c, fun n z => ⟨fun k h => (by cases h), kA, h2, comp, h3⟩, h4⟩
  have hall : ∀ k : Nat, ∃ c : ClassId, k < 8 → ArrOfT s c (zTy k) ∧ va_RA s c (zTy k) := by
    intro k
    by_cases hk : k < 8
    · rcases (show k = 0 ∨ k = 1 ∨ k = 2 ∨ k = 3 ∨ k = 4 ∨ k = 5 ∨ k = 6 ∨ k = 7 by omega) with rfl | rfl | rfl | rfl | rfl | rfl | rfl | rfl
      · obtain ⟨c, h⟩ := prim .int (fun _ h => by cases h) zW_ac_int
        exact ⟨c, fun _ => h⟩
      · obtain ⟨c, h⟩ := prim .long (fun _ h => by cases h) zW_ac_long
        exact ⟨c, fun _ => h⟩
      · obtain ⟨c, h⟩ := prim .boolean (fun _ h => by cases h) zW_ac_boolean
        exact ⟨c, fun _ => h⟩
      · obtain ⟨c, h⟩ := obj RX3 zW_ao3
        exact ⟨c, fun _ => h⟩
      · obtain ⟨c, h⟩ := obj RX6 zW_ao6
        exact ⟨c, fun _ => h⟩
      · obtain ⟨c, h⟩ := obj RX9 zW_ao9
        exact ⟨c, fun _ => h⟩
      · obtain ⟨c, h⟩ := obj RX7 zW_ao7
        exact ⟨c, fun _ => h⟩
      · obtain ⟨c, h⟩ := arr
        exact ⟨c, fun _ => h⟩
    · exact ⟨(prim .int (fun _ h => by cases h) zW_ac_int).choose, fun h => absurd h hk⟩
  exact ⟨fun k => (hall k).choose, fun k hk => (hall k).choose_spec hk⟩
theorem zKnown {args : Array Value} {s : State} (hts : ∀ w ∈ lw_tbl, w.before args s = true) : ∃ D : va_G, ∀ c, c < 12 → u_Kn s (zCn c) (zTf c) (zNf c) (D.1 c) (D.2 c) := by
  have hall : ∀ c : Nat, ∃ q : ClassId × (Nat → Nat), c < 12 → u_Kn s (zCn c) (zTf c) (zNf c) q.1 q.2 := by
    have one : ∀ c, c < 12 → ∃ q : ClassId × (Nat → Nat), u_Kn s (zCn c) (zTf c) (zNf c) q.1 q.2 := by
      intro c hc
      have hx := List.all_eq_true.mp zX_ok c (List.mem_range.mpr hc)
      simp only [zXok, Bool.and_eq_true] at hx
      obtain ⟨cC, iS, h⟩ := u_known (C := zCn c) (T := zTf c) (N := zNf c) (n := zNf c) hts (fun w hw => (List.mem_filter.mp (zIn_lay c hc w hw)).1) (hts _ (List.mem_filter.mp (zIg_mem hx.1)).1)
      exact ⟨(cC, iS), h⟩
    intro c
    by_cases hc : c < 12
    · obtain ⟨q, hq⟩ := one c hc
      exact ⟨q, fun _ => hq⟩
    · exact ⟨(one 0 (by omega)).choose, fun h => absurd h hc⟩
  exact ⟨(fun c => (hall c).choose.1, fun c => (hall c).choose.2), fun c hc => (hall c).choose_spec hc⟩
theorem zStart {args : Array Value} {s : State} (hgv : (Jvm.Cond.and given_1 narrow_1).before args s = true) : ∃ (t : Nat) (cell : Cell), zStT.eval args s none [] s = some (.ref t) ∧ s.heap[t]? = some cell ∧ s.isArrayOf cell .int ∧ cell.vm ≠ .unknown ∧ 16 ≤ cell.slots.size ∧ ∀ j : Nat, j < 16 → cell.slots[j]? = some (.int (Int32.ofInt (zSt j))) := by
  have hs := flat_of_before _ hgv
  have harr : (Cond.arrayOf zStT .int).before args s = true := hs _ (by decide +kernel)
  have hlen : (Term.length zStT).eval args s none [] s = some (.int (Int32.ofNat 16)) := Cond.eq_int (hs (.eq (.length zStT) (.int 16)) (by decide +kernel)) rfl
  have hel : ∀ j : Nat, j < 16 → (Term.elem zStT (.int (Int32.ofNat j))).eval args s none [] s = some ((fun j => .int (Int32.ofInt (zSt (j : Nat)))) j) := by
    intro j hj
    have one : ∀ (j : Nat) (v : Int32), Cond.eq (.elem zStT (.int (Int32.ofNat j))) (.int v) ∈ flatC (Jvm.Cond.and given_1 narrow_1) → v = Int32.ofInt (zSt j) → (Term.elem zStT (.int (Int32.ofNat j))).eval args s none [] s = some (.int (Int32.ofInt (zSt j))) := by
      intro j v hm hv
      rw [← hv]
      exact Cond.eq_int (hs _ hm) rfl
    rcases (show j = 0 ∨ j = 1 ∨ j = 2 ∨ j = 3 ∨ j = 4 ∨ j = 5 ∨ j = 6 ∨ j = 7 ∨ j = 8 ∨ j = 9 ∨ j = 10 ∨ j = 11 ∨ j = 12 ∨ j = 13 ∨ j = 14 ∨ j = 15 by omega) with rfl | rfl | rfl | rfl | rfl | rfl | rfl | rfl | rfl | rfl | rfl | rfl | rfl | rfl | rfl | rfl
    · exact one 0 0 (by decide +kernel) (by decide +kernel)
    · exact one 1 1 (by decide +kernel) (by decide +kernel)
    · exact one 2 3 (by decide +kernel) (by decide +kernel)
    · exact one 3 5 (by decide +kernel) (by decide +kernel)
    · exact one 4 8 (by decide +kernel) (by decide +kernel)
    · exact one 5 10 (by decide +kernel) (by decide +kernel)
    · exact one 6 13 (by decide +kernel) (by decide +kernel)
    · exact one 7 16 (by decide +kernel) (by decide +kernel)
    · exact one 8 20 (by decide +kernel) (by decide +kernel)
    · exact one 9 22 (by decide +kernel) (by decide +kernel)
    · exact one 10 25 (by decide +kernel) (by decide +kernel)
    · exact one 11 28 (by decide +kernel) (by decide +kernel)
    · exact one 12 32 (by decide +kernel) (by decide +kernel)
    · exact one 13 35 (by decide +kernel) (by decide +kernel)
    · exact one 14 39 (by decide +kernel) (by decide +kernel)
    · exact one 15 43 (by decide +kernel) (by decide +kernel)
  obtain ⟨t, ht, cell, h1, h2, h3, h4, -, h5, -⟩ := va_Tof (N := 16) (f := fun j => .int (Int32.ofInt (zSt (j : Nat)))) (A := fun _ => False) (by decide) harr hlen hel (fun _ _ h => h)
  exact ⟨t, cell, ht, h1, h2, h3, h4, h5⟩
theorem zTexts {args : Array Value} {s : State} (hts : ∀ w ∈ lw_tbl, w.before args s = true) {cC : ClassId} (hC : s.vm.findClass (zCn 10) = some cC) : ∀ q ∈ zTx, ∃ sa, vk_R (zCn 10) q.1 q.2 sa s := by
  have one : ∀ (i : Nat) (tx : String), Cond.stringRef (zCn 10) i tx ∈ lw_tbl → ∃ sa, vk_R (zCn 10) i tx sa s := by
    intro i tx hw
    obtain ⟨-, -, -, sa, -, -, -, -, -, hev⟩ := Cond.stringRef_spec hC (hts _ hw)
    exact ⟨sa, vk_R.of (hts _ hw) hev⟩
  intro q hq
  simp only [zTx, List.mem_cons, List.not_mem_nil, or_false] at hq
  rcases hq with rfl | rfl | rfl | rfl
  · exact one _ _ (zIn_mem (k := 1300) (by decide +kernel))
  · exact one _ _ (zIn_mem (k := 1316) (by decide +kernel))
  · exact one _ _ (zIn_mem (k := 1329) (by decide +kernel))
  · exact one _ _ (zIn_mem (k := 1338) (by decide +kernel))
def lw_Q (_ : Array Value) (s : State) (o : Outcome) (t : State) : Prop := o = .returned (some (.int 1)) ∧ Framed s o t [] 603072 7088234
def lw_Z (below : List Frame) (a : Array Value) (s : State) : State → Prop := fun t => ∃ o, t.status = .running ∧ Ended t below o ∧ lw_Q a s o t
/-- the law's own end, with 1 on the stack, nothing written that was there before, its room as the claim has it -/
theorem lw_ret {p : Program} {l : Launch} {e : Env} {s : State} {m : MethodId} {below : List Frame} {meth : Method} {c : Code} {b : Nat} (hx : p.tables.exec = Jvm.exec) (hb : c.code = code) (hr : meth.sig.returnType = ret) (hlocks : meth.locks = false) {pc : Nat} {H : Heap} {ls : Array Slot} (hdg : decode code pc = .ok (.ireturn, 1)) : W p l e room_1 s m #[Value.ref b] below meth c H [] 603072 7088234 (lw_Z below #[Value.ref b] s) (F0 m pc ls [.int 1]) := by
  intro T hT X
  obtain ⟨fs, hret, hrun, hended, hW, hframe⟩ := X.leave (v := some (.int 1)) (hlocks := hlocks) (fun h => by rw [hr] at h; cases h)
  have hmeth' : T.vm.method? m = some meth := X.method'
  refine ⟨T.setFrames fs, ?_, .returned (some (.int 1)), hrun, hended, rfl, ⟨_, rfl⟩, hW, hframe⟩
  jvm_step X.here [X.here.top, hx, hb, hdg, hmeth', hr, ret, narrow_b1]
  (try refine ⟨rfl, ?_⟩); (try refine ⟨rfl, ?_⟩)
  first | (intro acts; rw [hret _ acts rfl rfl rfl]) | rw [hret _ _ rfl rfl rfl]
  exact Steps.refl _
/-- what holds at the law's entry -/
def lw_At (p : Program) (s : State) (m : MethodId) (meth : Method) (c : Code) (b L : Nat) (xs : Nat → Int32) : Prop :=
  p.tables.exec = Jvm.exec ∧ c.code = code ∧ meth.sig.returnType = ret ∧ c.maxLocals = 8 ∧ s.vm.findClass R_law = some m.cls ∧ (∀ w ∈ lw_tbl, w.before #[Value.ref b] s = true) ∧ va_X b L xs s s.heap ∧ b < s.heap.size ∧ meth.locks = false ∧ (Jvm.Cond.and given_1 narrow_1).before #[Value.ref b] s = true ∧ meth.name = "law"
/-- what is left of the claim: the abstract machine's law answers 1 -/
def zLaw : Prop := ∀ (L : Nat) (xs : Nat → Int32), L ≤ 3072 → Ev 600 291 [(2, -2)] (zH0 L xs) (fun r _ => r = (0, 1))
set_option maxHeartbeats 4000000 in
theorem whole_start (hlaw : zLaw) {p : Program} {e : Env} {s : State} {m : MethodId} {below : List Frame} {meth : Method} {c : Code} (l : Launch) (hflags : l.flags = flags0) {b L : Nat} {xs : Nat → Int32} (hL : L ≤ 3072) (C0 : lw_At p s m meth c b L xs) : W p l e room_1 s m #[Value.ref b] below meth c s.heap [] 0 0 (lw_Z below #[Value.ref b] s) (entryFrame m ([Value.ref b] : List Value).toArray 8) := by
  obtain ⟨hx, hb, hr, hml, hown, hts, ⟨scr, hX1, hX2, hX3, hX4, hX5⟩, hbl, hlocks, hgv, hnm⟩ := C0
  have hs := flat_of_before _ hgv
  obtain ⟨D, hD⟩ := zKnown hts
  obtain ⟨f, hf⟩ := zArrs hts
  obtain ⟨t, cell, ht, hc1, hc2, hc3, hc4, hc5⟩ := zStart hgv
  have htl : t < s.heap.size := (Array.getElem?_eq_some_iff.mp hc1).1
  let Γ : ZG := ((s.heap.size, b, t), D, f, scr, cell)
  have hA : ∀ a : Nat, a < s.heap.size → ¬ zA0 Γ a := fun a ha h => Nat.not_le.mpr ha h
  have hts' : ∀ w ∈ gw, w.before #[Value.ref b] s = true := fun w hw => hts w (List.mem_filter.mp hw).1
  have hE : zExt Γ s := by
    refine ⟨⟨?_, ?_⟩, ?_, ⟨va_AO.of (hts _ zW_ao3), va_AO.of (hts _ zW_ao6), va_AO.of (hts _ zW_ao9), va_AO.of (hts _ zW_ao7)⟩, va_AOA.of (hts _ zW_aoI), ⟨hX2, hX3⟩, ⟨hc2, hc3, hc4, hc5⟩, ⟨hbl, htl⟩, va_Zof (hts _ zW_st2) (hts' _ (zIg_mem (k := (zIp 5).2) (by decide +kernel))) ht hA, Nat.le_refl _⟩
    · intro c q hq
      by_cases hc : c < 12
      · rw [zCl_at hc] at hq
        cases hq
        exact hD c hc
      · simp [zCl, hc] at hq
    · intro k q hq
      by_cases hk : k < 8
      · rw [zTys_at Γ hk] at hq
        cases hq
        exact hf k hk
      · simp [zTys, hk] at hq
    · intro q hq hk
      have hz := List.all_eq_true.mp zML_ok q hq
      obtain ⟨q1, q2, q3, q4, q5⟩ := q
      rcases hk with hk | hk
      · have hk : q4 = 3 := hk
        subst hk
        simp only [zMok, Bool.and_eq_true] at hz
        exact va_Nw.of rfl (hts _ (zIn_mem hz.1))
      · have hk : q4 = 4 := hk
        subst hk
        simp only [zMok, Bool.and_eq_true] at hz
        exact va_Nw.of rfl (hts _ (zIn_mem hz.1))
  have hXt : zXt Γ s := by
    refine ⟨vx_Zqof (hts _ (zIn_mem (k := 1231) (by decide +kernel))) (hts' _ (zIg_mem (k := 123) (by decide +kernel))) (hs _ (by decide +kernel)) hA, vx_Zqof (hts _ (zIn_mem (k := 1233) (by decide +kernel))) (hts' _ (zIg_mem (k := 123) (by decide +kernel))) (hs _ (by decide +kernel)) hA, zTexts hts (hD 10 (by decide)).2.1, ?_, ?_, va_Nc.of (hs _ (by decide +kernel)), va_Nc.of (hs _ (by decide +kernel)), va_Nc.of (hs _ (by decide +kernel))⟩
    · intro Y hY
      simp only [List.mem_cons, List.not_mem_nil, or_false] at hY
      rcases hY with rfl | rfl | rfl
      · exact va_Nw.of rfl (hts _ (zIn_mem (k := 1266) (by decide +kernel)))
      · exact va_Nw.of rfl (hts _ (zIn_mem (k := 1268) (by decide +kernel)))
      · exact va_Nw.of rfl (hts _ (zIn_mem (k := 1270) (by decide +kernel)))
    · intro E hE'
      simp only [zEx, List.mem_cons, List.not_mem_nil, or_false] at hE'
      rcases hE' with rfl | rfl | rfl
      · exact va_Nw.of rfl (hts _ (zIn_mem (k := 1293) (by decide +kernel)))
      · exact va_Nw.of rfl (hts _ (zIn_mem (k := 1309) (by decide +kernel)))
      · exact va_Nw.of rfl (hts _ (zIn_mem (k := 1264) (by decide +kernel)))
  have hC : zCx Γ p s m #[Value.ref b] meth c 291 := ⟨hx, hb, hr, hml, hown, hts', hlocks, hnm, hE⟩
  have hscr : zScr Γ (zH0 L xs) := by
    refine ⟨by rw [zH0_L]; exact congrArg Int.ofNat hX4.symm, by rw [zH0_L]; omega, fun j h0 hj => ?_⟩
    rw [zH0_L] at hj
    rw [zH0_G]
    refine ⟨?_, Int32.le_toInt _, Int32.toInt_lt _⟩
    rw [Int32.ofInt_toInt]
    exact hX5 _ (by omega)
  have hR : zRep Γ (zH0 L xs) s.heap := ⟨⟨Int.le_refl _, fun a ha => absurd (zH0_K L xs a) ha, fun a ha => absurd (zH0_K L xs a) ha, fun a j ha => absurd (zH0_K L xs a) ha⟩, fun k hk => absurd (zH0_K L xs k) hk, Nat.le_refl _, fun _ => rfl, hscr, hX1, hc1⟩
  have hent := zSd_entry (Γ := Γ) (s := s) (m := 291) (d := 600) (as := [(2, -2)]) (S := zH0 L xs) (by decide) (by decide) (fun v hv => by rw [List.mem_singleton.mp hv]; exact ⟨fun q => (by cases q), fun q => (by cases q)⟩) hR
  rw [lg_entry_eq]
  refine at_snd (hlaw L xs hL) Γ p l e room_1 s m #[Value.ref b] below meth c (lw_Z below #[Value.ref b] s) 0 (by decide) (zOkM_at (ok_all 291 (by decide)) 0) hC hXt hflags (by decide) (by decide) ?_ s.heap [] 0 0 _ hent
  intro r S' i pc' st' ls' hq he hd H locs cells slots lsA h
  cases hq
  rcases he with ⟨rfl, z, hz, rfl, -⟩ | ⟨-, z, hz, -⟩ | ⟨-, z, hz, -⟩ | ⟨-, hz, -⟩ | ⟨idx, cd, -, hz, -⟩
  · cases hz
    exact va_forget (fun q hq => h.2.1.2.2 q hq) (W.widen h.2.2.2.2.2.1 h.2.2.2.2.2.2.1 (lw_ret hx hb hr hlocks hd))
  · cases hz
  · cases hz
  · cases hz
  · cases hz
