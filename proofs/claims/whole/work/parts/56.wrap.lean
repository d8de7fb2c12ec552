/-! The law's own two methods that catch what a call throws. -/
theorem runAt_bind {α β : Type} (r : Jvm.ClassFile.Decoder α) (f : α → Jvm.ClassFile.Decoder β) (code : ByteArray) (pc : Nat) : Jvm.ClassFile.Reader.runAt (r >>= f) code pc = (Jvm.ClassFile.Reader.runAt r code pc >>= fun q => Jvm.ClassFile.Reader.runAt (f q.1) code q.2) := rfl
theorem u1_oob {code : ByteArray} {pc : Nat} (h : ¬ pc < code.size) : ∃ er, Jvm.ClassFile.Reader.runAt (Jvm.ClassFile.Reader.u1 : Jvm.ClassFile.Decoder Nat) code pc = .error er := by
  unfold Jvm.ClassFile.Reader.u1
  simp only [runAt_bind]
  refine ⟨Jvm.ClassFile.HasTruncated.truncated pc, ?_⟩
  show Jvm.ClassFile.Reader.runAt (dite (pc < code.size) _ _) code pc = _
  rw [dif_neg h]
  rfl
theorem decode_oob {code : ByteArray} {pc : Nat} (h : ¬ pc < code.size) (q : Instr × Nat) : decode code pc ≠ .ok q := by
  obtain ⟨er, he⟩ := u1_oob h
  unfold decode Jvm.ClassFile.Decoder.instr
  rw [runAt_bind, he]
  intro z
  cases z
def zNo337 (pc : Nat) : Bool := match decode (zB 135) pc with
  | .ok (.new i, _) => !(Nat.beq i 335)
  | _ => true
theorem zNo337_all : (List.range (zB 135).size).all zNo337 = true := by decide +kernel
theorem get_no3 {pc : Nat} : ¬ decode (zB 135) pc = .ok (.new 335, 3) := by
  intro h
  by_cases hp : pc < (zB 135).size
  · have := List.all_eq_true.mp zNo337_all pc (List.mem_range.mpr hp)
    unfold zNo337 at this
    rw [h] at this
    exact absurd this (by decide)
  · exact decode_oob hp _ h
section ZV
variable {Γ : ZG} {p : Program} {l : Launch} {e : Env} {R : Room} {s : State} {m : MethodId} {args : Array Value} {below : List Frame} {meth : Method} {c : Code} {Z : State → Prop} {mi pc : Nat} {ls ls' : Lc} {st st0 : List Vl} {S : Hp} {cc : ByteArray}
theorem zv_iload_n {k : Fin 4} {x : Int} (hx : p.tables.exec = Jvm.exec) (hb : c.code = cc) (hd : decode cc pc = .ok (.iload_n k, 1)) (hv : lk ls k = some (0, x)) (kk : zW Γ p l e R s m args below meth c Z mi (pc + 1) ls ((0, x) :: st) S) : zW Γ p l e R s m args below meth c Z mi pc ls st S := by
  intro H locs cells slots lsA h
  obtain ⟨h1, h2⟩ := h.at hv (by omega)
  exact lv_iload_n hx hb hd rfl h1 (kk H locs cells slots lsA (h.st (ok_cons h2 h.ok)))
theorem zv_aload_n {k : Fin 4} {x : Int} (hx : p.tables.exec = Jvm.exec) (hb : c.code = cc) (hd : decode cc pc = .ok (.aload_n k, 1)) (hv : lk ls k = some (2, x)) (kk : zW Γ p l e R s m args below meth c Z mi (pc + 1) ls ((2, x) :: st) S) : zW Γ p l e R s m args below meth c Z mi pc ls st S := by
  intro H locs cells slots lsA h
  obtain ⟨h1, h2⟩ := h.at hv (by omega)
  have hk := kk H locs cells slots lsA (h.st (ok_cons h2 h.ok))
  rw [List.map_cons] at hk
  rcases cv_ref Γ x with q | ⟨a, q⟩
  · rw [q] at h1 hk
    exact lv_aload_nN hx hb hd rfl h1 hk
  · rw [q] at h1 hk
    exact lv_aload_n hx hb hd rfl h1 hk
theorem zv_iconst {n : Int} (hx : p.tables.exec = Jvm.exec) (hb : c.code = cc) (hd : decode cc pc = .ok (.iconst n, 1)) (h0 : in32 n) (k : zW Γ p l e R s m args below meth c Z mi (pc + 1) ls ((0, n) :: st) S) : zW Γ p l e R s m args below meth c Z mi pc ls st S :=
  zw_st (st' := (0, n) :: st) (fun h => ok_cons (okV0 h0) h) (fun _ _ _ _ _ _ q => lv_iconst hx hb hd rfl q) k
theorem zv_goto {off : Int} {tgt : Nat} (hx : p.tables.exec = Jvm.exec) (hb : c.code = cc) (hd : decode cc pc = .ok (.goto off, 3)) (ht : (pc : Int) + off = (tgt : Int)) (k : zW Γ p l e R s m args below meth c Z mi tgt ls st S) : zW Γ p l e R s m args below meth c Z mi pc ls st S :=
  zw_st (st' := st) (fun h => h) (fun _ _ _ _ _ _ q => lv_goto hx hb hd ht q) k
theorem zv_last {x j v : Int} (hx : p.tables.exec = Jvm.exec) (hb : c.code = cc) (hE : zExt Γ s) (hd : decode cc pc = .ok (.lastore, 1)) (hK : zK S x = 102) (h0 : 0 ≤ j) (hj : j < zL S x) (kk : zW Γ p l e R s m args below meth c Z mi (pc + 1) ls st (zS S x j v)) : zW Γ p l e R s m args below meth c Z mi pc ls ((1, v) :: (0, j) :: (2, x) :: st) S := by
  intro H locs cells slots lsA h
  have h1 : 1 ≤ x := zx_pos h.1 (by omega)
  have hj32 : in32 j := (ok_hd (ok_tl h.ok)).1 rfl
  have hv64 : in64 v := (ok_hd h.ok).2 rfl
  have hL := zx_len h.1 (x := x) (by omega)
  have hc := zx_cell (k := 1) h.1 (x := x) (by omega)
  rw [List.map_cons, List.map_cons, List.map_cons, cv_at Γ (x := x) (by omega)]
  refine W.last hx hb hc (zx_arr hE (by decide) _ _) (fun q => by cases q) (by rw [arrV_size]; exact o32_in hj32 h0 (by omega)) rfl rfl hd fun H' e1 e2 e3 => ?_
  refine kk H' _ cells slots lsA (h.put hE (ok_tl (ok_tl (ok_tl h.ok))) (by omega) (by rw [hK]; exact ⟨fun q => (by rcases q with q | q <;> cases q), fun _ => hv64⟩) (zCell_arr (by omega) h0 ?_) e2 e3 rfl)
  rw [e1, o32_clamp hj32, hK]
  rfl
/-- what a method that catches answers -/
def zKw (o : Int) (k : Vl → Hp → Prop) : Vl → Hp → Prop := fun r S' => (∃ v S1, k (1, v) S1 ∧ zK S1 o = 102 ∧ 0 < zL S1 o ∧ r = (0, 0) ∧ S' = zS S1 o 0 v) ∨ ∃ (cd : Int) (S1 : Hp), k (9, cd) S1 ∧ r = (0, cd) ∧ S' = zU S1
def zKt (k : Vl → Hp → Prop) (o : Int) : Prop := (∀ x S', ¬ k (0, x) S') ∧ (∀ x S', ¬ k (2, x) S') ∧ (∀ x S', ¬ k (3, x) S') ∧ ∀ v S1, k (1, v) S1 → zK S1 o = 102 ∧ 0 < zL S1 o
/-- the room of a method that catches -/
def zRw (d m : Nat) : Room := { frames := 2 * d + 21, cells := zBc m, slots := zBs m, locals := 128 * (d + 20) + 104 }
theorem zMetWH {y : MethodName} {ws ws' : List Cond} {rm : Room} {Pc : Array Value → State → Prop} {Qc : Array Value → State → Outcome → State → Prop} {mc ms : Nat} {free : Addr → Prop} {maxL : Nat} {ret : Option FieldType} {hh : List (Nat × Nat × Nat × Nat)}
    (hy : plainName y.cls = true) (hw : ws = Cond.codeWith y cc maxL ret hh :: ws')
    (body : ∀ p e s m args below meth c s₁, BodyLoose p l y (headSpec ws rm) cc maxL ret e s m args below meth c s₁ → c.maxLocals = maxL → Pc args s →
      W p l e (headSpec ws rm).room s m args below meth c s.heap [] 0 0 (MQ below Qc args s mc ms free) (entryFrame m args maxL)) : Met l y ws rm Pc Qc mc ms free := by
  refine MetFree.of_bodyS (code := cc) (maxLocals := maxL) (ret := ret) hy ?_ ?_
  · intro args s m h hn
    obtain ⟨m9, meth, c, hn9, h1, h2, h3, h4, -, h5, h6, -⟩ := Cond.codeWith_spec (atoms_spec (ws := ws) h _ (by rw [hw]; exact List.mem_cons_self))
    cases hn.symm.trans hn9
    exact ⟨meth, c, h1, h2, h3, h4, h5, h6⟩
  · intro p e s m args below meth c s₁ B hml hP _
    have hh0 : s₁.heap = s.heap := by rw [B.state]; rfl
    obtain ⟨t, a1, o, b1, b2, b3⟩ := body p e s m args below meth c s₁ B hml hP s₁ hh0 (Stand.of_body B)
    exact ⟨t, o, a1, b1, b2, ⟨b3.1, b3.2⟩⟩
end ZV
set_option maxHeartbeats 4000000 in
set_option maxRecDepth 8000 in
/-- a method that calls one that may throw, and catches what it throws: its contract -/
theorem zMetH {Γ : ZG} {l : Launch} {d m' ix tgt : Nat} {o9 : Int} {yw : MethodName} {cc : ByteArray} {hh : List (Nat × Nat × Nat × Nat)} {x p0 q0 o : Int} {S : Hp} {k : Vl → Hp → Prop}
    (hfl : l.flags = flags0) (hm : m' < 291) (hpl : plainName (zYn m').cls = true) (his : zIs m' = false) (hni : ¬ (zYn m').name = "<init>") (ho : zOn m' < 12) (hnp : zNp m' = 2) (hmx : 3 ≤ zMx m')
    (hyp : plainName yw.cls = true) (hyc : yw.cls = zCn 14)
    (d0 : decode cc 0 = .ok (.aload_n 3, 1)) (d1 : decode cc 1 = .ok (.iconst 0, 1)) (d2 : decode cc 2 = .ok (.aload_n 0, 1)) (d3 : decode cc 3 = .ok (.iload_n 1, 1)) (d4 : decode cc 4 = .ok (.iload_n 2, 1)) (d5 : decode cc 5 = .ok (.invokevirtual ix, 3)) (d8 : decode cc 8 = .ok (.lastore, 1)) (d9 : decode cc 9 = .ok (.goto o9, 3)) (h9 : ((9 : Nat) : Int) + o9 = (tgt : Int)) (dt : decode cc tgt = .ok (.iconst 0, 1)) (dt1 : decode cc (tgt + 1) = .ok (.ireturn, 1))
    (hlink : Cond.methodLink (zCn 14) ix (zYn m') ∈ gw)
    (hcatch : ∀ (cd : Int) (idx pc : Nat), ((cd = 1 ∧ idx = 314) ∨ (cd = 2 ∧ idx = 324) ∨ (cd = 3 ∧ idx = 335)) → decode (zB m') pc = .ok (.new idx, 3) → ∃ (pre : List ExceptionTableEntry) (xx : ExceptionTableEntry) (suf : List ExceptionTableEntry), tableOf hh = pre ++ xx :: suf ∧ (∀ z ∈ pre, covers z 5 = false ∨ (z.catchType ≠ 0 ∧ ∃ nm : String, Cond.classLink (zCn 14) z.catchType nm ∈ gw ∧ ∀ U, zXt Γ U → va_Nc (zXn cd) nm U)) ∧ covers xx 5 = true ∧ xx.catchType ≠ 0 ∧ Cond.classLink (zCn 14) xx.catchType (zXn cd) ∈ gw ∧ decode cc xx.handlerPc = .ok (.astore 4, 2) ∧ decode cc (xx.handlerPc + 2) = .ok (.iconst cd, 1) ∧ decode cc (xx.handlerPc + 2 + 1) = .ok (.ireturn, 1) ∧ in32 cd ∧ zXn cd ∈ zEx)
    (hx9 : zK S x = (zOn m' : Int) + 1) (hS : Snd d m' (zP m' 0) (zEn m' [(2, x), (0, p0), (0, q0)]) [] S k) (hk : zKt k o) (hp0 : in32 p0) (hq0 : in32 q0) :
    Met l yw (Cond.codeWith yw cc 5 (some .int) hh :: gw) (zRw d m') (zPc Γ [(2, x), (0, p0), (0, q0), (2, o)] S) (zQc Γ (zKw o k)) (zBc m') (zBs m') (zA0 Γ) := by
  obtain ⟨f1, f2, f3, f4, f5, f6, f7, f8⟩ := zM_facts hm
  refine zMetWH (cc := cc) (maxL := 5) (ret := some .int) (hh := hh) hyp rfl ?_
  intro p e s m args below meth c s₁ B hml hP
  obtain ⟨rfl, hR, hE, hX⟩ := hP
  have hts0 := atoms_spec (ws := Cond.codeWith yw cc 5 (some .int) hh :: gw) B.pre
  have hts : ∀ w ∈ gw, w.before (([(2, x), (0, p0), (0, q0), (2, o)] : List Vl).map (cv Γ)).toArray s = true := fun w h => hts0 w (List.mem_cons_of_mem _ h)
  have hown : s.vm.findClass (zCn 14) = some m.cls := by rw [← hyc]; exact findClass_of_methodNamed B.named
  have htab : c.exceptionTable.toList = tableOf hh := vx_table (x := yw) B (hts0 _ List.mem_cons_self)
  have hx := B.exec
  have hb := B.bytes
  have hlk := B.notSynchronized
  have hrt := B.returns
  have has : ∀ v ∈ ([(2, x), (0, p0), (0, q0), (2, o)] : List Vl), okV v := by
    intro v hv
    simp only [List.mem_cons, List.not_mem_nil, or_false] at hv
    rcases hv with rfl | rfl | rfl | rfl
    · exact ⟨fun q => (by cases q), fun q => (by cases q)⟩
    · exact okV0 hp0
    · exact okV0 hq0
    · exact ⟨fun q => (by cases q), fun q => (by cases q)⟩
  obtain ⟨a1, a2, a3, a4, a5, -⟩ := zSd_entry (Γ := Γ) (s := s) (m := 5) (d := d) (as := [(2, x), (0, p0), (0, q0), (2, o)]) (by decide) (show 4 ≤ zMx 5 by decide) has hR
  rw [lg_entry_eq]
  have hend : ∀ (H : Heap) (locs : List Loc) (cells slots : Nat) (lsB : Array Slot) (v : Int) (pc : Nat), decode cc pc = .ok (.ireturn, 1) → in32 v → va_S (zA0 Γ) s.heap H locs → (∃ S', zKw o k (0, v) S' ∧ zRep Γ S' H) → cells ≤ zBc m' → slots ≤ zBs m' → W p l e (headSpec (Cond.codeWith yw cc 5 (some .int) hh :: gw) (zRw d m')).room s m (([(2, x), (0, p0), (0, q0), (2, o)] : List Vl).map (cv Γ)).toArray below meth c H locs cells slots (MQ below (zQc Γ (zKw o k)) (([(2, x), (0, p0), (0, q0), (2, o)] : List Vl).map (cv Γ)).toArray s (zBc m') (zBs m') (zA0 Γ)) (F0 m pc lsB [.int (Int32.ofInt v)]) := by
    intro H locs cells slots lsB v pc hd hv hS' hK' hc1 hc2
    obtain ⟨S', hk', hR'⟩ := hK'
    exact W.widen hc1 hc2 (W.iret hx hb hrt (fun t ht _ => ⟨⟨(0, v), S', hk', okV0 hv, Or.inl rfl, rfl, by rw [ht]; exact hR'⟩, hS'.F ht⟩) hS'.2.2 hd hlk)
  have key : zW Γ p l e (headSpec (Cond.codeWith yw cc 5 (some .int) hh :: gw) (zRw d m')).room s m (([(2, x), (0, p0), (0, q0), (2, o)] : List Vl).map (cv Γ)).toArray below meth c (MQ below (zQc Γ (zKw o k)) (([(2, x), (0, p0), (0, q0), (2, o)] : List Vl).map (cv Γ)).toArray s (zBc m') (zBs m') (zA0 Γ)) 5 0 [(0, (2, x)), (1, (0, p0)), (2, (0, q0)), (3, (2, o)), (1000, (0, 0)), (1001, (0, 0))] [] S := by
    refine zv_aload_n (k := 3) hx hb d0 rfl ?_
    refine zv_iconst hx hb d1 ⟨by omega, by omega⟩ ?_
    refine zv_aload_n (k := 0) hx hb d2 rfl ?_
    refine zv_iload_n (k := 1) hx hb d3 rfl ?_
    refine zv_iload_n (k := 2) hx hb d4 rfl ?_
    intro H locs cells slots lsA h T hT X
    have hc0 : (cells : Int) ≤ 0 := h.2.2.2.2.2.2.2.1 0 (by simp)
    have hs0 : (slots : Int) ≤ 0 := h.2.2.2.2.2.2.2.2.1 0 (by simp)
    have hx1 : 1 ≤ x := zx_pos h.1 (by omega)
    obtain ⟨cell, q1, q2, q3, -⟩ := zx_obj h.1 hx9 ho
    have hst : List.map (cv Γ) [(0, q0), (0, p0), (2, x), (0, 0), (2, o)] = (([(0, p0), (0, q0)] : List Vl).map (cv Γ)).reverse ++ .ref (zAd Γ x) :: ([(0, 0), (2, o)] : List Vl).map (cv Γ) := by
      rw [show List.map (cv Γ) [(0, q0), (0, p0), (2, x), (0, 0), (2, o)] = [cv Γ (0, q0), cv Γ (0, p0), cv Γ (2, x), cv Γ (0, 0), cv Γ (2, o)] from rfl, cv_at Γ (x := x) (by omega)]
      rfl
    have hA : (([(2, x), (0, p0), (0, q0)] : List Vl).map (cv Γ)).toArray = (Value.ref (zAd Γ x) :: ([(0, p0), (0, q0)] : List Vl).map (cv Γ)).toArray := by
      rw [List.map_cons, cv_at Γ (by omega)]
    have has3 : ∀ v ∈ ([(2, x), (0, p0), (0, q0)] : List Vl), okV v := fun v hv => has v (by
      simp only [List.mem_cons, List.not_mem_nil, or_false] at hv ⊢
      rcases hv with h | h | h
      · exact Or.inl h
      · exact Or.inr (Or.inl h)
      · exact Or.inr (Or.inr (Or.inl h)))
    have cb : CallB (zRw d m') s (([(2, x), (0, p0), (0, q0), (2, o)] : List Vl).map (cv Γ)).toArray (zCn 14) ix (zYn m') (zB m') (zMx m') (zRt m') (zWs m') (zRm d m') (zBc m') (zBs m') 2 := by
      refine ⟨rfl, rfl, ?_, ?_, pay_in hts (zWs_good hm), List.mem_cons_self, hts _ (cw_all m' hm), hts _ f1, f6, fun sig hs => ?_, hts _ hlink⟩
      · show 2 * d + 20 + 1 ≤ 2 * d + 21
        omega
      · show 8 + (zMx m' + 11) + 128 * (d + 20) ≤ 128 * (d + 20) + 104
        omega
      · rw [hs, hnp] at f7
        exact (Option.some.inj f7).symm
    have hr := vx_runV (l := l) (e := e) (below := below) (meth := meth) (locs := locs) (cells := cells) (slots := slots) (As := ([(0, p0), (0, q0)] : List Vl).map (cv Γ)) (rest := ([(0, 0), (2, o)] : List Vl).map (cv Γ)) (b := zAd Γ x) (C := (zYn m').cls) (g := F0 m 5 lsA ((([(0, p0), (0, q0)] : List Vl).map (cv Γ)).reverse ++ .ref (zAd Γ x) :: ([(0, 0), (2, o)] : List Vl).map (cv Γ))) (Ts := gw) ⟨hx, hb, hml, hown, hts⟩ (zMetX zThIn_ok (Γ := Γ) hfl hm hpl hS hmx has3) ⟨cb, hts _ (f3 his).1, hts _ ((f3 his).2.resolve_left hni)⟩
      ⟨zPc_blind Γ _ S, ⟨cell, q1, by rw [q3]; rfl, by rw [q2, f5]; exact (zx_cls hE ho).2.1⟩, fun U hU hW => ⟨hA.symm, by rw [hU]; exact h.1, hE.moved hW (locs := locs) (by rw [hU]; exact h.2.1), hX.moved hW (locs := locs) (by rw [hU]; exact h.2.1)⟩⟩ rfl rfl h.2.2.1.1 rfl (lv_room (by rw [sct_sum]; exact Nat.le_of_ble_eq_true rfl)) d5 ⟨show cells + zBc m' ≤ zBc m' by omega, show slots + zBs m' ≤ zBs m' by omega⟩
    rw [show (F0 m (0 + 1 + 1 + 1 + 1 + 1) lsA (List.map (cv Γ) [(0, q0), (0, p0), (2, x), (0, 0), (2, o)]) : JFrame) = F0 m 5 lsA ((([(0, p0), (0, q0)] : List Vl).map (cv Γ)).reverse ++ .ref (zAd Γ x) :: ([(0, 0), (2, o)] : List Vl).map (cv Γ)) by rw [hst]]
    obtain ⟨s1, s2, s3⟩ := h.2.1
    rcases hr T hT X with ⟨v, st₀, t, T', L, g0, X', g1, e1, e2, ⟨⟨r, S', hk', hok, htg, hv, hR'⟩, hz, hkp⟩, go⟩ | ⟨q, st₀, t, T', L, E, ce, g0, X', g1, e1, e2, ⟨cd, S', hk', ⟨idx, pc9, hcd, hdn⟩, rfl, hR', hz, hkp⟩, hce, hcv, hcl, go⟩
    · rw [g0] at hz hkp
      have hv' : v = zRv Γ r := Outcome.returned.inj hv
      subst hv'
      have hr1 : ∃ z, r = (1, z) := by
        obtain ⟨tg9, z⟩ := r
        rcases htg with h9 | h9 | h9 | h9
        · have h9 : tg9 = 0 := h9
          subst h9
          exact absurd hk' (hk.1 z S')
        · exact ⟨z, by rw [show tg9 = 1 from h9]⟩
        · have h9 : tg9 = 2 := h9
          subst h9
          exact absurd hk' (hk.2.1 z S')
        · have h9 : tg9 = 3 := h9
          subst h9
          exact absurd hk' (hk.2.2.1 z S')
      obtain ⟨z, rfl⟩ := hr1
      obtain ⟨k1, k2⟩ := hk.2.2.2 z S' hk'
      have hsd : zSd Γ (headSpec (Cond.codeWith yw cc 5 (some .int) hh :: gw) (zRw d m')).room s 5 [(0, (2, x)), (1, (0, p0)), (2, (0, q0)), (3, (2, o))] [(1, z), (0, 0), (2, o)] S' T'.heap (locs ++ L) (cells + zBc m') (slots + zBs m') lsA := by
        refine ⟨by rw [e1]; exact hR', ⟨by rw [e1]; omega, fun x x1 x2 => ?_, fun x hx => ?_⟩, h.2.2.1.mem (cvL_sub (fun q hq _ => ?_)), ?_, fun q hq => h.2.2.2.2.1 q ?_, ⟨show cells + zBc m' ≤ zBc m' by omega, show slots + zBs m' ≤ zBs m' by omega, ?_, ?_, ?_, ?_⟩⟩
        · rw [e1, hkp x (by omega) x2]
          exact s2 x x1 x2
        · rcases List.mem_append.mp hx with hx | hx
          · exact s3 x hx
          · exact g1 x hx
        · simp only [List.mem_cons, List.not_mem_nil, or_false] at hq ⊢
          rcases hq with h | h | h | h <;> simp [h]
        · exact ok_cons hok (ok_tl (ok_tl (ok_tl h.ok)))
        · simp only [List.mem_cons, List.not_mem_nil, or_false] at hq ⊢
          rcases hq with h | h | h | h <;> simp [h]
        all_goals
          intro y hy
          simp at hy
      have kk : zW Γ p l e (headSpec (Cond.codeWith yw cc 5 (some .int) hh :: gw) (zRw d m')).room s m (([(2, x), (0, p0), (0, q0), (2, o)] : List Vl).map (cv Γ)).toArray below meth c (MQ below (zQc Γ (zKw o k)) (([(2, x), (0, p0), (0, q0), (2, o)] : List Vl).map (cv Γ)).toArray s (zBc m') (zBs m') (zA0 Γ)) 5 8 [(0, (2, x)), (1, (0, p0)), (2, (0, q0)), (3, (2, o))] [(1, z), (0, 0), (2, o)] S' := by
        refine zv_last hx hb hE d8 k1 (by omega) k2 (zv_goto (tgt := tgt) hx hb d9 h9 (zv_iconst hx hb dt ⟨by omega, by omega⟩ ?_))
        intro H2 locs2 cells2 slots2 lsB h2
        exact hend H2 locs2 cells2 slots2 lsB 0 (tgt + 1) dt1 ⟨by omega, by omega⟩ h2.2.1 ⟨_, Or.inl ⟨z, S', hk', k1, k2, rfl, rfl⟩, h2.1⟩ h2.2.2.2.2.2.1 h2.2.2.2.2.2.2.1
      obtain ⟨t2, b1, b2⟩ := kk T'.heap (locs ++ L) (cells + zBc m') (slots + zBs m') lsA hsd T' rfl X'
      exact ⟨t2, go t2 b1, b2⟩
    · rw [g0] at hz hkp
      obtain ⟨pre, xx, suf, c1, c2, c3, c4, c5, c6, c7, c8, c9, c10⟩ := hcatch cd idx pc9 hcd hdn
      have hS' : va_S (zA0 Γ) s.heap T'.heap (locs ++ L) := by
        refine ⟨by rw [e1]; omega, fun x x1 x2 => ?_, fun x hx => ?_⟩
        · rw [e1, hkp x (by omega) x2]
          exact s2 x x1 x2
        · rcases List.mem_append.mp hx with hx | hx
          · exact s3 x hx
          · exact g1 x hx
      have hcat := vx_catch (l := l) (e := e) (below := below) (meth := meth) (R := (headSpec (Cond.codeWith yw cc 5 (some .int) hh :: gw) (zRw d m')).room) (Q := MQ below (zQc Γ (zKw o k)) (([(2, x), (0, p0), (0, q0), (2, o)] : List Vl).map (cv Γ)).toArray s (zBc m') (zBs m') (zA0 Γ)) (ls := lsA) (pc := 5) (rest := ([(0, 0), (2, o)] : List Vl).map (cv Γ)) (locs := locs ++ L) (cells := cells + zBc m') (slots := slots + zBs m') (H := T'.heap) (q := q) hown pre xx suf (htab.trans c1) (fun z hz => (c2 z hz).imp id (fun w => ⟨w.1, w.2.choose, hts _ w.2.choose_spec.1, w.2.choose_spec.2 s hX⟩)) c3 c4 (hts _ c5) (va_Nw.use rfl (hX.2.2.2.2.1 _ c10)) (by rw [e1]; exact hce) hcv hcl
        (lv_astore hx hb c6 h.2.2.1 (by decide) rfl (fun lsB _ => lv_iconst hx hb c7 rfl (hend T'.heap (locs ++ L) _ _ lsB cd _ c8 c9 hS' ⟨_, Or.inr ⟨cd, S', hk', rfl, rfl⟩, by rw [e1]; exact hR'⟩ (by omega) (by omega))))
      obtain ⟨t2, b1, b2⟩ := hcat T' rfl X'
      exact ⟨t2, go.trans b1, b2⟩
  refine key s.heap [] 0 0 _ ⟨a1, a2, a3.mem (cvL_sub (fun q hq h9 => ?_)), a4, fun q hq => ?_, Nat.zero_le _, Nat.zero_le _, ?_, ?_, ?_, ?_⟩
  · show q ∈ [(0, (2, x)), (1, (0, p0)), (2, (0, q0)), (3, (2, o))]
    simp only [List.mem_cons, List.not_mem_nil, or_false] at hq ⊢
    rcases hq with h | h | h | h | h | h
    · simp [h]
    · simp [h]
    · simp [h]
    · simp [h]
    · rw [h] at h9
      exact absurd h9 (by decide)
    · rw [h] at h9
      exact absurd h9 (by decide)
  · simp only [List.mem_cons, List.not_mem_nil, or_false] at hq
    rcases hq with rfl | rfl | rfl | rfl | rfl | rfl
    · exact has _ (by simp)
    · exact has _ (by simp)
    · exact has _ (by simp)
    · exact has _ (by simp)
    · exact okV0 in32_0
    · exact okV0 in32_0
  · intro y hy
    simp at hy
    omega
  · intro y hy
    simp at hy
    omega
  · intro y hy
    simp at hy
  · intro y hy
    simp at hy
