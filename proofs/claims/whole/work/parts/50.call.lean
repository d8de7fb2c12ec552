/-! Calls: what the abstract machine says of a method is a contract of it. -/
def zRm (d m : Nat) : Room := { frames := 2 * d + 20, cells := zBc m, slots := zBs m, locals := 128 * (d + 20) }
theorem zNw_warmC {a b : String} {s U : State} (hW : s.WarmedH U.vm) (hZ : va_Nw (.castable a b) s) : va_Nw (.castable a b) U := va_tabs rfl (rfl : (s.setVm U.vm).vm = U.vm) (by rw [Cond.castable_setVm hW.alike]; exact hZ)
def zEx : List String := ["java/lang/IllegalArgumentException", "java/lang/IllegalStateException", "java/lang/ArithmeticException"]
def zTx : List (Nat × String) := [(316, "no such shelf"), (326, "no element on the shelf"), (337, "no long"), (358, "no such number of a row")]
/-- what a throw wants of the world -/
def zXt (Γ : ZG) (U : State) : Prop := vx_Zq Bundle.tN "UNASSIGNED_STACK" Bundle.steD (zA0 Γ) U U.heap ∧ vx_Zq Bundle.tN "SUPPRESSED_SENTINEL" Bundle.listD (zA0 Γ) U U.heap ∧ (∀ q ∈ zTx, ∃ sa, vk_R (zCn 10) q.1 q.2 sa U) ∧ (∀ Y ∈ ["java/lang/RuntimeException", "java/lang/Exception", "java/lang/Throwable"], va_Nw (.declares (Bundle.initS Y)) U) ∧ (∀ E ∈ zEx, va_Nw (.castable E E) U) ∧ (va_Nc "java/lang/IllegalStateException" "java/lang/IllegalArgumentException" U ∧ va_Nc "java/lang/ArithmeticException" "java/lang/IllegalArgumentException" U ∧ va_Nc "java/lang/ArithmeticException" "java/lang/IllegalStateException" U)
def zWs (m : Nat) : List Cond := .code (zYn m) (zB m) (zMx m) (zRt m) :: gw
def zPc (Γ : ZG) (as : List Vl) (S : Hp) : Array Value → State → Prop := fun a U => a = (as.map (cv Γ)).toArray ∧ zRep Γ S U.heap ∧ zExt Γ U ∧ zXt Γ U
def zRv (Γ : ZG) (r : Vl) : Option Value := match r.1 with
  | 3 => none
  | _ => some (cv Γ r)
def zTag (r : Vl) : Prop := r.1 = 0 ∨ r.1 = 1 ∨ r.1 = 2 ∨ r.1 = 3
def zQc (Γ : ZG) (k : Vl → Hp → Prop) : Array Value → State → Outcome → State → Prop := fun _ st o t => (∃ r S', k r S' ∧ okV r ∧ zTag r ∧ o = .returned (zRv Γ r) ∧ zRep Γ S' t.heap) ∧ va_F (zA0 Γ) st t
/-- how a method ends -/
def zEnd (mi : Nat) (i : Instr) (r : Vl) (st : List Vl) (ls : Lc) (pc : Nat) : Prop :=
  (i = .ireturn ∧ ∃ x, r = (0, x) ∧ st = [(0, x)] ∧ (zRt mi = some .int ∨ (zRt mi = some .boolean ∧ in01 x))) ∨ (i = .lreturn ∧ ∃ x, r = (1, x) ∧ st = [(1, x)] ∧ zRt mi = some .long) ∨ (i = .areturn ∧ ∃ x, r = (2, x) ∧ st = [(2, x)] ∧ ((∃ n, zRt mi = some (.object n)) ∨ ∃ t, zRt mi = some (.array t))) ∨ (i = .return_ ∧ r = (3, 0) ∧ st = [] ∧ zRt mi = none) ∨ (∃ idx cd, i = .new idx ∧ r = (9, cd) ∧ zOn mi = 10 ∧ ((cd = 1 ∧ idx = 314) ∨ (cd = 2 ∧ idx = 324) ∨ (cd = 3 ∧ idx = 335)) ∧ zThr mi pc idx = true ∧ sct st ≤ 8 ∧ ∃ cc s9 rc rs : Int, lk ls 1000 = some (0, cc) ∧ lk ls 1001 = some (0, s9) ∧ lk ls 1002 = some (0, rc) ∧ lk ls 1003 = some (0, rs) ∧ cc + 1 ≤ rc ∧ s9 + 6 ≤ rs)
def zLn (i : Instr) : Nat := match i with
  | .new _ => 3
  | _ => 1
def Snd : ZX := fun d mi is ls st S Q => ∀ (Γ : ZG) (p : Program) (l : Launch) (e : Env) (R : Room) (s : State) (m : MethodId) (args : Array Value) (below : List Frame) (meth : Method) (c : Code) (Z : State → Prop) (pc : Nat),
  mi < 292 → zOk mi pc is = true → zCx Γ p s m args meth c mi → zXt Γ s → l.flags = flags0 → 2 * d + 20 ≤ R.frames → 128 * (d + 20) ≤ R.locals →
  (∀ r S' i pc' st' ls', Q r S' → zEnd mi i r st' ls' pc' → decode (zB mi) pc' = .ok (i, zLn i) → zW Γ p l e R s m args below meth c Z mi pc' ls' st' S') → zW Γ p l e R s m args below meth c Z mi pc ls st S
theorem MetW {l : Launch} {y : MethodName} {ws ws' : List Cond} {rm : Room} {Pc : Array Value → State → Prop} {Qc : Array Value → State → Outcome → State → Prop} {mc ms : Nat} {free : Addr → Prop} {cc : ByteArray} {maxL : Nat} {ret : Option FieldType}
    (hy : plainFor y = true) (hw : ws = Cond.code y cc maxL ret :: ws')
    (body : ∀ p e s m args below meth c s₁, BodyLoose p l y (headSpec ws rm) cc maxL ret e s m args below meth c s₁ → c.maxLocals = maxL → Pc args s →
      W p l e (headSpec ws rm).room s m args below meth c s.heap [] 0 0 (MQ below Qc args s mc ms free) (entryFrame m args maxL)) : Met l y ws rm Pc Qc mc ms free := by
  refine MetFree.of_bodySF (code := cc) (maxLocals := maxL) (ret := ret) hy ?_ ?_
  · intro args s m h hn
    obtain ⟨meth, c, h1, h2, h3, h4, h5, h6, -, -⟩ := Cond.code_spec hn (atoms_spec (ws := ws) h _ (by rw [hw]; exact List.mem_cons_self))
    exact ⟨meth, c, h1, h2, h3, h4, h5, h6⟩
  · intro p e s m args below meth c s₁ B hml hP _
    have hh0 : s₁.heap = s.heap := by rw [B.state]; rfl
    obtain ⟨t, a1, o, b1, b2, b3⟩ := body p e s m args below meth c s₁ B hml hP s₁ hh0 (Stand.of_body B)
    exact ⟨t, o, a1, b1, b2, ⟨b3.1, b3.2⟩⟩
theorem la_args (Γ : ZG) : ∀ (i : Nat) (as : List Vl), (la i as).map (fun q => (q.1, cv Γ q.2)) = lv_args i (as.map (cv Γ))
  | _, [] => rfl
  | i, v :: r => by
    show (i, cv Γ v) :: (la (i + ct v) r).map (fun q => (q.1, cv Γ q.2)) = (i, cv Γ v) :: lv_args (if (cv Γ v).category = 2 then i + 2 else i + 1) (r.map (cv Γ))
    rw [la_args Γ (i + ct v) r, cv_cat]
    congr 2
    unfold ct
    split <;> simp_all
theorem la_lt : ∀ (i : Nat) (as : List Vl), ∀ q ∈ la i as, q.1 < i + sct as
  | _, [], _, h => by cases h
  | i, v :: r, q, h => by
    have hc : 1 ≤ ct v := by
      unfold ct
      split <;> omega
    rcases List.mem_cons.mp h with rfl | h
    · show i < i + (ct v + sct r)
      omega
    · have := la_lt (i + ct v) r q h
      show q.1 < i + (ct v + sct r)
      omega
theorem la_ok {as : List Vl} (h : ∀ v ∈ as, okV v) : ∀ (i : Nat), ∀ q ∈ la i as, okV q.2 := by
  induction as with
  | nil => intro i q hq; cases hq
  | cons v r ih =>
    intro i q hq
    rcases List.mem_cons.mp hq with rfl | hq
    · exact ok_hd h
    · exact ih (ok_tl h) _ q hq
theorem sl_len (Γ : ZG) (as : List Vl) : (lg_sl (as.map (cv Γ))).length = sct as := by
  induction as with
  | nil => rfl
  | cons v r ih =>
    show (lg_sl (cv Γ v :: r.map (cv Γ))).length = ct v + sct r
    unfold lg_sl at ih ⊢
    rw [List.flatMap_cons, List.length_append, ih, cv_cat]
    congr 1
    unfold ct
    split <;> simp_all
theorem zEn_mem {m : Nat} {as : List Vl} {q : Nat × Vl} (h : q ∈ zEn m as) : q ∈ la 0 as ∨ q = (1000, (0, 0)) ∨ q = (1001, (0, 0)) ∨ q = (1002, (0, (zBc m : Int))) ∨ q = (1003, (0, (zBs m : Int))) := by
  unfold zEn at h
  split at h
  · exact Or.inl h
  · rename_i c hc
    rcases List.mem_append.mp h with h | h
    · exact Or.inl h
    · right
      simp only [List.mem_cons, List.not_mem_nil, or_false] at h
      rw [hc]
      exact h
theorem zB_small : (List.range 292).all (fun m => Nat.blt (zBc m) 2147483648 && (Nat.blt (zBs m) 2147483648 && Nat.blt (zMx m) 46)) = true := by decide +kernel
theorem gw_good {w : Cond} (h : w ∈ gw) : goodWord w = true := (List.mem_filter.mp h).2
theorem zWs_in {m : Nat} (hm : m < 291) : ∀ w ∈ zWs m, w ∈ gw := by
  intro w hw
  rcases List.mem_cons.mp hw with rfl | hw
  · exact cw_all m hm
  · exact hw
theorem zWs_good {m : Nat} (hm : m < 291) : GoodIn gw (zWs m) := fun w hw => ⟨zWs_in hm w hw, good_of_word (gw_good (zWs_in hm w hw))⟩
theorem va_AOA.moved {u U : State} (hvm : u.vm.Alike U.vm) (h : va_AOA .int u) : va_AOA .int U := Jvm.Stand.arrayOver_alikeB hvm h
theorem zExt.moved {Γ : ZG} {s U : State} (hE : zExt Γ s) (hW : s.WarmedH U.vm) {locs : List Loc} (hS : va_S (zA0 Γ) s.heap U.heap locs) : zExt Γ U := by
  obtain ⟨h1, h2, ⟨a1, a2, a3, a4⟩, h4, ⟨h5, h5'⟩, ⟨h6, h6'⟩, h7, h8, h9⟩ := hE
  have al := hW.alike
  exact ⟨h1.moved al, fun q hq hk => (h2 q hq hk).warmM hW, ⟨a1.moved al, a2.moved al, a3.moved al, a4.moved al⟩, h4.moved al, ⟨State.isArrayOf_alike al h5, h5'⟩, ⟨State.isArrayOf_alike al h6, h6'⟩, h7, (h8.moved al).kept (fun a ha hn => hS.2.1 a ha hn), Nat.le_trans h9 hS.1⟩
theorem zXt.warm {Γ : ZG} {s U : State} (hE : zXt Γ s) (hW : s.WarmedH U.vm) (hS : ∀ a : Nat, a < s.heap.size → ¬ zA0 Γ a → U.heap[a]? = s.heap[a]?) : zXt Γ U :=
  ⟨(hE.1.moved hW.alike).kept hS, (hE.2.1.moved hW.alike).kept hS, fun q hq => (hE.2.2.1 q hq).imp (fun _ h => vk_R.warm hW h), fun Y hY => (hE.2.2.2.1 Y hY).warmD hW, fun E hE' => zNw_warmC hW (hE.2.2.2.2.1 E hE'), hE.2.2.2.2.2.1.moved hW.alike, hE.2.2.2.2.2.2.1.moved hW.alike, hE.2.2.2.2.2.2.2.moved hW.alike⟩
theorem zXt.moved {Γ : ZG} {s U : State} (hE : zXt Γ s) (hW : s.WarmedH U.vm) {locs : List Loc} (hS : va_S (zA0 Γ) s.heap U.heap locs) : zXt Γ U := hE.warm hW (fun a ha hn => hS.2.1 a ha hn)
theorem zXt.calling {Γ : ZG} {U : State} (g : JFrame) (mk : MethodId) (a : Array Value) (hE : zXt Γ U) : zXt Γ (U.calling g mk a) := hE.warm (U := U.calling g mk a) (State.WarmedH.refl U) (fun _ _ _ => rfl)
theorem zExt.calling {Γ : ZG} {U : State} (g : JFrame) (mk : MethodId) (a : Array Value) (hE : zExt Γ U) : zExt Γ (U.calling g mk a) := by
  obtain ⟨h1, h2, ⟨a1, a2, a3, a4⟩, h4, h5, h6, h7, h8, h9⟩ := hE
  have al : U.vm.Alike (U.calling g mk a).vm := Vm.Alike.refl U.vm
  exact ⟨h1.moved al, fun q hq hk => (h2 q hq hk).same rfl rfl, ⟨a1.moved al, a2.moved al, a3.moved al, a4.moved al⟩, h4.moved al, ⟨State.isArrayOf_alike al h5.1, h5.2⟩, ⟨State.isArrayOf_alike al h6.1, h6.2⟩, h7, h8.moved al, h9⟩
theorem zPc_blind (Γ : ZG) (as : List Vl) (S : Hp) : FrameBlind (zPc Γ as S) := fun a U g mk h => ⟨h.1, h.2.1, h.2.2.1.calling g mk a, h.2.2.2.calling g mk a⟩
theorem zM_facts {m : Nat} (hm : m < 291) : Cond.initialized (zYn m).cls ∈ gw ∧ (zIs m = true → Cond.static (zYn m) ∈ gw) ∧ (zIs m = false → Cond.instanceMethod (zYn m) ∈ gw ∧ ((zYn m).name = "<init>" ∨ Cond.selects (zYn m).cls (zYn m) (zYn m) ∈ gw)) ∧ plainFor (zYn m) = true ∧ (zYn m).cls = zCn (zOn m) ∧ ((zYn m).cls ≠ "java/lang/invoke/MethodHandle" ∧ (zYn m).cls ≠ "java/lang/invoke/VarHandle") ∧ (parseMethodDescriptor (zYn m).desc).map (fun d => d.parameters.length) = some (zNp m) ∧ zMx m ≤ 45 := by
  have h := zMB_all m hm
  simp only [zMB, Bool.and_eq_true, decide_eq_true_eq] at h
  obtain ⟨h1, h2, h3, h4, h5, h6⟩ := h
  refine ⟨zIg_mem h1, fun q => ?_, fun q => ?_, h3, h4, ⟨h5.1, h5.2.1⟩, h5.2.2, Nat.le_of_ble_eq_true h6⟩
  · rw [q] at h2
    exact zIg_mem h2
  · rw [q] at h2
    simp only [cond_false, Bool.and_eq_true, Bool.or_eq_true, decide_eq_true_eq] at h2
    exact ⟨zIg_mem h2.1, h2.2.elim Or.inl (fun z => Or.inr (zIg_mem z))⟩
theorem zSd_entry {Γ : ZG} {s : State} {m d : Nat} {as : List Vl} {S : Hp} (hm : m < 292) (hsz : sct as ≤ zMx m) (has : ∀ v ∈ as, okV v) (hR : zRep Γ S s.heap) : zSd Γ (zRm d m) s m (zEn m as) [] S s.heap [] 0 0 ((lg_sl (as.map (cv Γ)) ++ List.replicate (zMx m - (lg_sl (as.map (cv Γ))).length) Slot.unset).toArray) := by
  have hs := List.all_eq_true.mp zB_small m (List.mem_range.mpr (by omega))
  simp only [Bool.and_eq_true] at hs
  have hs1 : zBc m < 2147483648 := by simpa using hs.1
  have hs2 : zBs m < 2147483648 := by simpa using hs.2.1
  have hs3 : zMx m < 46 := by simpa using hs.2.2
  have hlt : ∀ q ∈ la 0 as, q.1 < 46 := fun q hq => by have := la_lt 0 as q hq; omega
  refine ⟨hR, va_S.rf, (lv_entry (as.map (cv Γ)) (by rw [sl_len]; exact hsz)).mem (fun q hq => ?_), fun v hv => (by cases hv), fun q hq => ?_, Nat.zero_le _, Nat.zero_le _, fun x hx => ?_, fun x hx => ?_, fun x hx => ?_, fun x hx => ?_⟩
  · obtain ⟨w, hw, rfl⟩ := List.mem_map.mp hq
    obtain ⟨w1, w2⟩ := List.mem_filter.mp hw
    have w3 : w.1 < 1000 := by simpa using w2
    rw [← la_args]
    refine List.mem_map.mpr ⟨w, ?_, rfl⟩
    rcases zEn_mem w1 with w1 | rfl | rfl | rfl | rfl
    · exact w1
    · exact absurd (show (1000 : Nat) < 1000 from w3) (by decide)
    · exact absurd (show (1001 : Nat) < 1000 from w3) (by decide)
    · exact absurd w3 (by omega)
    · exact absurd w3 (by omega)
  · rcases zEn_mem hq with hq | rfl | rfl | rfl | rfl
    · exact la_ok has 0 q hq
    · exact okV0 in32_0
    · exact okV0 in32_0
    · exact okV0 ⟨by omega, by omega⟩
    · exact okV0 ⟨by omega, by omega⟩
  · rcases zEn_mem hx with hx | hx | hx | hx | hx
    · have := hlt _ hx; omega
    all_goals cases hx
    exact Int.le_refl _
  · rcases zEn_mem hx with hx | hx | hx | hx | hx
    · have := hlt _ hx; omega
    all_goals cases hx
    exact Int.le_refl _
  · rcases zEn_mem hx with hx | hx | hx | hx | hx
    · have := hlt _ hx; omega
    all_goals cases hx
    exact Int.le_refl _
  · rcases zEn_mem hx with hx | hx | hx | hx | hx
    · have := hlt _ hx; omega
    all_goals cases hx
    exact Int.le_refl _
set_option maxHeartbeats 4000000 in
/-- a method that never throws: its contract -/
theorem zMet {Γ : ZG} {l : Launch} {d m : Nat} {as : List Vl} {S : Hp} {k : Vl → Hp → Prop} (hfl : l.flags = flags0) (hm : m < 291) (hS : Snd d m (zP m 0) (zEn m as) [] S k) (hk : ∀ x S', ¬ k (9, x) S') (hsz : sct as ≤ zMx m) (has : ∀ v ∈ as, okV v) : Met l (zYn m) (zWs m) (zRm d m) (zPc Γ as S) (zQc Γ k) (zBc m) (zBs m) (zA0 Γ) := by
  obtain ⟨f1, f2, f3, f4, f5, f6, f7, f8⟩ := zM_facts hm
  refine MetW (cc := zB m) (maxL := zMx m) (ret := zRt m) f4 rfl ?_
  intro p e s m' args below meth c s₁ B hml hP
  obtain ⟨rfl, hR, hE, hX⟩ := hP
  have hts0 : ∀ w ∈ zWs m, w.before (as.map (cv Γ)).toArray s = true := atoms_spec (ws := zWs m) B.pre
  have hts : ∀ w ∈ gw, w.before (as.map (cv Γ)).toArray s = true := fun w h => hts0 w (List.mem_cons_of_mem _ h)
  have hown : s.vm.findClass (zCn (zOn m)) = some m'.cls := by rw [← f5]; exact findClass_of_methodNamed B.named
  have hC : zCx Γ p s m' (as.map (cv Γ)).toArray meth c m := ⟨B.exec, B.bytes, B.returns, hml, hown, hts, B.notSynchronized, (name_of_methodNamed B.named B.method).1, hE⟩
  rw [lg_entry_eq]
  refine hS Γ p l e (headSpec (zWs m) (zRm d m)).room s m' (as.map (cv Γ)).toArray below meth c (MQ below (zQc Γ k) (as.map (cv Γ)).toArray s (zBc m) (zBs m) (zA0 Γ)) 0 (by omega) (zOkM_at (ok_all m (by omega)) 0) hC hX hfl (Nat.le_refl _) (Nat.le_refl _) ?_ s.heap [] 0 0 _ (zSd_entry (d := d) (by omega) hsz has hR)
  intro r S' i pc' st' ls' hq he hd H locs cells slots lsA h
  have hQ : ∀ (r : Vl), k r S' → okV r → zTag r → ∀ t : State, t.heap = H → zQc Γ k (as.map (cv Γ)).toArray s (.returned (zRv Γ r)) t := fun r h1 h2 h3 t ht => ⟨⟨r, S', h1, h2, h3, rfl, by rw [ht]; exact h.1⟩, h.2.1.F ht⟩
  refine W.widen h.2.2.2.2.2.1 h.2.2.2.2.2.2.1 ?_
  rcases he with ⟨rfl, x, rfl, rfl, hrt⟩ | ⟨rfl, x, rfl, rfl, hrt⟩ | ⟨rfl, x, rfl, rfl, hrt⟩ | ⟨rfl, rfl, rfl, hrt⟩ | ⟨idx, cd, rfl, rfl, -⟩
  · have hx := (ok_hd h.ok).1 rfl
    rcases hrt with hrt | ⟨hrt, h01⟩
    · exact W.iret hC.1 hC.2.1 (by rw [hC.2.2.1]; exact hrt) (fun t ht _ => hQ (0, x) hq (ok_hd h.ok) (Or.inl rfl) t ht) h.2.1.2.2 hd hC.2.2.2.2.2.2.1
    · exact W.zret hC.1 hC.2.1 (by rw [hC.2.2.1]; exact hrt) (by rcases h01 with rfl | rfl <;> rfl) (fun t ht _ => hQ (0, x) hq (ok_hd h.ok) (Or.inl rfl) t ht) h.2.1.2.2 hd hC.2.2.2.2.2.2.1
  · exact W.lret hC.1 hC.2.1 (by rw [hC.2.2.1]; exact hrt) (fun t ht _ => hQ (1, x) hq (ok_hd h.ok) (Or.inr (Or.inl rfl)) t ht) h.2.1.2.2 hd hC.2.2.2.2.2.2.1
  · have hv := cv_ref Γ x
    rcases hrt with ⟨n, hrt⟩ | ⟨n, hrt⟩
    · exact W.aret hC.1 hC.2.1 (by rw [hC.2.2.1]; exact hrt) (Or.inl ⟨n, rfl⟩) hv (fun t ht _ => hQ (2, x) hq (ok_hd h.ok) (Or.inr (Or.inr (Or.inl rfl))) t ht) h.2.1.2.2 hd hC.2.2.2.2.2.2.1
    · exact W.aret hC.1 hC.2.1 (by rw [hC.2.2.1]; exact hrt) (Or.inr ⟨n, rfl⟩) hv (fun t ht _ => hQ (2, x) hq (ok_hd h.ok) (Or.inr (Or.inr (Or.inl rfl))) t ht) h.2.1.2.2 hd hC.2.2.2.2.2.2.1
  · exact W.vret hC.1 hC.2.1 (by rw [hC.2.2.1]; exact hrt) (fun t ht _ => hQ (3, 0) hq ⟨fun q => (by cases q), fun q => (by cases q)⟩ (Or.inr (Or.inr (Or.inr rfl))) t ht) h.2.1.2.2 hd hC.2.2.2.2.2.2.1
  · exact absurd hq (hk cd S')
