/-! The law catches: its calls of its own two methods (by program, wip/whole/wrapgen.py). -/
theorem zlc1 : Cond.classLink (zCn 14) 13 "java/lang/IllegalArgumentException" ∈ gw := zIg_mem (k := 1214) (by decide +kernel)
theorem zlc2 : Cond.classLink (zCn 14) 15 "java/lang/IllegalStateException" ∈ gw := zIg_mem (k := 1215) (by decide +kernel)
theorem zlc3 : Cond.classLink (zCn 14) 17 "java/lang/ArithmeticException" ∈ gw := zIg_mem (k := 1216) (by decide +kernel)
theorem zlini : Cond.initialized (zCn 14) ∈ gw := zIg_mem (k := 107) (by decide +kernel)
def zyw : MethodName := ⟨"CurveRingsClosedLaw", "weigh", "(LCurveRingsClosed;II[J)I"⟩
theorem zlw : Cond.methodLink (zCn 14) 160 zyw ∈ gw := zIg_mem (k := 1211) (by decide +kernel)
theorem zsw : Cond.static zyw ∈ gw := zIg_mem (k := 1212) (by decide +kernel)
theorem zvw : Cond.methodLink (zCn 14) 7 (zYn 129) ∈ gw := zIg_mem (k := 1287) (by decide +kernel)
theorem zcw : Cond.codeWith zyw method_3_code 5 (some .int) [(0, 9, 12, 13), (0, 9, 16, 15), (0, 9, 20, 17)] ∈ gw := List.mem_filter.mpr ⟨mt5 (List.mem_of_getElem? (i := 146) rfl), rfl⟩
theorem zctw {Γ : ZG} (cd : Int) (idx pc : Nat) (hcd : (cd = 1 ∧ idx = 314) ∨ (cd = 2 ∧ idx = 324) ∨ (cd = 3 ∧ idx = 335)) (hd : decode (zB 129) pc = .ok (.new idx, 3)) : ∃ (pre : List ExceptionTableEntry) (xx : ExceptionTableEntry) (suf : List ExceptionTableEntry), tableOf [(0, 9, 12, 13), (0, 9, 16, 15), (0, 9, 20, 17)] = pre ++ xx :: suf ∧ (∀ z ∈ pre, covers z 5 = false ∨ (z.catchType ≠ 0 ∧ ∃ nm : String, Cond.classLink (zCn 14) z.catchType nm ∈ gw ∧ ∀ U, zXt Γ U → va_Nc (zXn cd) nm U)) ∧ covers xx 5 = true ∧ xx.catchType ≠ 0 ∧ Cond.classLink (zCn 14) xx.catchType (zXn cd) ∈ gw ∧ decode method_3_code xx.handlerPc = .ok (.astore 4, 2) ∧ decode method_3_code (xx.handlerPc + 2) = .ok (.iconst cd, 1) ∧ decode method_3_code (xx.handlerPc + 2 + 1) = .ok (.ireturn, 1) ∧ in32 cd ∧ zXn cd ∈ zEx := by
  rcases hcd with ⟨rfl, rfl⟩ | ⟨rfl, rfl⟩ | ⟨rfl, rfl⟩
  · skip
    exact ⟨[], ⟨0, 9, 12, 13⟩, [⟨0, 9, 16, 15⟩, ⟨0, 9, 20, 17⟩], rfl, fun z hz => (by cases hz), rfl, by decide, zlc1, by decide +kernel, by decide +kernel, by decide +kernel, ⟨by omega, by omega⟩, by decide⟩
  · skip
    exact ⟨[⟨0, 9, 12, 13⟩], ⟨0, 9, 16, 15⟩, [⟨0, 9, 20, 17⟩], rfl, fun z hz => (by
      rcases List.mem_singleton.mp hz with rfl
      exact Or.inr ⟨by decide, _, zlc1, fun U hU => hU.2.2.2.2.2.1⟩), rfl, by decide, zlc2, by decide +kernel, by decide +kernel, by decide +kernel, ⟨by omega, by omega⟩, by decide⟩
  · skip
    exact ⟨[⟨0, 9, 12, 13⟩, ⟨0, 9, 16, 15⟩], ⟨0, 9, 20, 17⟩, [], rfl, fun z hz => (by
      simp only [List.mem_cons, List.not_mem_nil, or_false] at hz
      rcases hz with rfl | rfl
      · exact Or.inr ⟨by decide, _, zlc1, fun U hU => hU.2.2.2.2.2.2.1⟩
      · exact Or.inr ⟨by decide, _, zlc2, fun U hU => hU.2.2.2.2.2.2.2⟩), rfl, by decide, zlc3, by decide +kernel, by decide +kernel, by decide +kernel, ⟨by omega, by omega⟩, by decide⟩
theorem zmhw {Γ : ZG} {l : Launch} {d : Nat} {x p0 q0 o : Int} {S : Hp} {k : Vl → Hp → Prop} (hfl : l.flags = flags0) (hx9 : zK S x = (zOn 129 : Int) + 1) (hS : Snd d 129 (zP 129 0) (zEn 129 [(2, x), (0, p0), (0, q0)]) [] S k) (hk : zKt k o) (hp0 : in32 p0) (hq0 : in32 q0) : Met l zyw (Cond.codeWith zyw method_3_code 5 (some .int) [(0, 9, 12, 13), (0, 9, 16, 15), (0, 9, 20, 17)] :: gw) (zRw d 129) (zPc Γ [(2, x), (0, p0), (0, q0), (2, o)] S) (zQc Γ (zKw o k)) (zBc 129) (zBs 129) (zA0 Γ) :=
  zMetH (ix := 7) (tgt := 24) (o9 := 15) hfl (by decide) (by decide +kernel) (by decide) (by decide +kernel) (by decide) (by decide) (by decide) (by decide +kernel) (by decide +kernel) (by decide +kernel) (by decide +kernel) (by decide +kernel) (by decide +kernel) (by decide +kernel) (by decide +kernel) (by decide +kernel) (by decide +kernel) (by decide) (by decide +kernel) (by decide +kernel) zvw zctw hx9 hS hk hp0 hq0
def zyg : MethodName := ⟨"CurveRingsClosedLaw", "get", "(LCurveRingsClosed;II[J)I"⟩
theorem zlg : Cond.methodLink (zCn 14) 192 zyg ∈ gw := zIg_mem (k := 1331) (by decide +kernel)
theorem zsg : Cond.static zyg ∈ gw := zIg_mem (k := 1332) (by decide +kernel)
theorem zvg : Cond.methodLink (zCn 14) 19 (zYn 135) ∈ gw := zIg_mem (k := 1334) (by decide +kernel)
theorem zcg : Cond.codeWith zyg method_4_code 5 (some .int) [(0, 9, 12, 13), (0, 9, 16, 15)] ∈ gw := List.mem_filter.mpr ⟨mt6 (List.mem_of_getElem? (i := 26) rfl), rfl⟩
theorem zctg {Γ : ZG} (cd : Int) (idx pc : Nat) (hcd : (cd = 1 ∧ idx = 314) ∨ (cd = 2 ∧ idx = 324) ∨ (cd = 3 ∧ idx = 335)) (hd : decode (zB 135) pc = .ok (.new idx, 3)) : ∃ (pre : List ExceptionTableEntry) (xx : ExceptionTableEntry) (suf : List ExceptionTableEntry), tableOf [(0, 9, 12, 13), (0, 9, 16, 15)] = pre ++ xx :: suf ∧ (∀ z ∈ pre, covers z 5 = false ∨ (z.catchType ≠ 0 ∧ ∃ nm : String, Cond.classLink (zCn 14) z.catchType nm ∈ gw ∧ ∀ U, zXt Γ U → va_Nc (zXn cd) nm U)) ∧ covers xx 5 = true ∧ xx.catchType ≠ 0 ∧ Cond.classLink (zCn 14) xx.catchType (zXn cd) ∈ gw ∧ decode method_4_code xx.handlerPc = .ok (.astore 4, 2) ∧ decode method_4_code (xx.handlerPc + 2) = .ok (.iconst cd, 1) ∧ decode method_4_code (xx.handlerPc + 2 + 1) = .ok (.ireturn, 1) ∧ in32 cd ∧ zXn cd ∈ zEx := by
  rcases hcd with ⟨rfl, rfl⟩ | ⟨rfl, rfl⟩ | ⟨rfl, rfl⟩
  · skip
    exact ⟨[], ⟨0, 9, 12, 13⟩, [⟨0, 9, 16, 15⟩], rfl, fun z hz => (by cases hz), rfl, by decide, zlc1, by decide +kernel, by decide +kernel, by decide +kernel, ⟨by omega, by omega⟩, by decide⟩
  · skip
    exact ⟨[⟨0, 9, 12, 13⟩], ⟨0, 9, 16, 15⟩, [], rfl, fun z hz => (by
      rcases List.mem_singleton.mp hz with rfl
      exact Or.inr ⟨by decide, _, zlc1, fun U hU => hU.2.2.2.2.2.1⟩), rfl, by decide, zlc2, by decide +kernel, by decide +kernel, by decide +kernel, ⟨by omega, by omega⟩, by decide⟩
  · skip
    exact absurd hd get_no3
theorem zmhg {Γ : ZG} {l : Launch} {d : Nat} {x p0 q0 o : Int} {S : Hp} {k : Vl → Hp → Prop} (hfl : l.flags = flags0) (hx9 : zK S x = (zOn 135 : Int) + 1) (hS : Snd d 135 (zP 135 0) (zEn 135 [(2, x), (0, p0), (0, q0)]) [] S k) (hk : zKt k o) (hp0 : in32 p0) (hq0 : in32 q0) : Met l zyg (Cond.codeWith zyg method_4_code 5 (some .int) [(0, 9, 12, 13), (0, 9, 16, 15)] :: gw) (zRw d 135) (zPc Γ [(2, x), (0, p0), (0, q0), (2, o)] S) (zQc Γ (zKw o k)) (zBc 135) (zBs 135) (zA0 Γ) :=
  zMetH (ix := 19) (tgt := 20) (o9 := 11) hfl (by decide) (by decide +kernel) (by decide) (by decide +kernel) (by decide) (by decide) (by decide) (by decide +kernel) (by decide +kernel) (by decide +kernel) (by decide +kernel) (by decide +kernel) (by decide +kernel) (by decide +kernel) (by decide +kernel) (by decide +kernel) (by decide +kernel) (by decide) (by decide +kernel) (by decide +kernel) zvg zctg hx9 hS hk hp0 hq0
def zM7b (q : Nat × Nat × Nat × Nat × Nat) : Bool := !(Nat.beq q.2.2.2.1 7) || (Nat.beq q.1 14 && ((Nat.beq q.2.1 160 && Nat.beq q.2.2.1 129) || (Nat.beq q.2.1 192 && Nat.beq q.2.2.1 135)))
theorem zM7_ok : zML.all zM7b = true := by decide +kernel
theorem zM7 {own idx m' p9 : Nat} (h : (own, idx, m', 7, p9) ∈ zML) : own = 14 ∧ ((idx = 160 ∧ m' = 129) ∨ (idx = 192 ∧ m' = 135)) := by
  have := List.all_eq_true.mp zM7_ok _ h
  simp only [zM7b, Bool.or_eq_true, Bool.and_eq_true, Bool.not_eq_true'] at this
  rcases this with z | ⟨z1, z2⟩
  · cases z
  · exact ⟨Nat.eq_of_beq_eq_true z1, z2.imp (fun w => ⟨Nat.eq_of_beq_eq_true w.1, Nat.eq_of_beq_eq_true w.2⟩) (fun w => ⟨Nat.eq_of_beq_eq_true w.1, Nat.eq_of_beq_eq_true w.2⟩)⟩
def zKo (K : Lc → List Vl → Hp → Prop) (ls' : Lc) (r : List Vl) (o : Int) : Vl → Hp → Prop := fun r' S' => match r' with
  | (1, x) => zK S' o = 102 ∧ 0 < zL S' o ∧ K ls' ((0, 0) :: r) (zS S' o 0 x)
  | (9, c) => K ls' ((0, c) :: r) (zU S')
  | _ => False
theorem inv_wrap {b : Int} {ls : Lc} {st : List Vl} {S : Hp} {K : Lc → List Vl → Hp → Prop} {J : Nat → Lc → List Vl → Hp → Prop} {C : Nat → List Vl → Hp → (Vl → Hp → Prop) → Prop} {Rt : Vl → Hp → Prop} (h : stW (oInv false (-3) b ls st S) S K J C Rt) : ∃ (o q p x : Int) (r : List Vl) (ls' : Lc), st = (2, o) :: (0, q) :: (0, p) :: (2, x) :: r ∧ sct r ≤ 8 ∧ zLs ls ls' (zBc b.toNat) (zBs b.toNat) ∧ zK S x = zOw b.toNat ∧ C b.toNat [(2, x), (0, p), (0, q)] S (zKo K ls' r o) := by
  replace h : stW (match (generalizing := false) st with
    | (2, o) :: (0, q) :: (0, p) :: (2, x) :: r => bif Nat.ble (sct r) 8 then oNew (zBc b.toNat) (zBs b.toNat) ls fun ls' P => some (some (P ∧ zK S x = zOw b.toNat ∧ zK S o = 102 ∧ 0 < zL S o), .inr (.inr (.inr (.inr (.inr (.inr (b.toNat, [(2, x), (0, p), (0, q)], o, ls', r))))))) else none
    | _ => none) S K J C Rt := h
  split at h
  · rename_i o q p x r
    cases h8 : Nat.ble (sct r) 8 with
    | false =>
      rw [h8] at h
      exact h.elim
    | true =>
      rw [h8, cond_true] at h
      obtain ⟨cc, s9, rc, rs, k0, k1, k2, k3, hh⟩ := inv_oNew h
      replace hh : ((cc + (zBc b.toNat : Int) ≤ rc ∧ s9 + (zBs b.toNat : Int) ≤ rs) ∧ zK S x = zOw b.toNat ∧ zK S o = 102 ∧ 0 < zL S o) ∧ C b.toNat [(2, x), (0, p), (0, q)] S (zKo K (up1 (up1 ls 1000 (0, cc + (zBc b.toNat : Int))) 1001 (0, s9 + (zBs b.toNat : Int))) r o) := hh
      exact ⟨o, q, p, x, r, _, rfl, Nat.le_of_ble_eq_true h8, Or.inr ⟨cc, s9, rc, rs, k0, k1, k2, k3, hh.1.1.1, hh.1.1.2, rfl⟩, hh.1.2.1, hh.2⟩
  · exact h.elim
theorem zKo_t (K : Lc → List Vl → Hp → Prop) (ls' : Lc) (r : List Vl) (o : Int) : zKt (zKo K ls' r o) o := ⟨fun _ _ h => h, fun _ _ h => h, fun _ _ h => h, fun _ _ h => ⟨h.1, h.2.1⟩⟩
theorem zKw_go {K : Lc → List Vl → Hp → Prop} {ls' : Lc} {r : List Vl} {o : Int} {r' : Vl} {S' : Hp} (h : zKw o (zKo K ls' r o) r' S') : K ls' (zPu r' r) S' := by
  rcases h with ⟨v, S1, h1, -, -, rfl, rfl⟩ | ⟨cd, S1, h1, rfl, rfl⟩
  · exact h1.2.2
  · exact h1
section ZX9
variable {Γ : ZG} {p : Program} {l : Launch} {e : Env} {R : Room} {s : State} {m : MethodId} {args : Array Value} {below : List Frame} {meth : Method} {c : Code} {Z : State → Prop} {mi pc : Nat} {ls ls' : Lc} {st : List Vl} {S : Hp}
set_option maxRecDepth 8000 in
theorem zw_catch {d m' idx : Nat} {yw : MethodName} {bytes : ByteArray} {hh : List (Nat × Nat × Nat × Nat)} {x p0 q0 o : Int} {k : Vl → Hp → Prop} (hC : zCx Γ p s m args meth c mi) (hX : zXt Γ s) (hd : decode (zB mi) pc = .ok (.invokestatic idx, 3)) (hon : zOn mi = 14) (hyc : yw.cls = zCn 14)
    (hw : Cond.methodLink (zCn 14) idx yw ∈ gw) (hst : Cond.static yw ∈ gw) (hcw : Cond.codeWith yw bytes 5 (some .int) hh ∈ gw) (hdd : yw.cls ≠ "java/lang/invoke/MethodHandle" ∧ yw.cls ≠ "java/lang/invoke/VarHandle" ∧ (parseMethodDescriptor yw.desc).map (fun d => d.parameters.length) = some 4)
    (hM : in32 p0 → in32 q0 → Met l yw (Cond.codeWith yw bytes 5 (some .int) hh :: gw) (zRw d m') (zPc Γ [(2, x), (0, p0), (0, q0), (2, o)] S) (zQc Γ k) (zBc m') (zBs m') (zA0 Γ))
    (hf : 2 * (d + 1) + 20 ≤ R.frames) (hl : 128 * (d + 1 + 20) ≤ R.locals) (h8 : sct st ≤ 8) (hL : zLs ls ls' (zBc m') (zBs m'))
    (kk : ∀ r S', k r S' → zTag r → zW Γ p l e R s m args below meth c Z mi (pc + 3) ls' (zPu r st) S') : zW Γ p l e R s m args below meth c Z mi pc ls ((2, o) :: (0, q0) :: (0, p0) :: (2, x) :: st) S := by
  have hE := hC.2.2.2.2.2.2.2.2
  have hts := hC.2.2.2.2.2.1
  have hown := hC.2.2.2.2.1
  rw [hon] at hown
  refine zw_run (a := (([(2, x), (0, p0), (0, q0), (2, o)] : List Vl).map (cv Γ)).toArray) (st := st) hE hL (fun h => ok_tl (ok_tl (ok_tl (ok_tl h)))) (fun H locs cells slots lsA h => ?_) kk
  obtain ⟨r1, r2, -⟩ := hL.room h
  have hq0 : in32 q0 := (ok_hd (ok_tl h.ok)).1 rfl
  have hp0 : in32 p0 := (ok_hd (ok_tl (ok_tl h.ok))).1 rfl
  have hG : GoodIn gw (va_wsS (zCn 14) idx yw (Cond.codeWith yw bytes 5 (some .int) hh :: gw)) := by
    have hin : ∀ w ∈ va_wsS (zCn 14) idx yw (Cond.codeWith yw bytes 5 (some .int) hh :: gw), w ∈ gw := by
      intro w hw9
      rcases List.mem_append.mp hw9 with hw9 | hw9
      · simp only [List.mem_cons, List.not_mem_nil, or_false] at hw9
        rcases hw9 with rfl | rfl | rfl
        · exact hw
        · exact hst
        · rw [hyc]
          exact zlini
      · rcases List.mem_cons.mp hw9 with rfl | hw9
        · exact hcw
        · exact hw9
    exact fun w hw9 => ⟨hin w hw9, good_of_word (gw_good (hin w hw9))⟩
  have cw : vx_CSW R s args (zCn 14) idx yw bytes 5 (some .int) hh (Cond.codeWith yw bytes 5 (some .int) hh :: gw) (zRw d m') (zBc m') (zBs m') 4 := vx_cwSW 4 hts hG rfl rfl rfl hdd ⟨by show 2 * d + 21 + 1 ≤ R.frames; omega, by show 8 + (5 + 11) + (128 * (d + 20) + 104) ≤ R.locals; omega⟩
  exact vx_runSW (l := l) (e := e) (below := below) (meth := meth) (locs := locs) (cells := cells) (slots := slots) (As := ([(2, x), (0, p0), (0, q0), (2, o)] : List Vl).map (cv Γ)) (rest := st.map (cv Γ)) (g := F0 m pc lsA (((2, o) :: (0, q0) :: (0, p0) :: (2, x) :: st).map (cv Γ))) (Ts := gw) ⟨hC.1, hC.2.1, hC.2.2.2.1, hown, hts⟩ (hM hp0 hq0) cw
    ⟨zPc_blind Γ _ S, fun U hU hW => ⟨rfl, by rw [hU]; exact h.1, hE.moved hW (locs := locs) (by rw [hU]; exact h.2.1), hX.moved hW (locs := locs) (by rw [hU]; exact h.2.1)⟩⟩ rfl rfl h.2.2.1.1 rfl (lv_room (by rw [sct_sum]; exact h8)) hd ⟨r1, r2⟩
end ZX9
theorem zWrap_ok : zWrap := by
  intro d mi is ls st S Q idx b hst Γ p l e R s m args below meth c Z pc hmi hok hC hX hfl hf hl hend
  obtain ⟨len, hd, hlk, hok'⟩ := zOk_cons hok
  simp only [zLk, Bool.and_eq_true] at hlk
  have e1 := Nat.eq_of_beq_eq_true hlk.1
  subst e1
  obtain ⟨m', k9, p9, em, hk9, hq, -⟩ := zMf_get (show zMf (zOn mi) idx b (fun k => Nat.beq k 7) = true from hlk.2)
  have hk0 : k9 = 7 := Nat.eq_of_beq_eq_true hk9
  subst hk0
  obtain ⟨hon, hcs⟩ := zM7 hq
  have K : ∀ ls st S, Snd d mi is ls st S Q → zW Γ p l e R s m args below meth c Z mi (pc + 3) ls st S := fun ls st S h => h Γ p l e R s m args below meth c Z (pc + 3) hmi hok' hC hX hfl hf hl hend
  obtain ⟨o, q, p1, x, r, ls', rfl, h8, hL, hx, d', rfl, hS⟩ := inv_wrap hst
  have eb : b.toNat = m' := by omega
  rw [eb] at hL hx hS
  have hm : m' < 291 := by omega
  have hk := zKo_t (fun ls st S => Snd (d' + 1) mi is ls st S Q) ls' r o
  rcases hcs with ⟨rfl, rfl⟩ | ⟨rfl, rfl⟩
  · exact zw_catch (d := d') (m' := 129) (k := zKw o (zKo (fun ls st S => Snd (d' + 1) mi is ls st S Q) ls' r o)) hC hX hd hon rfl zlw zsw zcw ⟨by decide +kernel, by decide +kernel, by decide +kernel⟩ (fun hp hq => zmhw hfl (by rw [hx]; rfl) hS hk hp hq) hf hl h8 hL (fun r' S' h _ => K _ _ _ (zKw_go h))
  · exact zw_catch (d := d') (m' := 135) (k := zKw o (zKo (fun ls st S => Snd (d' + 1) mi is ls st S Q) ls' r o)) hC hX hd hon rfl zlg zsg zcg ⟨by decide +kernel, by decide +kernel, by decide +kernel⟩ (fun hp hq => zmhg hfl (by rw [hx]; rfl) hS hk hp hq) hf hl h8 hL (fun r' S' h _ => K _ _ _ (zKw_go h))
theorem snd_clo : zClo Snd := snd_clo_open zWrap_ok
theorem at_snd {d m : Nat} {is : List AI} {ls : Lc} {st : List Vl} {S : Hp} {Q : Vl → Hp → Prop} (h : At d m is ls st S Q) : Snd d m is ls st S Q := h Snd snd_mono snd_sub snd_clo
