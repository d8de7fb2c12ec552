/-! One instruction of the abstract machine, row by row, over the machine itself. -/
def okV (v : Vl) : Prop := (v.1 = 0 → in32 v.2) ∧ (v.1 = 1 → in64 v.2)
theorem okV0 {x : Int} (h : in32 x) : okV (0, x) := ⟨fun _ => h, fun q => by cases q⟩
theorem okV1 {x : Int} (h : in64 x) : okV (1, x) := ⟨fun q => (by cases q), fun _ => h⟩
theorem okV2 (x : Int) : okV (2, x) := ⟨fun q => (by cases q), fun q => by cases q⟩
def cvL (Γ : ZG) (ls : Lc) : List (Nat × Value) := (ls.filter (fun q => Nat.blt q.1 1000)).map (fun q => (q.1, cv Γ q.2))
def zCt (R : Room) (ls : Lc) (cells slots : Nat) : Prop := cells ≤ R.cells ∧ slots ≤ R.slots ∧ (∀ x : Int, (1000, ((0 : Nat), x)) ∈ ls → (cells : Int) ≤ x) ∧ (∀ x : Int, (1001, ((0 : Nat), x)) ∈ ls → (slots : Int) ≤ x) ∧ (∀ x : Int, (1002, ((0 : Nat), x)) ∈ ls → x ≤ R.cells) ∧ ∀ x : Int, (1003, ((0 : Nat), x)) ∈ ls → x ≤ R.slots
def zExt (Γ : ZG) (U : State) : Prop :=
  va_K Γ.2.1 zCl (zTys Γ) U ∧ (∀ q ∈ zML, (q.2.2.2.1 = 3 ∨ q.2.2.2.1 = 4) → va_Nw (.methodLinkNest (zCn q.1) q.2.1 (zYn q.2.2.1) "CurveRingsClosed") U) ∧ (va_AO RX3 U ∧ va_AO RX6 U ∧ va_AO RX9 U ∧ va_AO RX7 U) ∧ va_AOA .int U ∧ (U.isArrayOf Γ.2.2.2.1 .int ∧ Γ.2.2.2.1.vm ≠ .unknown) ∧ (U.isArrayOf Γ.2.2.2.2 .int ∧ Γ.2.2.2.2.vm ≠ .unknown ∧ 16 ≤ Γ.2.2.2.2.slots.size ∧ ∀ j : Nat, j < 16 → Γ.2.2.2.2.slots[j]? = some (.int (Int32.ofInt (zSt j)))) ∧ zLow Γ ∧ va_Z "CurveRingsClosed$Minors" "START" "[I" (.ref Γ.1.2.2) (zA0 Γ) U U.heap ∧ Γ.1.1 ≤ U.heap.size
def zCx (Γ : ZG) (p : Program) (s : State) (m : MethodId) (args : Array Value) (meth : Method) (c : Code) (mi : Nat) : Prop :=
  p.tables.exec = Jvm.exec ∧ c.code = zB mi ∧ meth.sig.returnType = zRt mi ∧ c.maxLocals = zMx mi ∧ s.vm.findClass (zCn (zOn mi)) = some m.cls ∧ (∀ w ∈ gw, w.before args s = true) ∧ meth.locks = false ∧ meth.name = (zYn mi).name ∧ zExt Γ s
def zSd (Γ : ZG) (R : Room) (s : State) (mi : Nat) (ls : Lc) (st : List Vl) (S : Hp) (H : Heap) (locs : List Loc) (cells slots : Nat) (lsA : Array Slot) : Prop :=
  zRep Γ S H ∧ va_S (zA0 Γ) s.heap H locs ∧ lv_has lsA (zMx mi) (cvL Γ ls) ∧ (∀ v ∈ st, okV v) ∧ (∀ q ∈ ls, okV q.2) ∧ zCt R ls cells slots
def zW (Γ : ZG) (p : Program) (l : Launch) (e : Env) (R : Room) (s : State) (m : MethodId) (args : Array Value) (below : List Frame) (meth : Method) (c : Code) (Z : State → Prop) (mi pc : Nat) (ls : Lc) (st : List Vl) (S : Hp) : Prop :=
  ∀ (H : Heap) (locs : List Loc) (cells slots : Nat) (lsA : Array Slot), zSd Γ R s mi ls st S H locs cells slots lsA → W p l e R s m args below meth c H locs cells slots Z (F0 m pc lsA (st.map (cv Γ)))
theorem zSd.st {Γ : ZG} {R : Room} {s : State} {mi : Nat} {ls : Lc} {st st' : List Vl} {S : Hp} {H : Heap} {locs : List Loc} {cells slots : Nat} {lsA : Array Slot} (h : zSd Γ R s mi ls st S H locs cells slots lsA) (h' : ∀ v ∈ st', okV v) : zSd Γ R s mi ls st' S H locs cells slots lsA :=
  ⟨h.1, h.2.1, h.2.2.1, h', h.2.2.2.2.1, h.2.2.2.2.2⟩
theorem zSd.ok {Γ : ZG} {R : Room} {s : State} {mi : Nat} {ls : Lc} {st : List Vl} {S : Hp} {H : Heap} {locs : List Loc} {cells slots : Nat} {lsA : Array Slot} (h : zSd Γ R s mi ls st S H locs cells slots lsA) : ∀ v ∈ st, okV v := h.2.2.2.1
theorem ok_tl {v : Vl} {st : List Vl} (h : ∀ w ∈ v :: st, okV w) : ∀ w ∈ st, okV w := fun w q => h w (List.mem_cons_of_mem _ q)
theorem ok_hd {v : Vl} {st : List Vl} (h : ∀ w ∈ v :: st, okV w) : okV v := h v List.mem_cons_self
theorem ok_cons {v : Vl} {st : List Vl} (h : okV v) (h' : ∀ w ∈ st, okV w) : ∀ w ∈ v :: st, okV w := fun w q => by
  rcases List.mem_cons.mp q with rfl | q
  · exact h
  · exact h' w q
theorem cv_cat (Γ : ZG) (v : Vl) : (cv Γ v).category = ct v := by
  obtain ⟨t, x⟩ := v
  match t with
  | 0 => rfl
  | 1 => rfl
  | n + 2 =>
    show (va_rf (if x = 0 then none else some (zAd Γ x))).category = 1
    split <;> rfl
theorem lk_mem {ls : Lc} {k : Nat} {v : Vl} (h : lk ls k = some v) : (k, v) ∈ ls := by
  induction ls with
  | nil => cases h
  | cons q r ih =>
    unfold lk at h
    by_cases e : q.1 = k
    · rw [show (q.1 == k) = true from by simp [e]] at h
      have h2 : q.2 = v := Option.some.inj h
      rw [← e, ← h2]
      exact List.mem_cons_self
    · rw [show (q.1 == k) = false from by simp [e]] at h
      exact List.mem_cons_of_mem _ (ih h)
theorem cvL_mem {Γ : ZG} {ls : Lc} {k : Nat} {v : Vl} (h : (k, v) ∈ ls) (hk : k < 1000) : (k, cv Γ v) ∈ cvL Γ ls :=
  List.mem_map.mpr ⟨(k, v), List.mem_filter.mpr ⟨h, by simpa using hk⟩, rfl⟩
theorem zSd.at {Γ : ZG} {R : Room} {s : State} {mi : Nat} {ls : Lc} {st : List Vl} {S : Hp} {H : Heap} {locs : List Loc} {cells slots : Nat} {lsA : Array Slot} (h : zSd Γ R s mi ls st S H locs cells slots lsA) {k : Nat} {v : Vl} (hv : lk ls k = some v) (hk : k < 1000) : lsA[k]? = some (.val (cv Γ v)) ∧ okV v :=
  ⟨h.2.2.1.2.2 _ (cvL_mem (lk_mem hv) hk), h.2.2.2.2.1 _ (lk_mem hv)⟩
theorem cvL_up1 (Γ : ZG) (ls : Lc) (i : Nat) (v : Vl) (hi : i < 1000) : (i, cv Γ v) :: (cvL Γ ls).filter (fun q => !(q.1 == i) && !(q.1 + 1 == i && q.2.category == 2)) = cvL Γ (up1 ls i v) := by
  unfold up1 cvL
  rw [List.filter_cons_of_pos (by simpa using hi), List.map_cons, List.filter_map, List.filter_filter, List.filter_filter]
  congr 2
  apply List.filter_congr
  intro q _
  simp only [Function.comp, cv_cat]
  cases Nat.blt q.1 1000 <;> simp
theorem cvL_up2 (Γ : ZG) (ls : Lc) (i : Nat) (v : Vl) (hi : i < 1000) : (i, cv Γ v) :: (cvL Γ ls).filter (fun q => !(q.1 == i) && (!(q.1 == i + 1) && !(q.1 + 1 == i && q.2.category == 2))) = cvL Γ (up2 ls i v) := by
  unfold up2 cvL
  rw [List.filter_cons_of_pos (by simpa using hi), List.map_cons, List.filter_map, List.filter_filter, List.filter_filter]
  congr 2
  apply List.filter_congr
  intro q _
  simp only [Function.comp, cv_cat]
  cases Nat.blt q.1 1000 <;> simp
theorem up1_mem {ls : Lc} {i : Nat} {v : Vl} {q : Nat × Vl} (h : q ∈ up1 ls i v) : q = (i, v) ∨ q ∈ ls := by
  rcases List.mem_cons.mp h with h | h
  · exact Or.inl h
  · exact Or.inr (List.mem_filter.mp h).1
theorem up2_mem {ls : Lc} {i : Nat} {v : Vl} {q : Nat × Vl} (h : q ∈ up2 ls i v) : q = (i, v) ∨ q ∈ ls := by
  rcases List.mem_cons.mp h with h | h
  · exact Or.inl h
  · exact Or.inr (List.mem_filter.mp h).1
theorem zCt.sub {R : Room} {ls ls' : Lc} {cells slots : Nat} (h : zCt R ls cells slots) (hs : ∀ q ∈ ls', 1000 ≤ q.1 → q ∈ ls) : zCt R ls' cells slots := by
  obtain ⟨h1, h2, h3, h4, h5, h6⟩ := h
  exact ⟨h1, h2, fun x q => h3 x (hs _ q (Nat.le_of_ble_eq_true rfl)), fun x q => h4 x (hs _ q (Nat.le_of_ble_eq_true rfl)), fun x q => h5 x (hs _ q (Nat.le_of_ble_eq_true rfl)), fun x q => h6 x (hs _ q (Nat.le_of_ble_eq_true rfl))⟩
section ZW
variable {Γ : ZG} {p : Program} {l : Launch} {e : Env} {R : Room} {s : State} {m : MethodId} {args : Array Value} {below : List Frame} {meth : Method} {c : Code} {Z : State → Prop} {mi pc : Nat} {ls : Lc} {st : List Vl} {S : Hp}
/-- a row that changes the stack alone -/
theorem zw_st {pc' : Nat} {st' : List Vl} (hok : (∀ v ∈ st, okV v) → ∀ v ∈ st', okV v) (hrow : ∀ (H : Heap) (locs : List Loc) (cells slots : Nat) (lsA : Array Slot), (∀ v ∈ st, okV v) → W p l e R s m args below meth c H locs cells slots Z (F0 m pc' lsA (st'.map (cv Γ))) → W p l e R s m args below meth c H locs cells slots Z (F0 m pc lsA (st.map (cv Γ))))
    (k : zW Γ p l e R s m args below meth c Z mi pc' ls st' S) : zW Γ p l e R s m args below meth c Z mi pc ls st S := by
  intro H locs cells slots lsA h
  exact hrow H locs cells slots lsA h.ok (k H locs cells slots lsA (h.st (hok h.ok)))
theorem zw_bi {f : Int → Int → Int} {g : Int32 → Int32 → Int32} {x y : Int} (hfg : in32 x → in32 y → g (Int32.ofInt x) (Int32.ofInt y) = Int32.ofInt (f x y)) (hin : in32 x → in32 y → in32 (f x y))
    (hrow : ∀ (H : Heap) (locs : List Loc) (cells slots : Nat) (lsA : Array Slot) (rest : List Value), W p l e R s m args below meth c H locs cells slots Z (F0 m (pc + 1) lsA (.int (g (Int32.ofInt x) (Int32.ofInt y)) :: rest)) → W p l e R s m args below meth c H locs cells slots Z (F0 m pc lsA (.int (Int32.ofInt y) :: .int (Int32.ofInt x) :: rest)))
    (k : zW Γ p l e R s m args below meth c Z mi (pc + 1) ls ((0, f x y) :: st) S) : zW Γ p l e R s m args below meth c Z mi pc ls ((0, y) :: (0, x) :: st) S := by
  refine zw_st (st' := (0, f x y) :: st) (fun h => ?_) (fun H locs cells slots lsA h q => ?_) k
  · exact ok_cons (okV0 (hin ((ok_hd (ok_tl h)).1 rfl) ((ok_hd h).1 rfl))) (ok_tl (ok_tl h))
  · refine hrow H locs cells slots lsA _ ?_
    rw [hfg ((ok_hd (ok_tl h)).1 rfl) ((ok_hd h).1 rfl)]
    exact q
theorem zw_bl {f : Int → Int → Int} {g : Int64 → Int64 → Int64} {x y : Int} (hfg : in64 x → in64 y → g (Int64.ofInt x) (Int64.ofInt y) = Int64.ofInt (f x y)) (hin : in64 x → in64 y → in64 (f x y))
    (hrow : ∀ (H : Heap) (locs : List Loc) (cells slots : Nat) (lsA : Array Slot) (rest : List Value), W p l e R s m args below meth c H locs cells slots Z (F0 m (pc + 1) lsA (.long (g (Int64.ofInt x) (Int64.ofInt y)) :: rest)) → W p l e R s m args below meth c H locs cells slots Z (F0 m pc lsA (.long (Int64.ofInt y) :: .long (Int64.ofInt x) :: rest)))
    (k : zW Γ p l e R s m args below meth c Z mi (pc + 1) ls ((1, f x y) :: st) S) : zW Γ p l e R s m args below meth c Z mi pc ls ((1, y) :: (1, x) :: st) S := by
  refine zw_st (st' := (1, f x y) :: st) (fun h => ?_) (fun H locs cells slots lsA h q => ?_) k
  · exact ok_cons (okV1 (hin ((ok_hd (ok_tl h)).2 rfl) ((ok_hd h).2 rfl))) (ok_tl (ok_tl h))
  · refine hrow H locs cells slots lsA _ ?_
    rw [hfg ((ok_hd (ok_tl h)).2 rfl) ((ok_hd h).2 rfl)]
    exact q
theorem zw_iadd {x y : Int} (hC : zCx Γ p s m args meth c mi) (hd : decode (zB mi) pc = .ok (.iadd, 1)) (k : zW Γ p l e R s m args below meth c Z mi (pc + 1) ls ((0, w32 (x + y)) :: st) S) : zW Γ p l e R s m args below meth c Z mi pc ls ((0, y) :: (0, x) :: st) S :=
  zw_bi (g := fun a b => a + b) (f := fun x y => w32 (x + y)) (fun _ _ => by rw [o32w, Int32.ofInt_add]) (fun _ _ => w32_in _) (fun _ _ _ _ _ _ q => lv_iadd hC.1 hC.2.1 hd q) k
theorem zw_isub {x y : Int} (hC : zCx Γ p s m args meth c mi) (hd : decode (zB mi) pc = .ok (.isub, 1)) (k : zW Γ p l e R s m args below meth c Z mi (pc + 1) ls ((0, w32 (x - y)) :: st) S) : zW Γ p l e R s m args below meth c Z mi pc ls ((0, y) :: (0, x) :: st) S :=
  zw_bi (g := fun a b => a - b) (f := fun x y => w32 (x - y)) (fun _ _ => by rw [o32w, Int32.ofInt_sub]) (fun _ _ => w32_in _) (fun _ _ _ _ _ _ q => lv_isub hC.1 hC.2.1 hd q) k
theorem zw_imul {x y : Int} (hC : zCx Γ p s m args meth c mi) (hd : decode (zB mi) pc = .ok (.imul, 1)) (k : zW Γ p l e R s m args below meth c Z mi (pc + 1) ls ((0, w32 (x * y)) :: st) S) : zW Γ p l e R s m args below meth c Z mi pc ls ((0, y) :: (0, x) :: st) S :=
  zw_bi (g := fun a b => a * b) (f := fun x y => w32 (x * y)) (fun _ _ => by rw [o32w, Int32.ofInt_mul]) (fun _ _ => w32_in _) (fun _ _ _ _ _ _ q => lv_imul hC.1 hC.2.1 hd q) k
theorem zw_iand {x y : Int} (hC : zCx Γ p s m args meth c mi) (hd : decode (zB mi) pc = .ok (.iand, 1)) (k : zW Γ p l e R s m args below meth c Z mi (pc + 1) ls ((0, bAnd x y) :: st) S) : zW Γ p l e R s m args below meth c Z mi pc ls ((0, y) :: (0, x) :: st) S :=
  zw_bi (g := fun a b => a &&& b) (f := bAnd) (fun _ _ => by rw [bAnd, Int32.ofInt_toInt]) (fun _ _ => i32_in _) (fun _ _ _ _ _ _ q => lv_iand hC.1 hC.2.1 hd q) k
theorem zw_ior {x y : Int} (hC : zCx Γ p s m args meth c mi) (hd : decode (zB mi) pc = .ok (.ior, 1)) (k : zW Γ p l e R s m args below meth c Z mi (pc + 1) ls ((0, bOr x y) :: st) S) : zW Γ p l e R s m args below meth c Z mi pc ls ((0, y) :: (0, x) :: st) S :=
  zw_bi (g := fun a b => a ||| b) (f := bOr) (fun _ _ => by rw [bOr, Int32.ofInt_toInt]) (fun _ _ => i32_in _) (fun _ _ _ _ _ _ q => lv_ior hC.1 hC.2.1 hd q) k
theorem zw_ixor {x y : Int} (hC : zCx Γ p s m args meth c mi) (hd : decode (zB mi) pc = .ok (.ixor, 1)) (k : zW Γ p l e R s m args below meth c Z mi (pc + 1) ls ((0, bXor x y) :: st) S) : zW Γ p l e R s m args below meth c Z mi pc ls ((0, y) :: (0, x) :: st) S :=
  zw_bi (g := fun a b => a ^^^ b) (f := bXor) (fun _ _ => by rw [bXor, Int32.ofInt_toInt]) (fun _ _ => i32_in _) (fun _ _ _ _ _ _ q => lv_ixor hC.1 hC.2.1 hd q) k
theorem zw_ishl {x y : Int} (hC : zCx Γ p s m args meth c mi) (hd : decode (zB mi) pc = .ok (.ishl, 1)) (k : zW Γ p l e R s m args below meth c Z mi (pc + 1) ls ((0, bShl x y) :: st) S) : zW Γ p l e R s m args below meth c Z mi pc ls ((0, y) :: (0, x) :: st) S :=
  zw_bi (g := fun a b => a <<< (b &&& 31)) (f := bShl) (fun _ _ => by rw [bShl, Int32.ofInt_toInt]) (fun _ _ => i32_in _) (fun _ _ _ _ _ _ q => lv_ishl hC.1 hC.2.1 hd q) k
theorem zw_ishr {x y : Int} (hC : zCx Γ p s m args meth c mi) (hd : decode (zB mi) pc = .ok (.ishr, 1)) (k : zW Γ p l e R s m args below meth c Z mi (pc + 1) ls ((0, bShr x y) :: st) S) : zW Γ p l e R s m args below meth c Z mi pc ls ((0, y) :: (0, x) :: st) S :=
  zw_bi (g := fun a b => a >>> (b &&& 31)) (f := bShr) (fun _ _ => by rw [bShr, Int32.ofInt_toInt]) (fun _ _ => i32_in _) (fun _ _ _ _ _ _ q => lv_ishr hC.1 hC.2.1 hd q) k
theorem zw_iushr {x y : Int} (hC : zCx Γ p s m args meth c mi) (hd : decode (zB mi) pc = .ok (.iushr, 1)) (k : zW Γ p l e R s m args below meth c Z mi (pc + 1) ls ((0, bUsh x y) :: st) S) : zW Γ p l e R s m args below meth c Z mi pc ls ((0, y) :: (0, x) :: st) S :=
  zw_bi (g := fun a b => (a.toUInt32 >>> (b.toUInt32 &&& Int32.toUInt32 31)).toInt32) (f := bUsh) (fun _ _ => by rw [bUsh, Int32.ofInt_toInt]) (fun _ _ => i32_in _) (fun _ _ _ _ _ _ q => lv_iushr hC.1 hC.2.1 hd rfl q) k
theorem zw_idiv {x y : Int} (hC : zCx Γ p s m args meth c mi) (hd : decode (zB mi) pc = .ok (.idiv, 1)) (h0 : ¬ y = 0) (k : zW Γ p l e R s m args below meth c Z mi (pc + 1) ls ((0, w32 (x.tdiv y)) :: st) S) : zW Γ p l e R s m args below meth c Z mi pc ls ((0, y) :: (0, x) :: st) S := by
  refine zw_st (st' := (0, w32 (x.tdiv y)) :: st) (fun h => ok_cons (okV0 (w32_in _)) (ok_tl (ok_tl h))) (fun H locs cells slots lsA h q => ?_) k
  refine lv_idiv hC.1 hC.2.1 hd (o32_ne0 ((ok_hd h).1 rfl) h0) ?_
  rw [o32_div ((ok_hd (ok_tl h)).1 rfl) ((ok_hd h).1 rfl)]
  exact q
theorem zw_irem {x y : Int} (hC : zCx Γ p s m args meth c mi) (hd : decode (zB mi) pc = .ok (.irem, 1)) (h0 : ¬ y = 0) (k : zW Γ p l e R s m args below meth c Z mi (pc + 1) ls ((0, x.tmod y) :: st) S) : zW Γ p l e R s m args below meth c Z mi pc ls ((0, y) :: (0, x) :: st) S := by
  refine zw_st (st' := (0, x.tmod y) :: st) (fun h => ok_cons (okV0 (tmod_in32 ((ok_hd h).1 rfl) h0)) (ok_tl (ok_tl h))) (fun H locs cells slots lsA h q => ?_) k
  refine lv_irem hC.1 hC.2.1 hd (o32_ne0 ((ok_hd h).1 rfl) h0) ?_
  rw [o32_rem ((ok_hd (ok_tl h)).1 rfl) ((ok_hd h).1 rfl)]
  exact q
theorem zw_ineg {x : Int} (hC : zCx Γ p s m args meth c mi) (hd : decode (zB mi) pc = .ok (.ineg, 1)) (k : zW Γ p l e R s m args below meth c Z mi (pc + 1) ls ((0, w32 (-x)) :: st) S) : zW Γ p l e R s m args below meth c Z mi pc ls ((0, x) :: st) S := by
  refine zw_st (st' := (0, w32 (-x)) :: st) (fun h => ok_cons (okV0 (w32_in _)) (ok_tl h)) (fun H locs cells slots lsA h q => ?_) k
  refine lv_ineg hC.1 hC.2.1 hd ?_
  rw [← Int32.ofInt_neg, ← o32w]
  exact q
theorem zw_ladd {x y : Int} (hC : zCx Γ p s m args meth c mi) (hd : decode (zB mi) pc = .ok (.ladd, 1)) (k : zW Γ p l e R s m args below meth c Z mi (pc + 1) ls ((1, w64 (x + y)) :: st) S) : zW Γ p l e R s m args below meth c Z mi pc ls ((1, y) :: (1, x) :: st) S :=
  zw_bl (g := fun a b => a + b) (f := fun x y => w64 (x + y)) (fun _ _ => by rw [o64w, Int64.ofInt_add]) (fun _ _ => w64_in _) (fun _ _ _ _ _ _ q => lv_ladd hC.1 hC.2.1 hd q) k
theorem zw_lsub {x y : Int} (hC : zCx Γ p s m args meth c mi) (hd : decode (zB mi) pc = .ok (.lsub, 1)) (k : zW Γ p l e R s m args below meth c Z mi (pc + 1) ls ((1, w64 (x - y)) :: st) S) : zW Γ p l e R s m args below meth c Z mi pc ls ((1, y) :: (1, x) :: st) S :=
  zw_bl (g := fun a b => a - b) (f := fun x y => w64 (x - y)) (fun _ _ => by rw [o64w, Int64.ofInt_sub]) (fun _ _ => w64_in _) (fun _ _ _ _ _ _ q => lv_lsub hC.1 hC.2.1 hd q) k
theorem zw_lmul {x y : Int} (hC : zCx Γ p s m args meth c mi) (hd : decode (zB mi) pc = .ok (.lmul, 1)) (k : zW Γ p l e R s m args below meth c Z mi (pc + 1) ls ((1, w64 (x * y)) :: st) S) : zW Γ p l e R s m args below meth c Z mi pc ls ((1, y) :: (1, x) :: st) S :=
  zw_bl (g := fun a b => a * b) (f := fun x y => w64 (x * y)) (fun _ _ => by rw [o64w, Int64.ofInt_mul]) (fun _ _ => w64_in _) (fun _ _ _ _ _ _ q => lv_lmul hC.1 hC.2.1 hd q) k
theorem zw_land {x y : Int} (hC : zCx Γ p s m args meth c mi) (hd : decode (zB mi) pc = .ok (.land, 1)) (k : zW Γ p l e R s m args below meth c Z mi (pc + 1) ls ((1, lAnd x y) :: st) S) : zW Γ p l e R s m args below meth c Z mi pc ls ((1, y) :: (1, x) :: st) S :=
  zw_bl (g := fun a b => a &&& b) (f := lAnd) (fun _ _ => by rw [lAnd, Int64.ofInt_toInt]) (fun _ _ => i64_in _) (fun _ _ _ _ _ _ q => lv_land hC.1 hC.2.1 hd q) k
theorem zw_lor {x y : Int} (hC : zCx Γ p s m args meth c mi) (hd : decode (zB mi) pc = .ok (.lor, 1)) (k : zW Γ p l e R s m args below meth c Z mi (pc + 1) ls ((1, lOr x y) :: st) S) : zW Γ p l e R s m args below meth c Z mi pc ls ((1, y) :: (1, x) :: st) S :=
  zw_bl (g := fun a b => a ||| b) (f := lOr) (fun _ _ => by rw [lOr, Int64.ofInt_toInt]) (fun _ _ => i64_in _) (fun _ _ _ _ _ _ q => lv_lor hC.1 hC.2.1 hd q) k
theorem zw_lxor {x y : Int} (hC : zCx Γ p s m args meth c mi) (hd : decode (zB mi) pc = .ok (.lxor, 1)) (k : zW Γ p l e R s m args below meth c Z mi (pc + 1) ls ((1, lXor x y) :: st) S) : zW Γ p l e R s m args below meth c Z mi pc ls ((1, y) :: (1, x) :: st) S :=
  zw_bl (g := fun a b => a ^^^ b) (f := lXor) (fun _ _ => by rw [lXor, Int64.ofInt_toInt]) (fun _ _ => i64_in _) (fun _ _ _ _ _ _ q => lv_lxor hC.1 hC.2.1 hd q) k
theorem zw_ldiv {x y : Int} (hC : zCx Γ p s m args meth c mi) (hd : decode (zB mi) pc = .ok (.ldiv, 1)) (h0 : ¬ y = 0) (k : zW Γ p l e R s m args below meth c Z mi (pc + 1) ls ((1, w64 (x.tdiv y)) :: st) S) : zW Γ p l e R s m args below meth c Z mi pc ls ((1, y) :: (1, x) :: st) S := by
  refine zw_st (st' := (1, w64 (x.tdiv y)) :: st) (fun h => ok_cons (okV1 (w64_in _)) (ok_tl (ok_tl h))) (fun H locs cells slots lsA h q => ?_) k
  refine lv_ldiv hC.1 hC.2.1 hd (o64_ne0 ((ok_hd h).2 rfl) h0) ?_
  rw [o64_div ((ok_hd (ok_tl h)).2 rfl) ((ok_hd h).2 rfl)]
  exact q
theorem zw_lrem {x y : Int} (hC : zCx Γ p s m args meth c mi) (hd : decode (zB mi) pc = .ok (.lrem, 1)) (h0 : ¬ y = 0) (k : zW Γ p l e R s m args below meth c Z mi (pc + 1) ls ((1, x.tmod y) :: st) S) : zW Γ p l e R s m args below meth c Z mi pc ls ((1, y) :: (1, x) :: st) S := by
  refine zw_st (st' := (1, x.tmod y) :: st) (fun h => ok_cons (okV1 (tmod_in64 ((ok_hd h).2 rfl) h0)) (ok_tl (ok_tl h))) (fun H locs cells slots lsA h q => ?_) k
  refine lv_lrem hC.1 hC.2.1 hd (o64_ne0 ((ok_hd h).2 rfl) h0) ?_
  rw [o64_rem ((ok_hd (ok_tl h)).2 rfl) ((ok_hd h).2 rfl)]
  exact q
theorem zw_lshl {x y : Int} (hC : zCx Γ p s m args meth c mi) (hd : decode (zB mi) pc = .ok (.lshl, 1)) (k : zW Γ p l e R s m args below meth c Z mi (pc + 1) ls ((1, lShl x y) :: st) S) : zW Γ p l e R s m args below meth c Z mi pc ls ((0, y) :: (1, x) :: st) S := by
  refine zw_st (st' := (1, lShl x y) :: st) (fun h => ok_cons (okV1 (i64_in _)) (ok_tl (ok_tl h))) (fun H locs cells slots lsA h q => ?_) k
  refine lv_lshl hC.1 hC.2.1 hd (v := Int64.ofInt (lShl x y)) (by rw [lShl, Int64.ofInt_toInt]) ?_
  exact q
theorem zw_lushr {x y : Int} (hC : zCx Γ p s m args meth c mi) (hd : decode (zB mi) pc = .ok (.lushr, 1)) (k : zW Γ p l e R s m args below meth c Z mi (pc + 1) ls ((1, lUsh x y) :: st) S) : zW Γ p l e R s m args below meth c Z mi pc ls ((0, y) :: (1, x) :: st) S := by
  refine zw_st (st' := (1, lUsh x y) :: st) (fun h => ok_cons (okV1 (i64_in _)) (ok_tl (ok_tl h))) (fun H locs cells slots lsA h q => ?_) k
  refine lv_lushr hC.1 hC.2.1 hd (v := Int64.ofInt (lUsh x y)) (by rw [lUsh, Int64.ofInt_toInt]) ?_
  exact q
theorem zw_lcmp {x y : Int} (hC : zCx Γ p s m args meth c mi) (hd : decode (zB mi) pc = .ok (.lcmp, 1)) (k : zW Γ p l e R s m args below meth c Z mi (pc + 1) ls ((0, lCmp x y) :: st) S) : zW Γ p l e R s m args below meth c Z mi pc ls ((1, y) :: (1, x) :: st) S := by
  refine zw_st (st' := (0, lCmp x y) :: st) (fun h => ok_cons (okV0 (cmp_in _ _)) (ok_tl (ok_tl h))) (fun H locs cells slots lsA h q => ?_) k
  refine W.lcmp hC.1 hC.2.1 hd ?_
  rw [o_cmp ((ok_hd (ok_tl h)).2 rfl) ((ok_hd h).2 rfl)]
  exact q
theorem zw_i2l {x : Int} (hC : zCx Γ p s m args meth c mi) (hd : decode (zB mi) pc = .ok (.i2l, 1)) (k : zW Γ p l e R s m args below meth c Z mi (pc + 1) ls ((1, x) :: st) S) : zW Γ p l e R s m args below meth c Z mi pc ls ((0, x) :: st) S := by
  refine zw_st (st' := (1, x) :: st) (fun h => ok_cons (okV1 (in32_64 ((ok_hd h).1 rfl))) (ok_tl h)) (fun H locs cells slots lsA h q => ?_) k
  exact lv_i2l hC.1 hC.2.1 hd (o32_64 ((ok_hd h).1 rfl)) q
theorem zw_l2i {x : Int} (hC : zCx Γ p s m args meth c mi) (hd : decode (zB mi) pc = .ok (.l2i, 1)) (k : zW Γ p l e R s m args below meth c Z mi (pc + 1) ls ((0, w32 x) :: st) S) : zW Γ p l e R s m args below meth c Z mi pc ls ((1, x) :: st) S := by
  refine zw_st (st' := (0, w32 x) :: st) (fun h => ok_cons (okV0 (w32_in _)) (ok_tl h)) (fun H locs cells slots lsA h q => ?_) k
  exact lv_l2i hC.1 hC.2.1 hd (o64_32 ((ok_hd h).2 rfl)) q
end ZW
