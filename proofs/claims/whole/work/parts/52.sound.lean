/-! The abstract machine is sound: what it says of a method comes out of the machine itself. -/
theorem inv_oI {st : List Vl} {k : Int → List Vl → ZR} {S : Hp} {K : Lc → List Vl → Hp → Prop} {J : Nat → Lc → List Vl → Hp → Prop} {C : Nat → List Vl → Hp → (Vl → Hp → Prop) → Prop} {Rt : Vl → Hp → Prop} (h : stW (oI st k) S K J C Rt) : ∃ x r, st = (0, x) :: r ∧ stW (k x r) S K J C Rt := by
  unfold oI at h
  split at h
  · exact ⟨_, _, rfl, h⟩
  · exact h.elim
theorem inv_oL {st : List Vl} {k : Int → List Vl → ZR} {S : Hp} {K : Lc → List Vl → Hp → Prop} {J : Nat → Lc → List Vl → Hp → Prop} {C : Nat → List Vl → Hp → (Vl → Hp → Prop) → Prop} {Rt : Vl → Hp → Prop} (h : stW (oL st k) S K J C Rt) : ∃ x r, st = (1, x) :: r ∧ stW (k x r) S K J C Rt := by
  unfold oL at h
  split at h
  · exact ⟨_, _, rfl, h⟩
  · exact h.elim
theorem inv_oA {st : List Vl} {k : Int → List Vl → ZR} {S : Hp} {K : Lc → List Vl → Hp → Prop} {J : Nat → Lc → List Vl → Hp → Prop} {C : Nat → List Vl → Hp → (Vl → Hp → Prop) → Prop} {Rt : Vl → Hp → Prop} (h : stW (oA st k) S K J C Rt) : ∃ x r, st = (2, x) :: r ∧ stW (k x r) S K J C Rt := by
  unfold oA at h
  split at h
  · exact ⟨_, _, rfl, h⟩
  · exact h.elim
theorem inv_oLd {t : Nat} {o : Option Vl} {ls : Lc} {st : List Vl} {S : Hp} {K : Lc → List Vl → Hp → Prop} {J : Nat → Lc → List Vl → Hp → Prop} {C : Nat → List Vl → Hp → (Vl → Hp → Prop) → Prop} {Rt : Vl → Hp → Prop} (h : stW (oLd t o ls st S) S K J C Rt) : ∃ x, o = some (t, x) ∧ K ls ((t, x) :: st) S := by
  unfold oLd at h
  split at h
  · rename_i n x
    by_cases e : n = t
    · subst e
      rw [show (n == n) = true from beq_self_eq_true n] at h
      exact ⟨x, rfl, h⟩
    · rw [show (n == t) = false from by simpa using e] at h
      exact h.elim
  · exact h.elim
theorem inv_oNew {c0 n0 : Int} {ls : Lc} {k : Lc → Prop → ZR} {S : Hp} {K : Lc → List Vl → Hp → Prop} {J : Nat → Lc → List Vl → Hp → Prop} {C : Nat → List Vl → Hp → (Vl → Hp → Prop) → Prop} {Rt : Vl → Hp → Prop} (h : stW (oNew c0 n0 ls k) S K J C Rt) : ∃ cc s9 rc rs : Int, lk ls 1000 = some (0, cc) ∧ lk ls 1001 = some (0, s9) ∧ lk ls 1002 = some (0, rc) ∧ lk ls 1003 = some (0, rs) ∧ stW (k (up1 (up1 ls 1000 (0, cc + c0)) 1001 (0, s9 + n0)) (cc + c0 ≤ rc ∧ s9 + n0 ≤ rs)) S K J C Rt := by
  unfold oNew at h
  split at h
  · rename_i cc s9 rc rs h0 h1 h2 h3
    exact ⟨cc, s9, rc, rs, h0, h1, h2, h3, h⟩
  · exact h.elim
theorem blt_of {a b : Nat} (h : Nat.blt a b = true) : a < b := by simpa using h
theorem any_get {α : Type} {l : List α} {f : α → Bool} (h : l.any f = true) : ∃ q ∈ l, f q = true := List.any_eq_true.mp h
theorem zFf_get {own idx : Nat} {a b : Int} {g : Nat → Nat → Bool} (h : zFf own idx a b g = true) : ∃ ci k : Nat, a = ci ∧ b = k ∧ ci < 12 ∧ k < zNf ci ∧ Cond.fieldLink (zCn own) idx (zTf ci k).1 (zTf ci k).2.1 (zTf ci k).2.2.1 ∈ gw ∧ g ci k = true := by
  obtain ⟨q, hq, h1⟩ := any_get h
  simp only [Bool.and_eq_true, decide_eq_true_eq] at h1
  obtain ⟨h1, h2, h3, h4, h5⟩ := h1
  have h6 := List.all_eq_true.mp zFL_ok q hq
  simp only [zFok, Bool.and_eq_true] at h6
  obtain ⟨h6, h7, h8⟩ := h6
  rw [Nat.eq_of_beq_eq_true h1, Nat.eq_of_beq_eq_true h2] at h6
  exact ⟨q.2.2.1, q.2.2.2.1, h3.symm, h4.symm, blt_of h7, blt_of h8, zIg_mem h6, h5⟩
theorem zCf_get {own idx ci : Nat} (h : zCf own idx ci = true) : ci < 12 ∧ Cond.classLink (zCn own) idx (zCn ci) ∈ gw := by
  obtain ⟨q, hq, h1⟩ := any_get h
  simp only [Bool.and_eq_true] at h1
  obtain ⟨h1, h2, h3⟩ := h1
  have h6 := List.all_eq_true.mp zCL_ok q hq
  simp only [zCok, Bool.and_eq_true] at h6
  rw [Nat.eq_of_beq_eq_true h1, Nat.eq_of_beq_eq_true h2, Nat.eq_of_beq_eq_true h3] at h6
  exact ⟨blt_of h6.2, zIg_mem h6.1⟩
theorem zMf_get {own idx : Nat} {a : Int} {g : Nat → Bool} (h : zMf own idx a g = true) : ∃ (m' k p9 : Nat), a = m' ∧ g k = true ∧ (own, idx, m', k, p9) ∈ zML ∧ zMok (own, idx, m', k, p9) = true := by
  obtain ⟨q, hq, h1⟩ := any_get h
  obtain ⟨q1, q2, q3, q4, q5⟩ := q
  simp only [Bool.and_eq_true, decide_eq_true_eq] at h1
  obtain ⟨h1, h2, h3, h4⟩ := h1
  have e1 : q1 = own := Nat.eq_of_beq_eq_true h1
  have e2 : q2 = idx := Nat.eq_of_beq_eq_true h2
  subst e1
  subst e2
  exact ⟨q3, q4, q5, h3.symm, h4, hq, List.all_eq_true.mp zML_ok _ hq⟩
theorem zKf_get {own idx : Nat} {v : Int} (h : zKf zKI own idx v = true) : Cond.constant (zCn own) idx (Int32.ofInt v) ∈ gw ∧ in32 v := by
  obtain ⟨q, hq, h1⟩ := any_get h
  simp only [Bool.and_eq_true, decide_eq_true_eq] at h1
  obtain ⟨h1, h2, h3⟩ := h1
  have h6 := List.all_eq_true.mp zKI_ok q hq
  simp only [Bool.and_eq_true, decide_eq_true_eq] at h6
  rw [Nat.eq_of_beq_eq_true h1, Nat.eq_of_beq_eq_true h2, h3] at h6
  exact ⟨zIg_mem h6.1, h6.2.1, h6.2.2⟩
theorem zKf_getJ {own idx : Nat} {v : Int} (h : zKf zKJ own idx v = true) : Cond.constantLong (zCn own) idx (Int64.ofInt v) ∈ gw ∧ in64 v := by
  obtain ⟨q, hq, h1⟩ := any_get h
  simp only [Bool.and_eq_true, decide_eq_true_eq] at h1
  obtain ⟨h1, h2, h3⟩ := h1
  have h6 := List.all_eq_true.mp zKJ_ok q hq
  simp only [Bool.and_eq_true, decide_eq_true_eq] at h6
  rw [Nat.eq_of_beq_eq_true h1, Nat.eq_of_beq_eq_true h2, h3] at h6
  exact ⟨zIg_mem h6.1, h6.2.1, h6.2.2⟩
theorem snd_mono : zMono Snd := fun d mi is ls st S Q Q' hQ h Γ p l e R s m args below meth c Z pc h1 h2 h3 hX h4 h5 h6 hend => h Γ p l e R s m args below meth c Z pc h1 h2 h3 hX h4 h5 h6 (fun r S' i pc' st' ls' q => hend r S' i pc' st' ls' (hQ r S' q))
theorem pk_mem {ls : Lc} {ks : List Nat} {q : Nat × Vl} (h : q ∈ pk_ls ls ks) : q ∈ ls := by
  obtain ⟨k, -, hk⟩ := List.mem_filterMap.mp h
  exact List.mem_of_getElem? hk
theorem snd_sub : zSub Snd := fun d mi is ls ks st S Q h Γ p l e R s m args below meth c Z pc h1 h2 h3 hX h4 h5 h6 hend H locs cells slots lsA hs => h Γ p l e R s m args below meth c Z pc h1 h2 h3 hX h4 h5 h6 hend H locs cells slots lsA ⟨hs.1, hs.2.1, hs.2.2.1.mem (cvL_sub (fun q hq _ => pk_mem hq)), hs.2.2.2.1, fun q hq => hs.2.2.2.2.1 q (pk_mem hq), hs.2.2.2.2.2.sub (fun q hq _ => pk_mem hq)⟩
/-- the law's calls of its own two methods that catch: told apart, to be proved on its own -/
def zWrap : Prop := ∀ (d mi : Nat) (is : List AI) (ls : Lc) (st : List Vl) (S : Hp) (Q : Vl → Hp → Prop) (idx : Nat) (b : Int), stW (oInv false (-3) b ls st S) S (fun ls st S => Snd d mi is ls st S Q) (fun t ls st S => Snd d mi (zP mi t) ls st S Q) (fun m' as S k => ∃ d', d = d' + 1 ∧ Snd d' m' (zP m' 0) (zEn m' as) [] S k) Q → Snd d mi ((.invokestatic idx, -3, b) :: is) ls st S Q
theorem zSt_in (j : Int) : in32 (zSt j) := by
  have h : ∀ n : Nat, in32 (zStt n) := fun n => by
    by_cases hn : n < 16
    · have : (List.range 16).all (fun n => decide (-2147483648 ≤ zStt n) && decide (zStt n < 2147483648)) = true := by decide +kernel
      have := List.all_eq_true.mp this n (List.mem_range.mpr hn)
      simp only [Bool.and_eq_true, decide_eq_true_eq] at this
      exact this
    · unfold zStt
      rw [show Nat.ble 16 n = true from by simpa using hn]
      exact in32_0
  exact h j.toNat
theorem ret_not9 {X : Lc → List Vl → Hp → Prop} {ls : Lc} {st : List Vl} (x : Int) (S' : Hp) : ¬ (match ((9, x) : Vl) with
    | (0, x) => X ls ((0, x) :: st) S'
    | (1, x) => X ls ((1, x) :: st) S'
    | (2, x) => X ls ((2, x) :: st) S'
    | (3, _) => X ls st S'
    | _ => False) := fun h => h
theorem zFn_nf {ci : Nat} (h : ci < 12) : zFn ci = (zNf ci : Int) := by
  have := List.all_eq_true.mp (show (List.range 12).all (fun c => decide (zFn c = (zNf c : Int))) = true by decide +kernel) ci (List.mem_range.mpr h)
  simpa using this
theorem zM_tab {m : Nat} (h : m < 291) : zMw m = zMx m ∧ (zBc m = 0 → zBs m = 0) ∧ (zIs m = false → zOn m < 12 ∧ zOw m = (zOn m : Int) + 1) := by
  have := List.all_eq_true.mp (show (List.range 291).all (fun m => Nat.beq (zMw m) (zMx m) && ((!(Nat.beq (zBc m) 0) || Nat.beq (zBs m) 0) && (zIs m || (Nat.blt (zOn m) 12 && decide (zOw m = (zOn m : Int) + 1))))) = true by decide +kernel) m (List.mem_range.mpr h)
  simp only [Bool.and_eq_true, Bool.or_eq_true, Bool.not_eq_true'] at this
  refine ⟨Nat.eq_of_beq_eq_true this.1, fun q => ?_, fun q => ?_⟩
  · rcases this.2.1 with z | z
    · rw [q] at z
      cases z
    · exact Nat.eq_of_beq_eq_true z
  · rcases this.2.2 with z | z
    · rw [q] at z
      cases z
    · exact ⟨blt_of z.1, of_decide_eq_true z.2⟩
/-- what a call gives back to the caller -/
def zRk (K : Lc → List Vl → Hp → Prop) (ls : Lc) (st : List Vl) : Vl → Hp → Prop := fun r S' => match r with
  | (0, x) => K ls ((0, x) :: st) S'
  | (1, x) => K ls ((1, x) :: st) S'
  | (2, x) => K ls ((2, x) :: st) S'
  | (3, _) => K ls st S'
  | _ => False
theorem zRk_pu {K : Lc → List Vl → Hp → Prop} {ls : Lc} {st : List Vl} {r : Vl} {S' : Hp} (h : zRk K ls st r S') (ht : zTag r) : K ls (zPu r st) S' := by
  obtain ⟨t, x⟩ := r
  have ht' : t = 0 ∨ t = 1 ∨ t = 2 ∨ t = 3 := ht
  rcases ht' with rfl | rfl | rfl | rfl <;> exact h
theorem inv_oCall {v : Bool} {a : Nat} {b : Int} {ls : Lc} {st : List Vl} {S : Hp} {K : Lc → List Vl → Hp → Prop} {J : Nat → Lc → List Vl → Hp → Prop} {C : Nat → List Vl → Hp → (Vl → Hp → Prop) → Prop} {Rt : Vl → Hp → Prop} (ha : a < 291) (h : stW (oCall v (.ofNat a) b ls st S) S K J C Rt) :
    ∃ (as r : List Vl) (ls' : Lc), st = as.reverse ++ r ∧ as.length = b.toNat ∧ sct r ≤ 8 ∧ sct as ≤ zMx a ∧ (v = true → ∃ x t, as = (2, x) :: t ∧ zK S x = zOw a) ∧ zLs ls ls' (zBc a) (zBs a) ∧ C a as S (zRk K ls' r) := by
  obtain ⟨t1, t2, -⟩ := zM_tab ha
  unfold oCall at h
  split at h
  · rename_i as r htk
    obtain ⟨xs, e1, e2, e3⟩ := tkr_spec _ _ _ _ _ htk
    rw [List.append_nil] at e1
    subst e1
    cases hb : Nat.ble (sct r) 8 && Nat.ble (sct as) (zMw (Int.ofNat a).toNat) with
    | false =>
      rw [hb] at h
      exact h.elim
    | true =>
      rw [hb] at h
      simp only [Bool.and_eq_true] at hb
      have h8 : sct r ≤ 8 := Nat.le_of_ble_eq_true hb.1
      have hs : sct as ≤ zMx a := by
        rw [← t1]
        exact Nat.le_of_ble_eq_true hb.2
      replace h : stW (match (generalizing := false) zBc a, v, as with
      | 0, false, as => some (none, .inr (.inr (.inr (.inl (a, as, ls, r)))))
      | 0, true, (2, x) :: t => some (some (zK S x = zOw a), .inr (.inr (.inr (.inl (a, (2, x) :: t, ls, r)))))
      | _ + 1, false, as => oNew (zBc a) (zBs a) ls fun ls' P => some (some P, .inr (.inr (.inr (.inl (a, as, ls', r)))))
      | _ + 1, true, (2, x) :: t => oNew (zBc a) (zBs a) ls fun ls' P => some (some (P ∧ zK S x = zOw a), .inr (.inr (.inr (.inl (a, (2, x) :: t, ls', r)))))
      | _, _, _ => none) S K J C Rt := h
      split at h
      · rename_i hz
        exact ⟨_, r, ls, e3, e2, h8, hs, fun q => (by cases q), Or.inl ⟨hz, t2 hz, rfl⟩, h⟩
      · rename_i x t hz
        exact ⟨_, r, ls, e3, e2, h8, hs, fun _ => ⟨x, t, rfl, h.1⟩, Or.inl ⟨hz, t2 hz, rfl⟩, h.2⟩
      · obtain ⟨cc, s9, rc, rs, k0, k1, k2, k3, h⟩ := inv_oNew h
        exact ⟨_, r, _, e3, e2, h8, hs, fun q => (by cases q), Or.inr ⟨cc, s9, rc, rs, k0, k1, k2, k3, h.1.1, h.1.2, rfl⟩, h.2⟩
      · rename_i x t hz
        obtain ⟨cc, s9, rc, rs, k0, k1, k2, k3, h⟩ := inv_oNew h
        exact ⟨_, r, _, e3, e2, h8, hs, fun _ => ⟨x, t, rfl, h.1.2⟩, Or.inr ⟨cc, s9, rc, rs, k0, k1, k2, k3, h.1.1.1, h.1.1.2, rfl⟩, h.2⟩
      · exact h.elim
  · exact h.elim
section ZD
variable {Γ : ZG} {p : Program} {l : Launch} {e : Env} {R : Room} {s : State} {m : MethodId} {args : Array Value} {below : List Frame} {meth : Method} {c : Code} {Z : State → Prop} {d mi pc idx : Nat} {a b : Int} {is : List AI} {ls : Lc} {st : List Vl} {S : Hp} {Q : Vl → Hp → Prop}
theorem zw_ldcw {v : Int} (hC : zCx Γ p s m args meth c mi) (hd : decode (zB mi) pc = .ok (.ldc_w idx, 3)) (hw : Cond.constant (zCn (zOn mi)) idx (Int32.ofInt v) ∈ gw) (h0 : in32 v) (k : zW Γ p l e R s m args below meth c Z mi (pc + 3) ls ((0, v) :: st) S) : zW Γ p l e R s m args below meth c Z mi pc ls st S :=
  zw_st (st' := (0, v) :: st) (fun h => ok_cons (okV0 h0) h) (fun _ _ _ _ _ _ q => lv_ldcw hC.1 hC.2.1 hC.2.2.2.2.1 (hC.2.2.2.2.2.1 _ hw) hd q) k
theorem zw_switch {df lo hi : Int} {offs : Array Int} {len : Nat} {x : Int} {X : Nat → Prop} (hC : zCx Γ p s m args meth c mi) (hd : decode (zB mi) pc = .ok (.tableswitch df lo hi offs, len)) (ha : a = (pc : Int)) (h0 : 0 ≤ (pc : Int) + df) (h1 : (offs.toList.all fun o => decide (0 ≤ (pc : Int) + o)) = true) (h2 : hi - lo + 1 = (offs.toList.length : Int))
    (J : ∀ t, X t → zW Γ p l e R s m args below meth c Z mi t ls st S) (h : (∀ q ∈ offs.toList.zipIdx.map (fun q => (lo + (q.2 : Int), (a + q.1).toNat)), x = q.1 → X q.2) ∧ ((∀ q ∈ offs.toList.zipIdx.map (fun q => (lo + (q.2 : Int), (a + q.1).toNat)), ¬ x = q.1) → X (a + df).toNat)) : zW Γ p l e R s m args below meth c Z mi pc ls ((0, x) :: st) S := by
  subst ha
  intro H locs cells slots lsA hs
  have hx : in32 x := (ok_hd hs.ok).1 rfl
  have hs' := hs.st (ok_tl hs.ok)
  rw [List.map_cons]
  by_cases q : x < lo ∨ hi < x
  · have := h.2 (fun w hw e => by
      obtain ⟨z, hz, rfl⟩ := List.mem_map.mp hw
      have e' : x = lo + (z.2 : Int) := e
      have := List.mem_zipIdx' hz
      have h5 := this.1
      omega)
    refine lv_tableOut (x := Int32.ofInt x) (tgt := ((pc : Int) + df).toNat) hC.1 hC.2.1 hd (by rw [t32 hx]; exact q) (by omega) (J _ this H locs cells slots lsA hs')
  · have hlt : (x - lo).toNat < offs.toList.length := by omega
    have hg : offs.toList[(x - lo).toNat]? = some (offs.toList[(x - lo).toNat]) := List.getElem?_eq_getElem hlt
    have hm : (offs.toList[(x - lo).toNat], (x - lo).toNat) ∈ offs.toList.zipIdx := List.mem_zipIdx_iff_getElem?.mpr hg
    have := h.1 (lo + (((x - lo).toNat : Nat) : Int), ((pc : Int) + offs.toList[(x - lo).toNat]).toNat) (List.mem_map.mpr ⟨_, hm, rfl⟩) (by show x = lo + (((x - lo).toNat : Nat) : Int); omega)
    have hp := of_decide_eq_true (List.all_eq_true.mp h1 _ (List.getElem_mem hlt))
    refine lv_tableIn (x := Int32.ofInt x) (off := offs.toList[(x - lo).toNat]) (tgt := ((pc : Int) + offs.toList[(x - lo).toNat]).toNat) hC.1 hC.2.1 hd (by rw [t32 hx]; omega) (by rw [t32 hx]; omega) (by rw [t32 hx, ← Array.getElem?_toList]; exact hg) (by omega) (J _ this H locs cells slots lsA hs')
/-- one step's premises, as the closure has them -/
def zSt1 (i : Instr) (o : ZR) (Γ : ZG) (p : Program) (l : Launch) (e : Env) (R : Room) (s : State) (m : MethodId) (args : Array Value) (below : List Frame) (meth : Method) (c : Code) (Z : State → Prop) (d mi pc : Nat) (a b : Int) (is : List AI) (ls : Lc) (st : List Vl) (S : Hp) (Q : Vl → Hp → Prop) : Prop :=
  stW o S (fun ls st S => Snd d mi is ls st S Q) (fun t ls st S => Snd d mi (zP mi t) ls st S Q) (fun m' as S k => ∃ d', d = d' + 1 ∧ Snd d' m' (zP m' 0) (zEn m' as) [] S k) Q → mi < 292 → zOk mi pc ((i, a, b) :: is) = true → zCx Γ p s m args meth c mi → zXt Γ s → l.flags = flags0 → 2 * d + 20 ≤ R.frames → 128 * (d + 20) ≤ R.locals →
  (∀ r S' i pc' st' ls', Q r S' → zEnd mi i r st' ls' pc' → decode (zB mi) pc' = .ok (i, zLn i) → zW Γ p l e R s m args below meth c Z mi pc' ls' st' S') → zW Γ p l e R s m args below meth c Z mi pc ls st S
theorem snd_virtual : zSt1 (.invokevirtual idx) (oInv true a b ls st S) Γ p l e R s m args below meth c Z d mi pc a b is ls st S Q := by
  intro hst hmi hok hC hX hfl hf hl hend
  obtain ⟨len, hd, hlk, hok'⟩ := zOk_cons hok
  simp only [zLk, Bool.and_eq_true] at hlk
  have e1 := Nat.eq_of_beq_eq_true hlk.1
  subst e1
  have K : ∀ ls st S, Snd d mi is ls st S Q → zW Γ p l e R s m args below meth c Z mi (pc + 3) ls st S := fun ls st S h => h Γ p l e R s m args below meth c Z (pc + 3) hmi hok' hC hX hfl hf hl hend
  cases a with
  | ofNat a =>
    have hlk := hlk.2
    simp only [Bool.and_eq_true, decide_eq_true_eq] at hlk
    obtain ⟨m', k, p9, em, hk, hq, hz⟩ := zMf_get hlk.1
    have em' : a = m' := by omega
    subst em'
    have hk0 : k = 0 := Nat.eq_of_beq_eq_true hk
    subst hk0
    simp only [zMok, Bool.and_eq_true, Bool.not_eq_true', decide_eq_false_iff_not] at hz
    obtain ⟨z1, z2, z3, z4⟩ := hz
    obtain ⟨as, r, ls', rfl, hn, h8, hsz, hv, hL, d', rfl, hS⟩ := inv_oCall (blt_of z2) hst
    obtain ⟨x, t, rfl, hx⟩ := hv rfl
    obtain ⟨-, -, t3⟩ := zM_tab (blt_of z2)
    have hb := hlk.2
    rw [List.length_cons] at hn
    exact zw_callV (d := d') hC hX hfl hd (blt_of z2) (zIg_mem z1) z3 z4 hf hl hS (fun _ _ h => h) hsz (by omega) h8 (by rw [hx]; exact (t3 z3).2) (t3 z3).1 hL (fun r' S' h ht => K _ _ _ (zRk_pu h ht))
  | negSucc a => exact absurd (show false = true from hlk.2) (by decide)
theorem snd_special : zSt1 (.invokespecial idx) (oInv true a b ls st S) Γ p l e R s m args below meth c Z d mi pc a b is ls st S Q := by
  intro hst hmi hok hC hX hfl hf hl hend
  obtain ⟨len, hd, hlk, hok'⟩ := zOk_cons hok
  simp only [zLk, Bool.and_eq_true] at hlk
  have e1 := Nat.eq_of_beq_eq_true hlk.1
  subst e1
  have K : ∀ ls st S, Snd d mi is ls st S Q → zW Γ p l e R s m args below meth c Z mi (pc + 3) ls st S := fun ls st S h => h Γ p l e R s m args below meth c Z (pc + 3) hmi hok' hC hX hfl hf hl hend
  have hE := hC.2.2.2.2.2.2.2.2
  cases a with
  | ofNat a =>
    have hlk := hlk.2
    simp only [Bool.and_eq_true, decide_eq_true_eq] at hlk
    obtain ⟨m', k, p9, em, hk, hq, hz⟩ := zMf_get hlk.1
    have em' : a = m' := by omega
    subst em'
    simp only [Bool.or_eq_true] at hk
    have hb := hlk.2
    rcases hk with hk | hk
    · have hk0 : k = 2 := Nat.eq_of_beq_eq_true hk
      subst hk0
      simp only [zMok, Bool.and_eq_true, Bool.not_eq_true', decide_eq_true_eq] at hz
      obtain ⟨z1, z2, z3, z4⟩ := hz
      obtain ⟨as, r, ls', rfl, hn, h8, hsz, hv, hL, d', rfl, hS⟩ := inv_oCall (blt_of z2) hst
      obtain ⟨x, t, rfl, hx⟩ := hv rfl
      obtain ⟨-, -, t3⟩ := zM_tab (blt_of z2)
      rw [List.length_cons] at hn
      intro H locs cells slots lsA h
      have hx0 : ¬ x = 0 := by
        have h9 := (t3 z3).2
        have := zx_pos h.1 (x := x) (by omega)
        omega
      exact zw_callI (d := d') hC hX hfl hd (blt_of z2) (zIg_mem z1) z3 z4.1 z4.2 hf hl hS (fun _ _ h => h) hsz (by omega) h8 hx0 hL (fun r' S' h ht => K _ _ _ (zRk_pu h ht)) H locs cells slots lsA h
    · have hk0 : k = 4 := Nat.eq_of_beq_eq_true hk
      subst hk0
      have nw : va_Nw (.methodLinkNest (zCn (zOn mi)) idx (zYn a) "CurveRingsClosed") s := hE.2.1 (zOn mi, idx, a, 4, p9) hq (Or.inr rfl)
      simp only [zMok, Bool.and_eq_true, Bool.not_eq_true', decide_eq_true_eq] at hz
      obtain ⟨z1, z2, z3, z4⟩ := hz
      obtain ⟨as, r, ls', rfl, hn, h8, hsz, hv, hL, d', rfl, hS⟩ := inv_oCall (blt_of z2) hst
      obtain ⟨x, t, rfl, hx⟩ := hv rfl
      obtain ⟨-, -, t3⟩ := zM_tab (blt_of z2)
      rw [List.length_cons] at hn
      intro H locs cells slots lsA h
      have hx0 : ¬ x = 0 := by
        have h9 := (t3 z3).2
        have := zx_pos h.1 (x := x) (by omega)
        omega
      exact zw_callIN (d := d') hC hX hfl hd (blt_of z2) nw z3 z4.1 z4.2 hf hl hS (fun _ _ h => h) hsz (by omega) h8 hx0 hL (fun r' S' h ht => K _ _ _ (zRk_pu h ht)) H locs cells slots lsA h
  | negSucc a => cases a with
    | zero =>
      obtain ⟨m', k, p9, em, hk, hq, hz⟩ := zMf_get hlk.2
      have hk0 : k = 5 := Nat.eq_of_beq_eq_true hk
      subst hk0
      obtain ⟨x, r, rfl, h⟩ := inv_oA hst
      have h : stW (bif Nat.ble (sct r) 8 then oIf (¬ x = 0) ls r S else none) S _ _ _ _ := h
      cases h8 : Nat.ble (sct r) 8 with
      | false =>
        rw [h8] at h
        exact h.elim
      | true =>
        rw [h8] at h
        exact zw_obji hC hd (zIg_mem hz) h.1 (Nat.le_of_ble_eq_true h8) (by omega) (by omega) (K _ _ _ h.2)
    | succ a => exact absurd (show false = true from hlk.2) (by decide)
theorem snd_static (hw : zWrap) : zSt1 (.invokestatic idx) (oInv false a b ls st S) Γ p l e R s m args below meth c Z d mi pc a b is ls st S Q := by
  intro hst hmi hok hC hX hfl hf hl hend
  obtain ⟨len, hd, hlk, hok'⟩ := zOk_cons hok
  simp only [zLk, Bool.and_eq_true] at hlk
  have e1 := Nat.eq_of_beq_eq_true hlk.1
  subst e1
  have K : ∀ ls st S, Snd d mi is ls st S Q → zW Γ p l e R s m args below meth c Z mi (pc + 3) ls st S := fun ls st S h => h Γ p l e R s m args below meth c Z (pc + 3) hmi hok' hC hX hfl hf hl hend
  have hE := hC.2.2.2.2.2.2.2.2
  cases a with
  | ofNat a =>
    have hlk := hlk.2
    simp only [Bool.and_eq_true, decide_eq_true_eq] at hlk
    obtain ⟨m', k, p9, em, hk, hq, hz⟩ := zMf_get hlk.1
    have em' : a = m' := by omega
    subst em'
    simp only [Bool.or_eq_true] at hk
    have hb := hlk.2
    rcases hk with hk | hk
    · have hk0 : k = 1 := Nat.eq_of_beq_eq_true hk
      subst hk0
      simp only [zMok, Bool.and_eq_true] at hz
      obtain ⟨z1, z2, z3⟩ := hz
      obtain ⟨as, r, ls', rfl, hn, h8, hsz, hv, hL, d', rfl, hS⟩ := inv_oCall (blt_of z2) hst
      exact zw_callS (d := d') hC hX hfl hd (blt_of z2) (zIg_mem z1) z3 hf hl hS (fun _ _ h => h) hsz (by omega) h8 hL (fun r' S' h ht => K _ _ _ (zRk_pu h ht))
    · have hk0 : k = 3 := Nat.eq_of_beq_eq_true hk
      subst hk0
      have nw : va_Nw (.methodLinkNest (zCn (zOn mi)) idx (zYn a) "CurveRingsClosed") s := hE.2.1 (zOn mi, idx, a, 3, p9) hq (Or.inl rfl)
      simp only [zMok, Bool.and_eq_true] at hz
      obtain ⟨z1, z2, z3⟩ := hz
      obtain ⟨as, r, ls', rfl, hn, h8, hsz, hv, hL, d', rfl, hS⟩ := inv_oCall (blt_of z2) hst
      exact zw_callSN (d := d') hC hX hfl hd (blt_of z2) nw z3 hf hl hS (fun _ _ h => h) hsz (by omega) h8 hL (fun r' S' h ht => K _ _ _ (zRk_pu h ht))
  | negSucc a => match a with
    | 0 => exact absurd (show false = true from hlk.2) (by decide)
    | 1 =>
      have hlk := hlk.2
      simp only [Bool.and_eq_true, Bool.or_eq_true, decide_eq_true_eq] at hlk
      obtain ⟨m', k, p9, em, hk, hq, hz⟩ := zMf_get hlk.1
      have hk0 : k = 6 := Nat.eq_of_beq_eq_true hk
      subst hk0
      have hst : stW (oCopy b ls st S) S _ _ _ _ := hst
      obtain ⟨n, r, rfl, h1⟩ := inv_oI hst
      obtain ⟨dp, r, rfl, h2⟩ := inv_oI h1
      obtain ⟨b9, r, rfl, h3⟩ := inv_oA h2
      obtain ⟨sp, r, rfl, h4⟩ := inv_oI h3
      obtain ⟨a9, r, rfl, h⟩ := inv_oA h4
      have h : stW (bif Nat.ble (sct r) 8 then oIf ((zK S a9 = b ∧ zK S b9 = b) ∧ (0 ≤ sp ∧ 0 ≤ dp ∧ 0 ≤ n) ∧ sp + n ≤ zL S a9 ∧ dp + n ≤ zL S b9) ls r (zC S a9 sp b9 dp n) else none) S _ _ _ _ := h
      cases h8 : Nat.ble (sct r) 8 with
      | false =>
        rw [h8] at h
        exact h.elim
      | true =>
        rw [h8] at h
        obtain ⟨⟨⟨g1, g2⟩, ⟨g3, g4, g5⟩, g6, g7⟩, g8⟩ := h
        rcases hlk.2 with rfl | rfl
        · exact zw_copy (k := 0) hC hd (zIg_mem hz) (by omega) g1 g2 g3 g4 g5 g6 g7 (Nat.le_of_ble_eq_true h8) (by omega) (by omega) (K _ _ _ g8)
        · exact zw_copy (k := 1) hC hd (zIg_mem hz) (by omega) g1 g2 g3 g4 g5 g6 g7 (Nat.le_of_ble_eq_true h8) (by omega) (by omega) (K _ _ _ g8)
    | 2 => exact hw d mi is ls st S Q idx b hst Γ p l e R s m args below meth c Z pc hmi hok hC hX hfl hf hl hend
    | a + 3 => exact absurd (show false = true from hlk.2) (by decide)
end ZD
set_option maxHeartbeats 8000000 in
theorem snd_clo_open (hw : zWrap) : zClo Snd := by
  intro d mi i is ls st S Q hst Γ p l e R s m args below meth c Z pc hmi hok hC hX hfl hf hl hend
  obtain ⟨len, hd, hlk, hok'⟩ := zOk_cons hok
  have K : ∀ ls st S, Snd d mi is ls st S Q → zW Γ p l e R s m args below meth c Z mi (pc + len) ls st S := fun ls st S h => h Γ p l e R s m args below meth c Z (pc + len) hmi hok' hC hX hfl hf hl hend
  have J : ∀ t ls st S, Snd d mi (zP mi t) ls st S Q → zW Γ p l e R s m args below meth c Z mi t ls st S := fun t ls st S h => h Γ p l e R s m args below meth c Z t hmi (zOkM_at (ok_all mi hmi) t) hC hX hfl hf hl hend
  obtain ⟨i, a, b⟩ := i
  dsimp only at hd
  cases i
  case iadd =>
    have e1 : len = 1 := Nat.eq_of_beq_eq_true hlk
    subst e1
    obtain ⟨y, r, rfl, h⟩ := inv_oI hst
    obtain ⟨x, r, rfl, h⟩ := inv_oI h
    exact zw_iadd hC hd (K _ _ _ h)
  case isub =>
    have e1 : len = 1 := Nat.eq_of_beq_eq_true hlk
    subst e1
    obtain ⟨y, r, rfl, h⟩ := inv_oI hst
    obtain ⟨x, r, rfl, h⟩ := inv_oI h
    exact zw_isub hC hd (K _ _ _ h)
  case imul =>
    have e1 : len = 1 := Nat.eq_of_beq_eq_true hlk
    subst e1
    obtain ⟨y, r, rfl, h⟩ := inv_oI hst
    obtain ⟨x, r, rfl, h⟩ := inv_oI h
    exact zw_imul hC hd (K _ _ _ h)
  case iand =>
    have e1 : len = 1 := Nat.eq_of_beq_eq_true hlk
    subst e1
    obtain ⟨y, r, rfl, h⟩ := inv_oI hst
    obtain ⟨x, r, rfl, h⟩ := inv_oI h
    exact zw_iand hC hd (K _ _ _ h)
  case ior =>
    have e1 : len = 1 := Nat.eq_of_beq_eq_true hlk
    subst e1
    obtain ⟨y, r, rfl, h⟩ := inv_oI hst
    obtain ⟨x, r, rfl, h⟩ := inv_oI h
    exact zw_ior hC hd (K _ _ _ h)
  case ixor =>
    have e1 : len = 1 := Nat.eq_of_beq_eq_true hlk
    subst e1
    obtain ⟨y, r, rfl, h⟩ := inv_oI hst
    obtain ⟨x, r, rfl, h⟩ := inv_oI h
    exact zw_ixor hC hd (K _ _ _ h)
  case ishl =>
    have e1 : len = 1 := Nat.eq_of_beq_eq_true hlk
    subst e1
    obtain ⟨y, r, rfl, h⟩ := inv_oI hst
    obtain ⟨x, r, rfl, h⟩ := inv_oI h
    exact zw_ishl hC hd (K _ _ _ h)
  case ishr =>
    have e1 : len = 1 := Nat.eq_of_beq_eq_true hlk
    subst e1
    obtain ⟨y, r, rfl, h⟩ := inv_oI hst
    obtain ⟨x, r, rfl, h⟩ := inv_oI h
    exact zw_ishr hC hd (K _ _ _ h)
  case iushr =>
    have e1 : len = 1 := Nat.eq_of_beq_eq_true hlk
    subst e1
    obtain ⟨y, r, rfl, h⟩ := inv_oI hst
    obtain ⟨x, r, rfl, h⟩ := inv_oI h
    exact zw_iushr hC hd (K _ _ _ h)
  case ladd =>
    have e1 : len = 1 := Nat.eq_of_beq_eq_true hlk
    subst e1
    obtain ⟨y, r, rfl, h⟩ := inv_oL hst
    obtain ⟨x, r, rfl, h⟩ := inv_oL h
    exact zw_ladd hC hd (K _ _ _ h)
  case lsub =>
    have e1 : len = 1 := Nat.eq_of_beq_eq_true hlk
    subst e1
    obtain ⟨y, r, rfl, h⟩ := inv_oL hst
    obtain ⟨x, r, rfl, h⟩ := inv_oL h
    exact zw_lsub hC hd (K _ _ _ h)
  case lmul =>
    have e1 : len = 1 := Nat.eq_of_beq_eq_true hlk
    subst e1
    obtain ⟨y, r, rfl, h⟩ := inv_oL hst
    obtain ⟨x, r, rfl, h⟩ := inv_oL h
    exact zw_lmul hC hd (K _ _ _ h)
  case land =>
    have e1 : len = 1 := Nat.eq_of_beq_eq_true hlk
    subst e1
    obtain ⟨y, r, rfl, h⟩ := inv_oL hst
    obtain ⟨x, r, rfl, h⟩ := inv_oL h
    exact zw_land hC hd (K _ _ _ h)
  case lor =>
    have e1 : len = 1 := Nat.eq_of_beq_eq_true hlk
    subst e1
    obtain ⟨y, r, rfl, h⟩ := inv_oL hst
    obtain ⟨x, r, rfl, h⟩ := inv_oL h
    exact zw_lor hC hd (K _ _ _ h)
  case lxor =>
    have e1 : len = 1 := Nat.eq_of_beq_eq_true hlk
    subst e1
    obtain ⟨y, r, rfl, h⟩ := inv_oL hst
    obtain ⟨x, r, rfl, h⟩ := inv_oL h
    exact zw_lxor hC hd (K _ _ _ h)
  case idiv =>
    have e1 : len = 1 := Nat.eq_of_beq_eq_true hlk
    subst e1
    obtain ⟨y, r, rfl, h⟩ := inv_oI hst
    obtain ⟨x, r, rfl, h⟩ := inv_oI h
    exact zw_idiv hC hd h.1 (K _ _ _ h.2)
  case irem =>
    have e1 : len = 1 := Nat.eq_of_beq_eq_true hlk
    subst e1
    obtain ⟨y, r, rfl, h⟩ := inv_oI hst
    obtain ⟨x, r, rfl, h⟩ := inv_oI h
    exact zw_irem hC hd h.1 (K _ _ _ h.2)
  case ldiv =>
    have e1 : len = 1 := Nat.eq_of_beq_eq_true hlk
    subst e1
    obtain ⟨y, r, rfl, h⟩ := inv_oL hst
    obtain ⟨x, r, rfl, h⟩ := inv_oL h
    exact zw_ldiv hC hd h.1 (K _ _ _ h.2)
  case lrem =>
    have e1 : len = 1 := Nat.eq_of_beq_eq_true hlk
    subst e1
    obtain ⟨y, r, rfl, h⟩ := inv_oL hst
    obtain ⟨x, r, rfl, h⟩ := inv_oL h
    exact zw_lrem hC hd h.1 (K _ _ _ h.2)
  case lshl =>
    have e1 : len = 1 := Nat.eq_of_beq_eq_true hlk
    subst e1
    obtain ⟨y, r, rfl, h⟩ := inv_oI hst
    obtain ⟨x, r, rfl, h⟩ := inv_oL h
    exact zw_lshl hC hd (K _ _ _ h)
  case lushr =>
    have e1 : len = 1 := Nat.eq_of_beq_eq_true hlk
    subst e1
    obtain ⟨y, r, rfl, h⟩ := inv_oI hst
    obtain ⟨x, r, rfl, h⟩ := inv_oL h
    exact zw_lushr hC hd (K _ _ _ h)
  case lcmp =>
    have e1 : len = 1 := Nat.eq_of_beq_eq_true hlk
    subst e1
    obtain ⟨y, r, rfl, h⟩ := inv_oL hst
    obtain ⟨x, r, rfl, h⟩ := inv_oL h
    exact zw_lcmp hC hd (K _ _ _ h)
  case ineg =>
    have e1 : len = 1 := Nat.eq_of_beq_eq_true hlk
    subst e1
    obtain ⟨x, r, rfl, h⟩ := inv_oI hst
    exact zw_ineg hC hd (K _ _ _ h)
  case i2l =>
    have e1 : len = 1 := Nat.eq_of_beq_eq_true hlk
    subst e1
    obtain ⟨x, r, rfl, h⟩ := inv_oI hst
    exact zw_i2l hC hd (K _ _ _ h)
  case l2i =>
    have e1 : len = 1 := Nat.eq_of_beq_eq_true hlk
    subst e1
    obtain ⟨x, r, rfl, h⟩ := inv_oL hst
    exact zw_l2i hC hd (K _ _ _ h)
  case iload_n k =>
    have e1 : len = 1 := Nat.eq_of_beq_eq_true hlk
    subst e1
    obtain ⟨x, hv, h⟩ := inv_oLd hst
    exact zw_iload_n hC hd hv (K _ _ _ h)
  case lload_n k =>
    have e1 : len = 1 := Nat.eq_of_beq_eq_true hlk
    subst e1
    obtain ⟨x, hv, h⟩ := inv_oLd hst
    exact zw_lload_n hC hd hv (K _ _ _ h)
  case aload_n k =>
    have e1 : len = 1 := Nat.eq_of_beq_eq_true hlk
    subst e1
    obtain ⟨x, hv, h⟩ := inv_oLd hst
    exact zw_aload_n hC hd hv (K _ _ _ h)
  case iload k =>
    simp only [zLk, Bool.and_eq_true, decide_eq_true_eq] at hlk
    have e1 := Nat.eq_of_beq_eq_true hlk.1
    subst e1
    obtain ⟨x, hv, h⟩ := inv_oLd hst
    exact zw_iload hC hd (blt_of hlk.2) hv (K _ _ _ h)
  case lload k =>
    simp only [zLk, Bool.and_eq_true, decide_eq_true_eq] at hlk
    have e1 := Nat.eq_of_beq_eq_true hlk.1
    subst e1
    obtain ⟨x, hv, h⟩ := inv_oLd hst
    exact zw_lload hC hd (blt_of hlk.2) hv (K _ _ _ h)
  case aload k =>
    simp only [zLk, Bool.and_eq_true, decide_eq_true_eq] at hlk
    have e1 := Nat.eq_of_beq_eq_true hlk.1
    subst e1
    obtain ⟨x, hv, h⟩ := inv_oLd hst
    exact zw_aload hC hd (blt_of hlk.2) hv (K _ _ _ h)
  case istore_n k =>
    simp only [zLk, Bool.and_eq_true, decide_eq_true_eq] at hlk
    have e1 := Nat.eq_of_beq_eq_true hlk.1
    subst e1
    obtain ⟨x, r, rfl, h⟩ := inv_oI hst
    exact zw_istore_n hC hd (blt_of hlk.2) (K _ _ _ h)
  case astore_n k =>
    simp only [zLk, Bool.and_eq_true, decide_eq_true_eq] at hlk
    have e1 := Nat.eq_of_beq_eq_true hlk.1
    subst e1
    obtain ⟨x, r, rfl, h⟩ := inv_oA hst
    exact zw_astore_n hC hd (blt_of hlk.2) (K _ _ _ h)
  case lstore_n k =>
    simp only [zLk, Bool.and_eq_true, decide_eq_true_eq] at hlk
    have e1 := Nat.eq_of_beq_eq_true hlk.1
    subst e1
    obtain ⟨x, r, rfl, h⟩ := inv_oL hst
    exact zw_lstore_n hC hd (blt_of hlk.2) (K _ _ _ h)
  case istore k =>
    simp only [zLk, Bool.and_eq_true, decide_eq_true_eq] at hlk
    have e1 := Nat.eq_of_beq_eq_true hlk.1
    subst e1
    obtain ⟨x, r, rfl, h⟩ := inv_oI hst
    exact zw_istore hC hd (blt_of hlk.2.1) (blt_of hlk.2.2) (K _ _ _ h)
  case astore k =>
    simp only [zLk, Bool.and_eq_true, decide_eq_true_eq] at hlk
    have e1 := Nat.eq_of_beq_eq_true hlk.1
    subst e1
    obtain ⟨x, r, rfl, h⟩ := inv_oA hst
    exact zw_astore hC hd (blt_of hlk.2.1) (blt_of hlk.2.2) (K _ _ _ h)
  case lstore k =>
    simp only [zLk, Bool.and_eq_true, decide_eq_true_eq] at hlk
    have e1 := Nat.eq_of_beq_eq_true hlk.1
    subst e1
    obtain ⟨x, r, rfl, h⟩ := inv_oL hst
    exact zw_lstore hC hd (blt_of hlk.2.1) (blt_of hlk.2.2) (K _ _ _ h)
  case iinc k n =>
    simp only [zLk, Bool.and_eq_true, decide_eq_true_eq] at hlk
    have e1 := Nat.eq_of_beq_eq_true hlk.1
    subst e1
    replace hst : stW (match (generalizing := false) lk ls k with | some (0, x) => oGo (up1 ls k (0, w32 (x + n))) st S | _ => none) S _ _ _ _ := hst
    split at hst
    · rename_i x hx
      exact zw_iinc hC hd (blt_of hlk.2.1) (blt_of hlk.2.2) hx (K _ _ _ hst)
    · exact hst.elim
  case iconst n =>
    simp only [zLk, Bool.and_eq_true, decide_eq_true_eq] at hlk
    have e1 := Nat.eq_of_beq_eq_true hlk.1
    subst e1
    exact zw_iconst hC hd ⟨by omega, by omega⟩ (K _ _ _ hst)
  case bipush n =>
    simp only [zLk, Bool.and_eq_true, decide_eq_true_eq] at hlk
    have e1 := Nat.eq_of_beq_eq_true hlk.1
    subst e1
    exact zw_bipush hC hd hlk.2.1 hlk.2.2 (K _ _ _ hst)
  case sipush n =>
    simp only [zLk, Bool.and_eq_true, decide_eq_true_eq] at hlk
    have e1 := Nat.eq_of_beq_eq_true hlk.1
    subst e1
    exact zw_sipush hC hd hlk.2.1 hlk.2.2 (K _ _ _ hst)
  case lconst n =>
    have e1 : len = 1 := Nat.eq_of_beq_eq_true hlk
    subst e1
    exact zw_lconst hC hd (K _ _ _ hst)
  case ldc idx =>
    simp only [zLk, Bool.and_eq_true, decide_eq_true_eq] at hlk
    have e1 := Nat.eq_of_beq_eq_true hlk.1
    subst e1
    obtain ⟨g1, g2⟩ := zKf_get hlk.2
    exact zw_ldc hC hd g1 g2 (K _ _ _ hst)
  case ldc_w idx =>
    simp only [zLk, Bool.and_eq_true, decide_eq_true_eq] at hlk
    have e1 := Nat.eq_of_beq_eq_true hlk.1
    subst e1
    obtain ⟨g1, g2⟩ := zKf_get hlk.2
    exact zw_ldcw hC hd g1 g2 (K _ _ _ hst)
  case ldc2_w idx =>
    simp only [zLk, Bool.and_eq_true, decide_eq_true_eq] at hlk
    have e1 := Nat.eq_of_beq_eq_true hlk.1
    subst e1
    obtain ⟨g1, g2⟩ := zKf_getJ hlk.2
    exact zw_ldc2 hC hd g1 g2 (K _ _ _ hst)
  case dup =>
    have e1 : len = 1 := Nat.eq_of_beq_eq_true hlk
    subst e1
    replace hst : stW (match (generalizing := false) st with | (0, x) :: r => oGo ls ((0, x) :: (0, x) :: r) S | (2, x) :: r => oGo ls ((2, x) :: (2, x) :: r) S | _ => none) S _ _ _ _ := hst
    split at hst
    · exact zw_dup hC hd rfl (K _ _ _ hst)
    · exact zw_dup hC hd rfl (K _ _ _ hst)
    · exact hst.elim
  case dup2 =>
    have e1 : len = 1 := Nat.eq_of_beq_eq_true hlk
    subst e1
    replace hst : stW (match (generalizing := false) st with | (0, j) :: (2, x) :: r => oGo ls ((0, j) :: (2, x) :: (0, j) :: (2, x) :: r) S | _ => none) S _ _ _ _ := hst
    split at hst
    · exact zw_dup2 hC hd rfl rfl (K _ _ _ hst)
    · exact hst.elim
  case pop =>
    have e1 : len = 1 := Nat.eq_of_beq_eq_true hlk
    subst e1
    replace hst : stW (match (generalizing := false) st with | (0, _) :: r => oGo ls r S | (2, _) :: r => oGo ls r S | _ => none) S _ _ _ _ := hst
    split at hst
    · exact zw_pop hC hd rfl (K _ _ _ hst)
    · exact zw_pop hC hd rfl (K _ _ _ hst)
    · exact hst.elim
  case goto off =>
    simp only [zLk, Bool.and_eq_true, decide_eq_true_eq] at hlk
    have e1 := Nat.eq_of_beq_eq_true hlk.1
    subst e1
    exact zw_goto (tgt := a.toNat) hC hd (by omega) (J _ _ _ _ hst)
  case ifCond cd off =>
    simp only [zLk, Bool.and_eq_true, decide_eq_true_eq] at hlk
    have e1 := Nat.eq_of_beq_eq_true hlk.1
    subst e1
    obtain ⟨x, r, rfl, h⟩ := inv_oI hst
    exact zw_if (tgt := a.toNat) hC hd (by omega) (fun q => J _ _ _ _ (h.1 q)) (fun q => K _ _ _ (h.2 q))
  case if_icmp cd off =>
    simp only [zLk, Bool.and_eq_true, decide_eq_true_eq] at hlk
    have e1 := Nat.eq_of_beq_eq_true hlk.1
    subst e1
    obtain ⟨y, r, rfl, h⟩ := inv_oI hst
    obtain ⟨x, r, rfl, h⟩ := inv_oI h
    exact zw_icmp (tgt := a.toNat) hC hd (by omega) (fun q => J _ _ _ _ (h.1 q)) (fun q => K _ _ _ (h.2 q))
  case getfield idx =>
    simp only [zLk, Bool.and_eq_true, decide_eq_true_eq] at hlk
    have e1 := Nat.eq_of_beq_eq_true hlk.1
    subst e1
    obtain ⟨ci, k, rfl, rfl, g3, g4, g5, -⟩ := zFf_get hlk.2
    obtain ⟨x, r, rfl, h⟩ := inv_oA hst
    have hx : zK S x = (ci : Int) + 1 := h.1
    refine zw_getf hC hd g3 g4 g5 hx (K _ _ _ ?_)
    rw [hx, zPl_obj g3 _ rfl]
    exact h.2
  case putfield idx =>
    simp only [zLk, Bool.and_eq_true, decide_eq_true_eq] at hlk
    have e1 := Nat.eq_of_beq_eq_true hlk.1
    subst e1
    obtain ⟨ci, k, rfl, rfl, g3, g4, g5, g6⟩ := zFf_get hlk.2
    simp only [Bool.or_eq_true, Bool.not_eq_true', Bool.and_eq_true, decide_eq_true_eq] at g6
    have hfin : (zTf ci k).2.2.2 = false ∨ ((zTf ci k).2.2.2 = true ∧ (zYn mi).name = "<init>" ∧ (zTf ci k).1 = zCn (zOn mi)) := by
      cases q : (zTf ci k).2.2.2 with
      | false => exact Or.inl rfl
      | true =>
        rw [q] at g6
        exact Or.inr ⟨rfl, g6.resolve_left (fun z => by cases z)⟩
    replace hst : stW (oT (zFt ci k) st fun v st => oA st fun x st => (match zFt ci k with | 3 => oIf (zK S x = (ci : Int) + 1 ∧ in01 v) ls st (zS S x k v) | _ => oIf (zK S x = (ci : Int) + 1) ls st (zS S x k v))) S _ _ _ _ := hst
    have hf9 := List.all_eq_true.mp (List.all_eq_true.mp fit_all ci (List.mem_range.mpr g3)) k (List.mem_range.mpr g4)
    have main : ∀ (v x : Int) (r : List Vl), st = (tg (zFt ci k), v) :: (2, x) :: r → zK S x = (ci : Int) + 1 → (zFt ci k = 3 → in01 v) → Snd d mi is ls r (zS S x k v) Q → zW Γ p l e R s m args below meth c Z mi pc ls st S := by
      intro v x r hs hx h3 hk
      rw [hs]
      exact zw_putf hC hd g3 g4 g5 hfin hx h3 (K _ _ _ hk)
    generalize zFt ci k = t at hst hf9 main
    match t with
    | 0 =>
      obtain ⟨v, r, rfl, h⟩ := inv_oI hst
      obtain ⟨x, r, rfl, h⟩ := inv_oA h
      exact main v x r rfl h.1 (fun z => by cases z) h.2
    | 1 => exact absurd hf9 (by unfold fitB; simp)
    | 2 =>
      obtain ⟨v, r, rfl, h⟩ := inv_oA hst
      obtain ⟨x, r, rfl, h⟩ := inv_oA h
      exact main v x r rfl h.1 (fun z => by cases z) h.2
    | 3 =>
      obtain ⟨v, r, rfl, h⟩ := inv_oI hst
      obtain ⟨x, r, rfl, h⟩ := inv_oA h
      exact main v x r rfl h.1.1 (fun _ => h.1.2) h.2
    | n + 4 => exact hst.elim
  case getstatic idx =>
    simp only [zLk, Bool.and_eq_true, decide_eq_true_eq] at hlk
    have e1 := Nat.eq_of_beq_eq_true hlk.1
    subst e1
    have e2 := Nat.eq_of_beq_eq_true hlk.2.1
    subst e2
    exact zw_getst hC hd (Nat.eq_of_beq_eq_true hlk.2.2) (K _ _ _ hst)
  case iaload =>
    have e1 : len = 1 := Nat.eq_of_beq_eq_true hlk
    subst e1
    replace hst : stW (match (generalizing := false) a with
      | 0 => oI st fun j st => oA st fun x st => oIf (zK S x = 101 ∧ 0 ≤ j ∧ j < zL S x) ls ((0, zG S x j) :: st) S
      | 1 => oI st fun j st => oA st fun x st => oIf (x = -1 ∧ 0 ≤ j ∧ j < 16) ls ((0, zSt j) :: st) S
      | 2 => oI st fun j st => oA st fun x st => oIf (x = -2 ∧ 0 ≤ j ∧ j < zL S (-2)) ls ((0, zG S (-2) j) :: st) S
      | _ => none) S _ _ _ _ := hst
    split at hst
    · obtain ⟨j, r, rfl, h⟩ := inv_oI hst
      obtain ⟨x, r, rfl, h⟩ := inv_oA h
      exact zw_iald hC hd h.1.1 h.1.2.1 h.1.2.2 (K _ _ _ h.2)
    · obtain ⟨j, r, rfl, h⟩ := inv_oI hst
      obtain ⟨x, r, rfl, h⟩ := inv_oA h
      obtain ⟨⟨rfl, h1, h2⟩, h3⟩ := h
      exact zw_start hC hd h1 h2 (K _ _ _ h3) (zSt_in j)
    · obtain ⟨j, r, rfl, h⟩ := inv_oI hst
      obtain ⟨x, r, rfl, h⟩ := inv_oA h
      obtain ⟨⟨rfl, h1, h2⟩, h3⟩ := h
      exact zw_script hC hd h1 h2 (K _ _ _ h3)
    · exact hst.elim
  case laload =>
    have e1 : len = 1 := Nat.eq_of_beq_eq_true hlk
    subst e1
    obtain ⟨j, r, rfl, h⟩ := inv_oI hst
    obtain ⟨x, r, rfl, h⟩ := inv_oA h
    exact zw_lald hC hd h.1.1 h.1.2.1 h.1.2.2 (K _ _ _ h.2)
  case baload =>
    have e1 : len = 1 := Nat.eq_of_beq_eq_true hlk
    subst e1
    obtain ⟨j, r, rfl, h⟩ := inv_oI hst
    obtain ⟨x, r, rfl, h⟩ := inv_oA h
    exact zw_zald hC hd h.1.1 h.1.2.1 h.1.2.2 (K _ _ _ h.2)
  case aaload =>
    simp only [zLk, Bool.and_eq_true, decide_eq_true_eq] at hlk
    have e1 := Nat.eq_of_beq_eq_true hlk.1
    subst e1
    obtain ⟨k, rfl⟩ : ∃ k : Nat, a = (k : Int) + 101 := ⟨(a - 101).toNat, by omega⟩
    obtain ⟨j, r, rfl, h⟩ := inv_oI hst
    obtain ⟨x, r, rfl, h⟩ := inv_oA h
    exact zw_aald (k := k) hC hd (by omega) (by omega) h.1.1 h.1.2.1 h.1.2.2 (K _ _ _ h.2)
  case iastore =>
    have e1 : len = 1 := Nat.eq_of_beq_eq_true hlk
    subst e1
    obtain ⟨v, r, rfl, h⟩ := inv_oI hst
    obtain ⟨j, r, rfl, h⟩ := inv_oI h
    obtain ⟨x, r, rfl, h⟩ := inv_oA h
    exact zw_iast hC hd h.1.1 h.1.2.1 h.1.2.2 (K _ _ _ h.2)
  case lastore =>
    have e1 : len = 1 := Nat.eq_of_beq_eq_true hlk
    subst e1
    obtain ⟨v, r, rfl, h⟩ := inv_oL hst
    obtain ⟨j, r, rfl, h⟩ := inv_oI h
    obtain ⟨x, r, rfl, h⟩ := inv_oA h
    exact zw_last hC hd h.1.1 h.1.2.1 h.1.2.2 (K _ _ _ h.2)
  case bastore =>
    have e1 : len = 1 := Nat.eq_of_beq_eq_true hlk
    subst e1
    obtain ⟨v, r, rfl, h⟩ := inv_oI hst
    obtain ⟨j, r, rfl, h⟩ := inv_oI h
    obtain ⟨x, r, rfl, h⟩ := inv_oA h
    exact zw_zast hC hd h.1.1 h.1.2.1 h.1.2.2.1 h.1.2.2.2 (K _ _ _ h.2)
  case aastore =>
    simp only [zLk, Bool.and_eq_true, decide_eq_true_eq] at hlk
    have e1 := Nat.eq_of_beq_eq_true hlk.1
    subst e1
    obtain ⟨k, rfl⟩ : ∃ k : Nat, a = (k : Int) + 101 := ⟨(a - 101).toNat, by omega⟩
    have eb : ((zEl k : Nat) : Int) = b := by
      have := hlk.2.2.2
      rw [show ((k : Int) + 101 - 101).toNat = k by omega] at this
      exact this
    subst eb
    obtain ⟨v, r, rfl, h⟩ := inv_oA hst
    obtain ⟨j, r, rfl, h⟩ := inv_oI h
    obtain ⟨x, r, rfl, h⟩ := inv_oA h
    exact zw_aast (k := k) hC hd (by omega) (by omega) h.1.1 h.1.2.1 h.1.2.2.1 h.1.2.2.2 (K _ _ _ h.2)
  case arraylength =>
    simp only [zLk, Bool.and_eq_true, Bool.or_eq_true, decide_eq_true_eq] at hlk
    have e1 := Nat.eq_of_beq_eq_true hlk.1
    subst e1
    obtain ⟨x, r, rfl, h⟩ := inv_oA hst
    cases a with
    | ofNat a =>
      have h9 : ((a : Nat) : Int) < 0 ∨ (101 ≤ ((a : Nat) : Int) ∧ ((a : Nat) : Int) ≤ 108) := hlk.2
      obtain ⟨k, rfl⟩ : ∃ k : Nat, a = k + 101 := ⟨a - 101, by omega⟩
      have hx : zK S x = (k : Int) + 101 := h.1
      exact zw_alen (k := k) hC hd (by omega) hx (K _ _ _ h.2)
    | negSucc a =>
      obtain ⟨rfl, h⟩ := h
      exact zw_slen hC hd (K _ _ _ h)
  case newarray t =>
    simp only [zLk, Bool.and_eq_true, decide_eq_true_eq] at hlk
    have e1 := Nat.eq_of_beq_eq_true hlk.1
    subst e1
    obtain ⟨n, r, rfl, h⟩ := inv_oI hst
    obtain ⟨cc, s9, rc, rs, k0, k1, k2, k3, h⟩ := inv_oNew h
    have ea : a = (zNt t : Int) + 101 := hlk.2.2
    subst ea
    exact zw_newa hC hd (blt_of hlk.2.1) k0 k1 k2 k3 h.1.1.1 h.1.1.2 h.1.2.1 h.1.2.2.1 h.1.2.2.2 (K _ _ _ h.2)
  case anewarray idx =>
    simp only [zLk, Bool.and_eq_true, decide_eq_true_eq] at hlk
    have e1 := Nat.eq_of_beq_eq_true hlk.1
    subst e1
    obtain ⟨k, rfl⟩ : ∃ k : Nat, a = (k : Int) + 101 := ⟨(a - 101).toNat, by omega⟩
    obtain ⟨n, r, rfl, h⟩ := inv_oI hst
    obtain ⟨cc, s9, rc, rs, k0, k1, k2, k3, h⟩ := inv_oNew h
    have hc9 := hlk.2.2.2
    rw [show ((k : Int) + 101 - 101).toNat = k by omega] at hc9
    exact zw_anew (k := k) hC hd (by omega) (by omega) (zCf_get hc9).2 k0 k1 k2 k3 h.1.1.1 h.1.1.2 h.1.2.1 h.1.2.2.1 h.1.2.2.2 (K _ _ _ h.2)
  case multianewarray idx dims =>
    simp only [zLk, Bool.and_eq_true, decide_eq_true_eq] at hlk
    have e1 := Nat.eq_of_beq_eq_true hlk.1
    subst e1
    have e2 := Nat.eq_of_beq_eq_true hlk.2.1
    have e3 := Nat.eq_of_beq_eq_true hlk.2.2.1
    subst e2
    subst e3
    obtain ⟨k, r, rfl, h1⟩ := inv_oI hst
    obtain ⟨n, r, rfl, h2⟩ := inv_oI h1
    obtain ⟨cc, s9, rc, rs, k0, k1, k2, k3, h⟩ := inv_oNew h2
    obtain ⟨⟨⟨g1, g2⟩, g3, rfl, rfl⟩, h⟩ := h
    exact zw_multi hC hd (Nat.eq_of_beq_eq_true hlk.2.2.2) k0 k1 k2 k3 g1 g2 g3 (K _ _ _ h)
  case new idx =>
    cases a with
    | ofNat ci =>
      simp only [zLk, Bool.and_eq_true] at hlk
      have e1 := Nat.eq_of_beq_eq_true hlk.1
      subst e1
      obtain ⟨g1, g2⟩ := zCf_get hlk.2
      replace hst : stW (oNew 1 (zFn ci) ls fun ls' P => oIf (P ∧ zT S = 1) ls' ((2, zN S) :: st) (zA S ((ci : Int) + 1) 0)) S _ _ _ _ := hst
      obtain ⟨cc, s9, rc, rs, k0, k1, k2, k3, h⟩ := inv_oNew hst
      have en : zFn ci = (zNf ci : Int) := zFn_nf g1
      rw [en] at h
      exact zw_new hC hd g1 g2 k0 k1 k2 k3 h.1.1.1 h.1.1.2 h.1.2 (K _ _ _ h.2)
    | negSucc q =>
      simp only [zLk, Bool.and_eq_true, Bool.or_eq_true, decide_eq_true_eq] at hlk
      have e1 := Nat.eq_of_beq_eq_true hlk.1
      subst e1
      replace hst : stW (bif Nat.ble (sct st) 8 then oNew 1 6 ls fun _ P => some (some P, .inr (.inr (.inr (.inr (.inl (9, b)))))) else none) S _ _ _ _ := hst
      have h8 : Nat.ble (sct st) 8 = true := by
        cases h8 : Nat.ble (sct st) 8 with
        | false =>
          rw [h8] at hst
          exact hst.elim
        | true => rfl
      rw [h8] at hst
      replace hst : stW (oNew 1 6 ls fun _ P => some (some P, .inr (.inr (.inr (.inr (.inl (9, b))))))) S _ _ _ _ := hst
      obtain ⟨cc, s9, rc, rs, k0, k1, k2, k3, h⟩ := inv_oNew hst
      exact hend (9, b) S (.new idx) pc st ls h.2 (Or.inr (Or.inr (Or.inr (Or.inr ⟨idx, b, rfl, rfl, Nat.eq_of_beq_eq_true hlk.2.1, hlk.2.2.1, hlk.2.2.2, Nat.le_of_ble_eq_true h8, cc, s9, rc, rs, k0, k1, k2, k3, h.1.1, h.1.2⟩)))) hd
  case ireturn =>
    simp only [zLk, Bool.and_eq_true, Bool.or_eq_true, decide_eq_true_eq] at hlk
    have e1 := Nat.eq_of_beq_eq_true hlk.1
    subst e1
    replace hst : stW (match (generalizing := false) st with
      | [(0, x)] => (match (generalizing := false) a with
        | 3 => some (some (in01 x), .inr (.inr (.inr (.inr (.inl (0, x))))))
        | _ => some (none, .inr (.inr (.inr (.inr (.inl (0, x)))))))
      | _ => none) S _ _ _ _ := hst
    split at hst
    · rename_i x
      rcases hlk.2 with ⟨rfl, hr⟩ | ⟨rfl, hr⟩
      · exact hend (0, x) S .ireturn pc _ ls hst.2 (Or.inl ⟨rfl, x, rfl, rfl, Or.inr ⟨hr, hst.1⟩⟩) hd
      · exact hend (0, x) S .ireturn pc _ ls hst (Or.inl ⟨rfl, x, rfl, rfl, Or.inl hr⟩) hd
    · exact hst.elim
  case lreturn =>
    simp only [zLk, Bool.and_eq_true, decide_eq_true_eq] at hlk
    have e1 := Nat.eq_of_beq_eq_true hlk.1
    subst e1
    replace hst : stW (match (generalizing := false) st with | [(1, x)] => some (none, .inr (.inr (.inr (.inr (.inl (1, x)))))) | _ => none) S _ _ _ _ := hst
    split at hst
    · rename_i x
      exact hend (1, x) S .lreturn pc _ ls hst (Or.inr (Or.inl ⟨rfl, x, rfl, rfl, hlk.2⟩)) hd
    · exact hst.elim
  case areturn =>
    simp only [zLk, Bool.and_eq_true] at hlk
    have e1 := Nat.eq_of_beq_eq_true hlk.1
    subst e1
    have hr : (∃ n, zRt mi = some (.object n)) ∨ ∃ t, zRt mi = some (.array t) := by
      have := hlk.2
      split at this
      · rename_i n hn
        exact Or.inl ⟨n, hn⟩
      · rename_i n hn
        exact Or.inr ⟨n, hn⟩
      · cases this
    replace hst : stW (match (generalizing := false) st with | [(2, x)] => some (none, .inr (.inr (.inr (.inr (.inl (2, x)))))) | _ => none) S _ _ _ _ := hst
    split at hst
    · rename_i x
      exact hend (2, x) S .areturn pc _ ls hst (Or.inr (Or.inr (Or.inl ⟨rfl, x, rfl, rfl, hr⟩))) hd
    · exact hst.elim
  case return_ =>
    simp only [zLk, Bool.and_eq_true, decide_eq_true_eq] at hlk
    have e1 := Nat.eq_of_beq_eq_true hlk.1
    subst e1
    replace hst : stW (match (generalizing := false) st with | [] => some (none, .inr (.inr (.inr (.inr (.inl (3, 0)))))) | _ => none) S _ _ _ _ := hst
    split at hst
    · exact hend (3, 0) S .return_ pc _ ls hst (Or.inr (Or.inr (Or.inr (Or.inl ⟨rfl, rfl, rfl, hlk.2⟩)))) hd
    · exact hst.elim
  case tableswitch df lo hi offs =>
    simp only [zLk, Bool.and_eq_true, decide_eq_true_eq] at hlk
    obtain ⟨x, r, rfl, h⟩ := inv_oI hst
    exact zw_switch hC hd hlk.1 hlk.2.1 hlk.2.2.1 hlk.2.2.2 (fun t hk => J _ _ _ _ hk) h
  case invokestatic idx =>
    exact snd_static hw hst hmi hok hC hX hfl hf hl hend
  case invokevirtual idx =>
    exact snd_virtual hst hmi hok hC hX hfl hf hl hend
  case invokespecial idx =>
    exact snd_special hst hmi hok hC hX hfl hf hl hend
  all_goals exact False.elim hst
