/-! What the code's own words say of each instruction: decided by program. -/
def zKf (l : List (Nat × Nat × Int × Nat)) (own idx : Nat) (v : Int) : Bool := l.any (fun q => Nat.beq q.1 own && (Nat.beq q.2.1 idx && decide (q.2.2.1 = v)))
def zFf (own idx : Nat) (a b : Int) (g : Nat → Nat → Bool) : Bool := zFL.any (fun q => Nat.beq q.1 own && (Nat.beq q.2.1 idx && (decide ((q.2.2.1 : Int) = a) && (decide ((q.2.2.2.1 : Int) = b) && g q.2.2.1 q.2.2.2.1))))
def zMf (own idx : Nat) (a : Int) (g : Nat → Bool) : Bool := zML.any (fun q => Nat.beq q.1 own && (Nat.beq q.2.1 idx && (decide ((q.2.2.1 : Int) = a) && g q.2.2.2.1)))
def zCf (own idx ci : Nat) : Bool := zCL.any (fun q => Nat.beq q.1 own && (Nat.beq q.2.1 idx && Nat.beq q.2.2.1 ci))
/-- a throw's rows: new; dup; ldc_w; invokespecial; athrow -/
def zThT : List (Nat × Nat × Nat) := [(314, 316, 318), (324, 326, 328), (335, 337, 339), (324, 358, 328)]
def zThr (mi pc idx : Nat) : Bool := match decode (zB mi) (pc + 3), decode (zB mi) (pc + 4), decode (zB mi) (pc + 7), decode (zB mi) (pc + 10) with
  | .ok (.dup, 1), .ok (.ldc_w is, 3), .ok (.invokespecial ic, 3), .ok (.athrow, 1) => zThT.any (fun q => Nat.beq q.1 idx && (Nat.beq q.2.1 is && Nat.beq q.2.2 ic))
  | _, _, _, _ => false
theorem zThr_get {mi pc idx : Nat} (h : zThr mi pc idx = true) : ∃ is ic, decode (zB mi) (pc + 3) = .ok (.dup, 1) ∧ decode (zB mi) (pc + 4) = .ok (.ldc_w is, 3) ∧ decode (zB mi) (pc + 7) = .ok (.invokespecial ic, 3) ∧ decode (zB mi) (pc + 10) = .ok (.athrow, 1) ∧ (idx, is, ic) ∈ zThT := by
  unfold zThr at h
  split at h
  · rename_i is ic h1 h2 h3 h4
    obtain ⟨q, hq, hb⟩ := List.any_eq_true.mp h
    simp only [Bool.and_eq_true] at hb
    refine ⟨is, ic, h1, h2, h3, h4, ?_⟩
    rw [← Nat.eq_of_beq_eq_true hb.1, ← Nat.eq_of_beq_eq_true hb.2.1, ← Nat.eq_of_beq_eq_true hb.2.2]
    exact hq
  · cases h
def zLk (mi pc len : Nat) (i : AI) : Bool := match i.1 with
  | .aload_n _ => Nat.beq len 1
  | .iload_n _ => Nat.beq len 1
  | .lload_n _ => Nat.beq len 1
  | .aload k => Nat.beq len 2 && Nat.blt k 1000
  | .iload k => Nat.beq len 2 && Nat.blt k 1000
  | .lload k => Nat.beq len 2 && Nat.blt k 1000
  | .astore_n k => Nat.beq len 1 && Nat.blt k.val (zMx mi)
  | .istore_n k => Nat.beq len 1 && Nat.blt k.val (zMx mi)
  | .lstore_n k => Nat.beq len 1 && Nat.blt (k.val + 1) (zMx mi)
  | .astore k => Nat.beq len 2 && (Nat.blt k 1000 && Nat.blt k (zMx mi))
  | .istore k => Nat.beq len 2 && (Nat.blt k 1000 && Nat.blt k (zMx mi))
  | .lstore k => Nat.beq len 2 && (Nat.blt k 1000 && Nat.blt (k + 1) (zMx mi))
  | .iinc k _ => Nat.beq len 3 && (Nat.blt k 1000 && Nat.blt k (zMx mi))
  | .iconst n => Nat.beq len 1 && (decide (-1000 ≤ n) && decide (n ≤ 1000))
  | .bipush n => Nat.beq len 2 && (decide (-128 ≤ n) && decide (n < 128))
  | .sipush n => Nat.beq len 3 && (decide (-32768 ≤ n) && decide (n < 32768))
  | .lconst _ => Nat.beq len 1
  | .ldc idx => Nat.beq len 2 && zKf zKI (zOn mi) idx i.2.1
  | .ldc_w idx => Nat.beq len 3 && zKf zKI (zOn mi) idx i.2.1
  | .ldc2_w idx => Nat.beq len 3 && zKf zKJ (zOn mi) idx i.2.1
  | .getfield idx => Nat.beq len 3 && zFf (zOn mi) idx i.2.1 i.2.2 (fun _ _ => true)
  | .putfield idx => Nat.beq len 3 && zFf (zOn mi) idx i.2.1 i.2.2 (fun c k => !(zTf c k).2.2.2 || (decide ((zYn mi).name = "<init>") && decide ((zTf c k).1 = zCn (zOn mi))))
  | .getstatic idx => Nat.beq len 3 && (Nat.beq idx 30 && Nat.beq (zOn mi) 5)
  | .aaload => Nat.beq len 1 && (decide (104 ≤ i.2.1) && decide (i.2.1 ≤ 108))
  | .aastore => Nat.beq len 1 && (decide (104 ≤ i.2.1) && (decide (i.2.1 ≤ 107) && decide (((zEl (i.2.1 - 101).toNat : Nat) : Int) = i.2.2)))
  | .arraylength => Nat.beq len 1 && (decide (i.2.1 < 0) || (decide (101 ≤ i.2.1) && decide (i.2.1 ≤ 108)))
  | .iaload => Nat.beq len 1
  | .laload => Nat.beq len 1
  | .baload => Nat.beq len 1
  | .iastore => Nat.beq len 1
  | .lastore => Nat.beq len 1
  | .bastore => Nat.beq len 1
  | .iadd => Nat.beq len 1
  | .isub => Nat.beq len 1
  | .imul => Nat.beq len 1
  | .iand => Nat.beq len 1
  | .ior => Nat.beq len 1
  | .ixor => Nat.beq len 1
  | .idiv => Nat.beq len 1
  | .irem => Nat.beq len 1
  | .ineg => Nat.beq len 1
  | .ishl => Nat.beq len 1
  | .ishr => Nat.beq len 1
  | .iushr => Nat.beq len 1
  | .ladd => Nat.beq len 1
  | .lsub => Nat.beq len 1
  | .lmul => Nat.beq len 1
  | .land => Nat.beq len 1
  | .lor => Nat.beq len 1
  | .lxor => Nat.beq len 1
  | .ldiv => Nat.beq len 1
  | .lrem => Nat.beq len 1
  | .lshl => Nat.beq len 1
  | .lushr => Nat.beq len 1
  | .lcmp => Nat.beq len 1
  | .i2l => Nat.beq len 1
  | .l2i => Nat.beq len 1
  | .dup => Nat.beq len 1
  | .dup2 => Nat.beq len 1
  | .pop => Nat.beq len 1
  | .ifCond _ off => Nat.beq len 3 && (decide ((pc : Int) + off = i.2.1) && decide (0 ≤ i.2.1))
  | .if_icmp _ off => Nat.beq len 3 && (decide ((pc : Int) + off = i.2.1) && decide (0 ≤ i.2.1))
  | .goto off => Nat.beq len 3 && (decide ((pc : Int) + off = i.2.1) && decide (0 ≤ i.2.1))
  | .tableswitch d lo hi offs => decide (i.2.1 = (pc : Int)) && (decide (0 ≤ (pc : Int) + d) && (offs.toList.all (fun o => decide (0 ≤ (pc : Int) + o)) && decide (hi - lo + 1 = (offs.toList.length : Int))))
  | .invokestatic idx => Nat.beq len 3 && (match i.2.1 with
    | .ofNat a => zMf (zOn mi) idx a (fun k => Nat.beq k 1 || Nat.beq k 3) && decide (i.2.2 = (zNp a : Int))
    | .negSucc 1 => zMf (zOn mi) idx 0 (fun k => Nat.beq k 6) && (decide (i.2.2 = 101) || decide (i.2.2 = 102))
    | .negSucc 2 => zMf (zOn mi) idx i.2.2 (fun k => Nat.beq k 7)
    | _ => false)
  | .invokevirtual idx => Nat.beq len 3 && (match i.2.1 with
    | .ofNat a => zMf (zOn mi) idx a (fun k => Nat.beq k 0) && decide (i.2.2 = (zNp a : Int) + 1)
    | _ => false)
  | .invokespecial idx => Nat.beq len 3 && (match i.2.1 with
    | .ofNat a => zMf (zOn mi) idx a (fun k => Nat.beq k 2 || Nat.beq k 4) && decide (i.2.2 = (zNp a : Int) + 1)
    | .negSucc 0 => zMf (zOn mi) idx 0 (fun k => Nat.beq k 5)
    | _ => false)
  | .new idx => Nat.beq len 3 && (match i.2.1 with
    | .ofNat a => zCf (zOn mi) idx a
    | _ => Nat.beq (zOn mi) 10 && ((decide (i.2.2 = 1 ∧ idx = 314) || (decide (i.2.2 = 2 ∧ idx = 324) || decide (i.2.2 = 3 ∧ idx = 335))) && zThr mi pc idx))
  | .newarray t => Nat.beq len 2 && (Nat.blt (zNt t) 3 && decide (i.2.1 = (zNt t : Int) + 101))
  | .anewarray idx => Nat.beq len 3 && (decide (104 ≤ i.2.1) && (decide (i.2.1 ≤ 107) && zCf (zOn mi) idx (zEl (i.2.1 - 101).toNat)))
  | .multianewarray idx dims => Nat.beq len 4 && (Nat.beq idx 19 && (Nat.beq dims 2 && Nat.beq (zOn mi) 8))
  | .ireturn => Nat.beq len 1 && ((decide (i.2.1 = 3) && decide (zRt mi = some .boolean)) || (decide (i.2.1 = 0) && decide (zRt mi = some .int)))
  | .lreturn => Nat.beq len 1 && decide (zRt mi = some .long)
  | .areturn => Nat.beq len 1 && (match zRt mi with
    | some (.object _) => true
    | some (.array _) => true
    | _ => false)
  | .return_ => Nat.beq len 1 && decide (zRt mi = none)
  | _ => false
def zOk (mi : Nat) : Nat → List AI → Bool
  | _, [] => true
  | pc, i :: is => match decode (zB mi) pc with
    | .ok (j, len) => decide (j = i.1) && (zLk mi pc len i && zOk mi (pc + len) is)
    | _ => false
theorem zOk_cons {mi pc : Nat} {i : AI} {is : List AI} (h : zOk mi pc (i :: is) = true) : ∃ len, decode (zB mi) pc = .ok (i.1, len) ∧ zLk mi pc len i = true ∧ zOk mi (pc + len) is = true := by
  unfold zOk at h
  split at h
  · rename_i j len hd
    simp only [Bool.and_eq_true, decide_eq_true_eq] at h
    obtain ⟨rfl, h1, h2⟩ := h
    exact ⟨len, hd, h1, h2⟩
  · cases h
def zOkM (mi : Nat) : Bool := (zPt mi).all (fun q => zOk mi q.1 q.2)
theorem zLook_or (l : List (Nat × List AI)) (t : Nat) : zLook l t = [] ∨ (t, zLook l t) ∈ l := by
  induction l with
  | nil => exact Or.inl rfl
  | cons q r ih =>
    unfold zLook
    by_cases h : q.1 = t
    · rw [show Nat.beq q.1 t = true from by rw [h]; exact Nat.beq_refl t]
      right
      subst h
      exact List.mem_cons_self
    · rw [show Nat.beq q.1 t = false from (by cases z : Nat.beq q.1 t with | false => rfl | true => exact absurd (Nat.eq_of_beq_eq_true z) h)]
      rcases ih with ih | ih
      · exact Or.inl ih
      · exact Or.inr (List.mem_cons_of_mem _ ih)
theorem zOkM_at {mi : Nat} (h : zOkM mi = true) (t : Nat) : zOk mi t (zP mi t) = true := by
  rcases zLook_or (zPt mi) t with q | q
  · show zOk mi t (zLook (zPt mi) t) = true
    rw [q]
    rfl
  · exact List.all_eq_true.mp h _ q
