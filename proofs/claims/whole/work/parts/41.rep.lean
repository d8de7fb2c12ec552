/-! Numbers of the abstract machine and the machine's own. -/
theorem t32 {x : Int} (h : in32 x) : (Int32.ofInt x).toInt = x := Int32.toInt_ofInt_of_le h.1 h.2
theorem t64 {x : Int} (h : in64 x) : (Int64.ofInt x).toInt = x := Int64.toInt_ofInt_of_le h.1 h.2
theorem bm_in32 (x : Int) : in32 (Int.bmod x 4294967296) := ⟨by have := Int.le_bmod (x := x) (m := 4294967296) (by decide); omega, by have := Int.bmod_lt (x := x) (m := 4294967296) (by decide); omega⟩
theorem bm_in64 (x : Int) : in64 (Int.bmod x 18446744073709551616) := ⟨by have := Int.le_bmod (x := x) (m := 18446744073709551616) (by decide); omega, by have := Int.bmod_lt (x := x) (m := 18446744073709551616) (by decide); omega⟩
theorem w32_in (x : Int) : in32 (w32 x) := bm_in32 x
theorem w64_in (x : Int) : in64 (w64 x) := bm_in64 x
theorem i32_in (x : Int32) : in32 x.toInt := ⟨by have := x.le_toInt; omega, by have := x.toInt_lt; omega⟩
theorem i64_in (x : Int64) : in64 x.toInt := ⟨by have := x.le_toInt; omega, by have := x.toInt_lt; omega⟩
theorem o32w (x : Int) : Int32.ofInt (w32 x) = Int32.ofInt x := Int32.toInt_inj.mp (by
  rw [t32 (w32_in x), Int32.toInt_ofInt]
  rfl)
theorem o64w (x : Int) : Int64.ofInt (w64 x) = Int64.ofInt x := Int64.toInt_inj.mp (by
  rw [t64 (w64_in x), Int64.toInt_ofInt]
  rfl)
theorem o32_inj {x y : Int} (hx : in32 x) (hy : in32 y) : Int32.ofInt x = Int32.ofInt y ↔ x = y := ⟨fun h => by rw [← t32 hx, ← t32 hy, h], fun h => by rw [h]⟩
theorem o64_inj {x y : Int} (hx : in64 x) (hy : in64 y) : Int64.ofInt x = Int64.ofInt y ↔ x = y := ⟨fun h => by rw [← t64 hx, ← t64 hy, h], fun h => by rw [h]⟩
theorem o32_lt {x y : Int} (hx : in32 x) (hy : in32 y) : Int32.ofInt x < Int32.ofInt y ↔ x < y := by rw [Int32.lt_iff_toInt_lt, t32 hx, t32 hy]
theorem o32_le {x y : Int} (hx : in32 x) (hy : in32 y) : Int32.ofInt x ≤ Int32.ofInt y ↔ x ≤ y := by rw [Int32.le_iff_toInt_le, t32 hx, t32 hy]
theorem o64_lt {x y : Int} (hx : in64 x) (hy : in64 y) : Int64.ofInt x < Int64.ofInt y ↔ x < y := by rw [Int64.lt_iff_toInt_lt, t64 hx, t64 hy]
theorem in32_0 : in32 0 := ⟨by decide, by decide⟩
theorem o32_0 : Int32.ofInt 0 = 0 := by decide
theorem o32_div {x y : Int} (hx : in32 x) (hy : in32 y) : Int32.ofInt x / Int32.ofInt y = Int32.ofInt (w32 (x.tdiv y)) := Int32.toInt_inj.mp (by
  rw [t32 (w32_in _), Int32.toInt_div, t32 hx, t32 hy]
  rfl)
theorem o64_div {x y : Int} (hx : in64 x) (hy : in64 y) : Int64.ofInt x / Int64.ofInt y = Int64.ofInt (w64 (x.tdiv y)) := Int64.toInt_inj.mp (by
  rw [t64 (w64_in _), Int64.toInt_div, t64 hx, t64 hy]
  rfl)
theorem tmod_abs (x y : Int) (hy : ¬ y = 0) : (x.tmod y).natAbs < y.natAbs := by
  rw [Int.natAbs_tmod]
  exact Nat.mod_lt _ (by omega)
theorem tmod_in32 {x y : Int} (hy : in32 y) (h0 : ¬ y = 0) : in32 (x.tmod y) := by
  have h := tmod_abs x y h0
  obtain ⟨h1, h2⟩ := hy
  exact ⟨by omega, by omega⟩
theorem tmod_in64 {x y : Int} (hy : in64 y) (h0 : ¬ y = 0) : in64 (x.tmod y) := by
  have h := tmod_abs x y h0
  obtain ⟨h1, h2⟩ := hy
  exact ⟨by omega, by omega⟩
theorem o32_rem {x y : Int} (hx : in32 x) (hy : in32 y) : Int32.ofInt x - Int32.ofInt x / Int32.ofInt y * Int32.ofInt y = Int32.ofInt (x.tmod y) := by
  rw [o32_div hx hy, o32w, ← Int32.ofInt_mul, ← Int32.ofInt_sub]
  congr 1
  have := Int.mul_tdiv_add_tmod x y
  rw [Int.mul_comm]
  omega
theorem o64_rem {x y : Int} (hx : in64 x) (hy : in64 y) : Int64.ofInt x - Int64.ofInt x / Int64.ofInt y * Int64.ofInt y = Int64.ofInt (x.tmod y) := by
  rw [o64_div hx hy, o64w, ← Int64.ofInt_mul, ← Int64.ofInt_sub]
  congr 1
  have := Int.mul_tdiv_add_tmod x y
  rw [Int.mul_comm]
  omega
theorem o32_ne0 {y : Int} (hy : in32 y) (h : ¬ y = 0) : ¬ Int32.ofInt y = 0 := fun q => h ((o32_inj hy in32_0).mp (by rw [q, o32_0]))
theorem o64_ne0 {y : Int} (hy : in64 y) (h : ¬ y = 0) : ¬ Int64.ofInt y = 0 := fun q => h ((o64_inj hy ⟨by decide, by decide⟩).mp (by rw [q]; rfl))
theorem in32_64 {x : Int} (h : in32 x) : in64 x := ⟨by have := h.1; omega, by have := h.2; omega⟩
theorem o32_64 {x : Int} (h : in32 x) : (Int32.ofInt x).toInt64 = Int64.ofInt x := Int64.toInt_inj.mp (by rw [Int32.toInt_toInt64, t32 h, t64 (in32_64 h)])
theorem o64_32 {x : Int} (h : in64 x) : (Int64.ofInt x).toInt32 = Int32.ofInt (w32 x) := by
  rw [o32w, ← Int32.ofInt_int64ToInt, t64 h]
theorem o_cmp {x y : Int} (hx : in64 x) (hy : in64 y) : lg_cmp (Int64.ofInt x) (Int64.ofInt y) = Int32.ofInt (lCmp x y) := by
  unfold lg_cmp lCmp
  simp only [o64_lt hy hx, o64_inj hx hy]
  by_cases h1 : y < x
  · rw [if_pos h1, if_neg (by omega), if_neg (by omega)]
    rfl
  · rw [if_neg h1]
    by_cases h2 : x = y
    · rw [if_pos h2, if_neg (by omega), if_pos h2]
      rfl
    · rw [if_neg h2, if_pos (by omega)]
      rfl
theorem cmp_in (x y : Int) : in32 (lCmp x y) := by
  unfold lCmp in32
  split
  · decide
  · split <;> decide
theorem o32_clamp {j : Int} (h : in32 j) : (Int32.ofInt j).toNatClampNeg = j.toNat := by
  show (Int32.ofInt j).toInt.toNat = _
  rw [t32 h]
theorem o32_in {j : Int} {n : Nat} (h : in32 j) (h0 : 0 ≤ j) (h1 : j < n) : ¬ (Int32.ofInt j < 0 ∨ n ≤ (Int32.ofInt j).toNatClampNeg) := by
  rw [o32_clamp h, show (0 : Int32) = Int32.ofInt 0 from rfl, o32_lt h in32_0]
  omega
theorem o32_nat {n : Nat} : Int32.ofNat n = Int32.ofInt (n : Int) := Int32.ofInt_eq_ofNat.symm
/-! The heap of the machine that an abstract heap tells. -/
abbrev ZG : Type := (Nat × Nat × Nat) × va_G × (Nat → ClassId) × Cell × Cell
def zAd (Γ : ZG) (a : Int) : Nat := if a = -1 then Γ.1.2.2 else if a = -2 then Γ.1.2.1 else Γ.1.1 + (a - 1).toNat
def cv (Γ : ZG) (v : Vl) : Value := match v.1 with
  | 0 => .int (Int32.ofInt v.2)
  | 1 => .long (Int64.ofInt v.2)
  | _ => va_rf (if v.2 = 0 then none else some (zAd Γ v.2))
def zTy (k : Nat) : FieldType := match k with
  | 0 => .int
  | 1 => .long
  | 2 => .boolean
  | 3 => .object RX3
  | 4 => .object RX6
  | 5 => .object RX9
  | 6 => .object RX7
  | _ => .array .int
def zTys (Γ : ZG) : List (ClassId × FieldType) := (List.range 8).map (fun k => (Γ.2.2.1 k, zTy k))
def zCl : List vw_C := (List.range 12).map (fun c => (zCn c, zTf c, zNf c))
theorem zTys_at (Γ : ZG) {k : Nat} (h : k < 8) : (zTys Γ)[k]? = some (Γ.2.2.1 k, zTy k) := by
  simp [zTys, h]
theorem zCl_at {c : Nat} (h : c < 12) : zCl[c]? = some (zCn c, zTf c, zNf c) := by
  simp [zCl, h]
/-- what a place holds: 0 int, 1 long, 2 reference, 3 boolean -/
def zPl (K j : Int) : Nat := if K < 100 then zF (K - 1) j else if K = 101 then 0 else if K = 102 then 1 else if K = 103 then 3 else 2
def zV (Γ : ZG) (S : Hp) (k : Int) (j : Nat) : Value := cv Γ (tg (zPl (zK S k) j), zG S k j)
def zCell (Γ : ZG) (S : Hp) (k : Int) (H : Heap) : Prop :=
  (zK S k < 100 → t_OB (zAd Γ k) (Γ.2.1.1 (zK S k - 1).toNat) (zNf (zK S k - 1).toNat) (Γ.2.1.2 (zK S k - 1).toNat) H (zV Γ S k)) ∧
  (100 ≤ zK S k → H[zAd Γ k]? = some (arrV (Γ.2.2.1 (zK S k - 101).toNat) (zL S k).toNat (zV Γ S k)))
def okP (t : Nat) (x : Int) : Prop := ((t = 0 ∨ t = 3) → in32 x) ∧ (t = 1 → in64 x)
def zFine (S : Hp) : Prop := 1 ≤ zN S ∧ (∀ a, ¬ zK S a = 0 → 1 ≤ a ∧ a < zN S ∧ ((1 ≤ zK S a ∧ zK S a ≤ 12) ∨ (101 ≤ zK S a ∧ zK S a ≤ 108))) ∧ (∀ a, ¬ zK S a = 0 → 0 ≤ zL S a ∧ zL S a ≤ 100000) ∧ ∀ a j, ¬ zK S a = 0 → 0 ≤ j → okP (zPl (zK S a) j) (zG S a j)
def zScr (Γ : ZG) (S : Hp) : Prop := zL S (-2) = Γ.2.2.2.1.slots.size ∧ zL S (-2) < 2147483648 ∧ ∀ j : Int, 0 ≤ j → j < zL S (-2) → Γ.2.2.2.1.slots[j.toNat]? = some (.int (Int32.ofInt (zG S (-2) j))) ∧ in32 (zG S (-2) j)
def zRep (Γ : ZG) (S : Hp) (H : Heap) : Prop :=
  zFine S ∧ (∀ k, ¬ zK S k = 0 → zCell Γ S k H) ∧ Γ.1.1 + (zN S - 1).toNat ≤ H.size ∧ (zT S = 1 → H.size = Γ.1.1 + (zN S - 1).toNat) ∧ zScr Γ S ∧ H[Γ.1.2.1]? = some Γ.2.2.2.1 ∧ H[Γ.1.2.2]? = some Γ.2.2.2.2
def zA0 (Γ : ZG) : Nat → Prop := fun q => Γ.1.1 ≤ q
/-- the two rows that were there before lie below -/
def zLow (Γ : ZG) : Prop := Γ.1.2.1 < Γ.1.1 ∧ Γ.1.2.2 < Γ.1.1
theorem zAd_pos (Γ : ZG) {a : Int} (h : 1 ≤ a) : zAd Γ a = Γ.1.1 + (a - 1).toNat := by
  unfold zAd
  rw [if_neg (by omega), if_neg (by omega)]
theorem zAd_ne (Γ : ZG) {a b : Int} (ha : 1 ≤ a) (hb : 1 ≤ b) (h : a ≠ b) : zAd Γ a ≠ zAd Γ b := by
  rw [zAd_pos Γ ha, zAd_pos Γ hb]
  omega
theorem zA0_ad (Γ : ZG) {a : Int} (h : 1 ≤ a) : zA0 Γ (zAd Γ a) := by
  rw [zAd_pos Γ h]
  show Γ.1.1 ≤ _
  omega
theorem zCell.kept {Γ : ZG} {S S' : Hp} {k : Int} {H H' : Heap} (h : zCell Γ S k H) (hK : zK S' k = zK S k) (hL : zL S' k = zL S k) (hG : ∀ j : Nat, zG S' k j = zG S k j) (hH : H'[zAd Γ k]? = H[zAd Γ k]?) : zCell Γ S' k H' := by
  have hV : zV Γ S' k = zV Γ S k := by
    funext j
    unfold zV
    rw [hK, hG]
  refine ⟨fun q => ?_, fun q => ?_⟩
  · rw [hK] at q ⊢
    rw [hV]
    exact (h.1 q).kept hH
  · rw [hK] at q ⊢
    rw [hV, hL, hH]
    exact h.2 q
/-- a place was written -/
theorem zRep.put {Γ : ZG} {S : Hp} {H H' : Heap} {a i v : Int} (h : zRep Γ S H) (hl : zLow Γ) (ha : ¬ zK S a = 0) (hv : okP (zPl (zK S a) i) v) (hc : zCell Γ (zS S a i v) a H') (hz : H'.size = H.size) (ho : ∀ q, q ≠ zAd Γ a → H'[q]? = H[q]?) : zRep Γ (zS S a i v) H' := by
  obtain ⟨⟨f0, f1, f2, f3⟩, h1, h2, h3, h4, h5, h6⟩ := h
  have hp := f1 a ha
  have had : Γ.1.1 ≤ zAd Γ a := by rw [zAd_pos Γ hp.1]; omega
  refine ⟨⟨f0, f1, f2, fun b j hb hj => ?_⟩, fun k hk => ?_, by rw [hz]; exact h2, fun q => by rw [hz]; exact h3 q, ?_, ?_, ?_⟩
  · show okP (zPl (zK S b) j) (if b = a ∧ j = i then v else zG S b j)
    split
    · rename_i e
      obtain ⟨rfl, rfl⟩ := e
      exact hv
    · exact f3 b j hb hj
  · by_cases e : k = a
    · subst e
      exact hc
    · refine (h1 k hk).kept rfl rfl (fun j => ?_) (ho _ (zAd_ne Γ (f1 k hk).1 hp.1 e))
      show (if k = a ∧ (j : Int) = i then v else zG S k j) = zG S k j
      rw [if_neg (fun q => e q.1)]
  · obtain ⟨g1, g2, g3⟩ := h4
    refine ⟨g1, g2, fun j j0 j1 => ?_⟩
    have e : zG (zS S a i v) (-2) j = zG S (-2) j := by
      show (if (-2 : Int) = a ∧ j = i then v else zG S (-2) j) = _
      rw [if_neg (fun q => by omega)]
    rw [e]
    exact g3 j j0 j1
  · rw [ho _ (by have := hl.1; omega)]
    exact h5
  · rw [ho _ (by have := hl.2; omega)]
    exact h6
theorem zV_put (Γ : ZG) (S : Hp) (a i v : Int) (h0 : 0 ≤ i) (j : Nat) : zV Γ (zS S a i v) a j = updV (zV Γ S a) i.toNat (cv Γ (tg (zPl (zK S a) i), v)) j := by
  unfold updV
  by_cases e : j = i.toNat
  · rw [if_pos e]
    have e2 : (j : Int) = i := by omega
    show cv Γ (tg (zPl (zK S a) (j : Int)), (if a = a ∧ (j : Int) = i then v else zG S a j)) = _
    rw [if_pos ⟨rfl, e2⟩, e2]
  · rw [if_neg e]
    show cv Γ (tg (zPl (zK S a) (j : Int)), (if a = a ∧ (j : Int) = i then v else zG S a j)) = cv Γ (tg (zPl (zK S a) (j : Int)), zG S a j)
    rw [if_neg (fun q => e (by omega))]
theorem zCell_arr {Γ : ZG} {S : Hp} {a i v : Int} {H' : Heap} (hK : 100 ≤ zK S a) (h0 : 0 ≤ i) (hc : H'[zAd Γ a]? = some ((arrV (Γ.2.2.1 (zK S a - 101).toNat) (zL S a).toNat (zV Γ S a)).setSlot i.toNat (cv Γ (tg (zPl (zK S a) i), v)))) : zCell Γ (zS S a i v) a H' := by
  refine ⟨fun q => ?_, fun _ => ?_⟩
  · have q' : zK S a < 100 := q
    omega
  · rw [hc, arrV_store]
    congr 2
    funext j
    exact (zV_put Γ S a i v h0 j).symm
