/-! The judgement of the abstract machine: from here the method ends, with an answer and a heap of which Q holds: the least such judgement. -/
abbrev ZX : Type := Nat → Nat → List AI → Lc → List Vl → Hp → (Vl → Hp → Prop) → Prop
def zMono (X : ZX) : Prop := ∀ d m is ls st S (Q Q' : Vl → Hp → Prop), (∀ r S', Q r S' → Q' r S') → X d m is ls st S Q → X d m is ls st S Q'
def zSub (X : ZX) : Prop := ∀ d m is ls ks st S Q, X d m is (pk_ls ls ks) st S Q → X d m is ls st S Q
def zClo (X : ZX) : Prop := ∀ d m i is ls st S Q, stW (zI i ls st S) S (fun ls st S => X d m is ls st S Q) (fun t ls st S => X d m (zP m t) ls st S Q) (fun m' as S k => ∃ d', d = d' + 1 ∧ X d' m' (zP m' 0) (zEn m' as) [] S k) Q → X d m (i :: is) ls st S Q
def At : ZX := fun d m is ls st S Q => ∀ X : ZX, zMono X → zSub X → zClo X → X d m is ls st S Q
def Ev (d m : Nat) (as : List Vl) (S : Hp) (Q : Vl → Hp → Prop) : Prop := At d m (zP m 0) (zEn m as) [] S Q
theorem at_mono : zMono At := fun d m is ls st S Q Q' h H X h1 h2 h3 => h1 d m is ls st S Q Q' h (H X h1 h2 h3)
theorem at_sub : zSub At := fun d m is ls ks st S Q H X h1 h2 h3 => h2 d m is ls ks st S Q (H X h1 h2 h3)
theorem at_clo : zClo At := fun d m i is ls st S Q H X h1 h2 h3 => h3 d m i is ls st S Q (stW_mono (fun _ _ _ h => h X h1 h2 h3) (fun _ _ _ _ h => h X h1 h2 h3) (fun m' a S k k' hk h => by
  obtain ⟨d', e, h⟩ := h
  exact ⟨d', e, h1 _ _ _ _ _ _ _ _ hk (h X h1 h2 h3)⟩) (fun _ _ h => h) H)
theorem ev_mono {d m : Nat} {as : List Vl} {S : Hp} {Q Q' : Vl → Hp → Prop} (H : Ev d m as S Q) (h : ∀ r S', Q r S' → Q' r S') : Ev d m as S Q' := at_mono _ _ _ _ _ _ _ _ h H
theorem at_pick {d m : Nat} {is : List AI} {ls : Lc} {st : List Vl} {S : Hp} {Q : Vl → Hp → Prop} (ks : List Nat) (H : At d m is (pk_ls ls ks) st S Q) : At d m is ls st S Q := at_sub _ _ _ _ ks _ _ _ H
/-- some instructions at once, up to a jump -/
def sy (d m : Nat) (Q : Vl → Hp → Prop) : Nat → List AI → Lc → List Vl → Hp → Prop
  | 0, is, ls, st, S => At d m is ls st S Q
  | _ + 1, [], _, _, _ => False
  | k + 1, i :: is, ls, st, S => stW (zI i ls st S) S (fun ls st S => sy d m Q k is ls st S) (fun t ls st S => At d m (zP m t) ls st S Q) (fun m' as S k => ∃ d', d = d' + 1 ∧ Ev d' m' as S k) Q
theorem sy_at {d m : Nat} {Q : Vl → Hp → Prop} : ∀ (k : Nat) {is : List AI} {ls : Lc} {st : List Vl} {S : Hp}, sy d m Q k is ls st S → At d m is ls st S Q
  | 0, _, _, _, _, h => h
  | _ + 1, [], _, _, _, h => h.elim
  | k + 1, _ :: _, _, _, _, h => at_clo _ _ _ _ _ _ _ _ (stW_mono (fun _ _ _ h => sy_at k h) (fun _ _ _ _ h => h) (fun _ _ _ _ _ hk h => by
      obtain ⟨d', e, h⟩ := h
      exact ⟨d', e, ev_mono h hk⟩) (fun _ _ h => h) h)
/-- the same with the calls' depth told -/
def sz (d m : Nat) (Q : Vl → Hp → Prop) : Nat → List AI → Lc → List Vl → Hp → Prop
  | 0, is, ls, st, S => At (d + 1) m is ls st S Q
  | _ + 1, [], _, _, _ => False
  | k + 1, i :: is, ls, st, S => stW (zI i ls st S) S (fun ls st S => sz d m Q k is ls st S) (fun t ls st S => At (d + 1) m (zP m t) ls st S Q) (fun m' as S k => Ev d m' as S k) Q
theorem sz_at {d m : Nat} {Q : Vl → Hp → Prop} : ∀ (k : Nat) {is : List AI} {ls : Lc} {st : List Vl} {S : Hp}, sz d m Q k is ls st S → At (d + 1) m is ls st S Q
  | 0, _, _, _, _, h => h
  | _ + 1, [], _, _, _, h => h.elim
  | k + 1, _ :: _, _, _, _, h => at_clo _ _ _ _ _ _ _ _ (stW_mono (fun _ _ _ h => sz_at k h) (fun _ _ _ _ h => h) (fun _ _ _ _ _ hk h => ⟨d, rfl, ev_mono h hk⟩) (fun _ _ h => h) h)
theorem evI {d m : Nat} {as : List Vl} {S : Hp} {P : Int → Hp → Prop} {k : Vl → Hp → Prop} (H : Ev d m as S (fun r S' => ∃ x, r = (0, x) ∧ P x S')) (h : ∀ x S', P x S' → k (0, x) S') : Ev d m as S k := ev_mono H (by rintro r S' ⟨x, rfl, hx⟩; exact h x S' hx)
theorem evL {d m : Nat} {as : List Vl} {S : Hp} {P : Int → Hp → Prop} {k : Vl → Hp → Prop} (H : Ev d m as S (fun r S' => ∃ x, r = (1, x) ∧ P x S')) (h : ∀ x S', P x S' → k (1, x) S') : Ev d m as S k := ev_mono H (by rintro r S' ⟨x, rfl, hx⟩; exact h x S' hx)
theorem evA {d m : Nat} {as : List Vl} {S : Hp} {P : Int → Hp → Prop} {k : Vl → Hp → Prop} (H : Ev d m as S (fun r S' => ∃ x, r = (2, x) ∧ P x S')) (h : ∀ x S', P x S' → k (2, x) S') : Ev d m as S k := ev_mono H (by rintro r S' ⟨x, rfl, hx⟩; exact h x S' hx)
theorem evV {d m : Nat} {as : List Vl} {S : Hp} {P : Hp → Prop} {k : Vl → Hp → Prop} (H : Ev d m as S (fun r S' => r = (3, 0) ∧ P S')) (h : ∀ S', P S' → k (3, 0) S') : Ev d m as S k := ev_mono H (by rintro r S' ⟨rfl, hx⟩; exact h S' hx)
theorem evX {d m : Nat} {as : List Vl} {S : Hp} {P P' : Int → Hp → Prop} {k : Vl → Hp → Prop} (H : Ev d m as S (fun r S' => (∃ x, r = (1, x) ∧ P x S') ∨ (∃ x, r = (9, x) ∧ P' x S'))) (h : ∀ x S', P x S' → k (1, x) S') (h' : ∀ x S', P' x S' → k (9, x) S') : Ev d m as S k := ev_mono H (by
  rintro r S' (⟨x, rfl, hx⟩ | ⟨x, rfl, hx⟩)
  · exact h x S' hx
  · exact h' x S' hx)
