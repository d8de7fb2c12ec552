/-! A ring between, scaled: its radical, and what multiplies that into itself. -/
/-- L is T times a ring: closed by sums and by a part F of the numbers; L L is in T L -/
def LAT {E : Type} [J : Lean.Grind.CommRing E] (F : E → Prop) (τ T : E) (L : E → Prop) : Prop := (∀ a b, L a → L b → L (a + b)) ∧ (∀ c a, F c → L a → L (c * a)) ∧ L T ∧ (∀ a b, L a → L b → ∃ g, L g ∧ a * b = T * g) ∧ (∀ a, L a → ∃ g, a = τ * g) ∧ (F τ ∧ F (-1)) ∧ (∀ a b, τ * a = τ * b → a = b) ∧ (∀ a b, T * a = T * b → a = b) ∧ (∀ c d, F c → F d → F (c * d))
def RAD {E : Type} [J : Lean.Grind.CommRing E] (τ T : E) (L : E → Prop) (e : E) : Prop := L e ∧ ∃ g, L g ∧ e ^ 4 = T ^ 3 * (τ * g)
/-- an element nilpotent by t has its fourth power t times something -/
def NIL4 {E : Type} [J : Lean.Grind.CommRing E] (τ T : E) (L : E → Prop) : Prop := ∀ e, L e → (∃ g, L g ∧ e ^ 7 = T ^ 6 * (τ * g)) → ∃ g, L g ∧ e ^ 4 = T ^ 3 * (τ * g)
def MUL {E : Type} [J : Lean.Grind.CommRing E] (τ T : E) (L : E → Prop) (e : E) : Prop := RAD τ T L e ∧ ∀ r, RAD τ T L r → ∃ g, RAD τ T L g ∧ e * r = T * (τ * g)
theorem LAT.tri {E : Type} [J : Lean.Grind.CommRing E] {F : E → Prop} {τ T : E} {L : E → Prop} (h : LAT F τ T L) {a b c : E} (la : L a) (lb : L b) (lc : L c) : ∃ g, L g ∧ a * b * c = T ^ 2 * g := by
  obtain ⟨x, lx, ex⟩ := h.2.2.2.1 a b la lb
  obtain ⟨g, lg, eg⟩ := h.2.2.2.1 x c lx lc
  refine ⟨g, lg, ?_⟩
  rw [ex, show T * x * c = T * (x * c) by grind, eg]
  grind
theorem LAT.four {E : Type} [J : Lean.Grind.CommRing E] {F : E → Prop} {τ T : E} {L : E → Prop} (h : LAT F τ T L) {a : E} (la : L a) : ∃ g, L g ∧ a ^ 4 = T ^ 3 * g := by
  obtain ⟨x, lx, ex⟩ := h.tri la la la
  obtain ⟨g, lg, eg⟩ := h.2.2.2.1 x a lx la
  refine ⟨g, lg, ?_⟩
  rw [show a ^ 4 = a * a * a * a by grind, ex, show T ^ 2 * x * a = T ^ 2 * (x * a) by grind, eg]
  grind
theorem LAT.neg {E : Type} [J : Lean.Grind.CommRing E] {F : E → Prop} {τ T : E} {L : E → Prop} (h : LAT F τ T L) {a : E} (la : L a) : L (- a) := by
  have := h.2.1 (-1) a h.2.2.2.2.2.1.2 la
  rw [show -1 * a = - a by grind] at this
  exact this
theorem LAT.n7 {E : Type} [J : Lean.Grind.CommRing E] {F : E → Prop} {τ T : E} {L : E → Prop} (h : LAT F τ T L) {a : E} (la : L a) : L (7 * a) := by
  have l2 := h.1 a a la la
  have l4 := h.1 _ _ l2 l2
  have l7 := h.1 _ _ (h.1 _ _ l4 l2) la
  rw [show a + a + (a + a) + (a + a) + a = 7 * a by grind] at l7
  exact l7
theorem LAT.n3 {E : Type} [J : Lean.Grind.CommRing E] {F : E → Prop} {τ T : E} {L : E → Prop} (h : LAT F τ T L) {a : E} (la : L a) : L (3 * a) := by
  have l3 := h.1 _ _ (h.1 a a la la) la
  rw [show a + a + a = 3 * a by grind] at l3
  exact l3
theorem LAT.n5 {E : Type} [J : Lean.Grind.CommRing E] {F : E → Prop} {τ T : E} {L : E → Prop} (h : LAT F τ T L) {a : E} (la : L a) : L (5 * a) := by
  have l2 := h.1 a a la la
  have l5 := h.1 _ _ (h.1 _ _ l2 l2) la
  rw [show a + a + (a + a) + a = 5 * a by grind] at l5
  exact l5
theorem LAT.canT {E : Type} [J : Lean.Grind.CommRing E] {F : E → Prop} {τ T : E} {L : E → Prop} (h : LAT F τ T L) {a b : E} : ∀ k : Nat, T ^ k * a = T ^ k * b → a = b
  | 0, e => by grind
  | k + 1, e => h.2.2.2.2.2.2.2.1 _ _ (LAT.canT h k (by rw [Lean.Grind.Semiring.pow_succ] at e; grind))
theorem RAD.add {E : Type} [J : Lean.Grind.CommRing E] {F : E → Prop} {τ T : E} {L : E → Prop} (h : LAT F τ T L) (n4 : NIL4 τ T L) {a b : E} (ra : RAD τ T L a) (rb : RAD τ T L b) : RAD τ T L (a + b) := by
  obtain ⟨la, g, lg, eg⟩ := ra
  obtain ⟨lb, k, lk, ek⟩ := rb
  refine ⟨h.1 a b la lb, n4 _ (h.1 a b la lb) ?_⟩
  obtain ⟨x0, m0, e0⟩ := h.tri la la la
  obtain ⟨x1, m1, e1⟩ := h.tri la la lb
  obtain ⟨x2, m2, e2⟩ := h.tri la lb lb
  obtain ⟨x3, m3, e3⟩ := h.tri lb lb lb
  have lX : L (x0 + 7 * x1 + 3 * (7 * x2) + 5 * (7 * x3)) := h.1 _ _ (h.1 _ _ (h.1 _ _ m0 (h.n7 m1)) (h.n3 (h.n7 m2))) (h.n5 (h.n7 m3))
  have lY : L (5 * (7 * x0) + 3 * (7 * x1) + 7 * x2 + x3) := h.1 _ _ (h.1 _ _ (h.1 _ _ (h.n5 (h.n7 m0)) (h.n3 (h.n7 m1))) (h.n7 m2)) m3
  obtain ⟨u, lu, eu⟩ := h.2.2.2.1 _ _ lg lX
  obtain ⟨v, lv, ev⟩ := h.2.2.2.1 _ _ lk lY
  refine ⟨u + v, h.1 _ _ lu lv, ?_⟩
  have s1 : (a + b) ^ 7 = a ^ 4 * (a * a * a + 7 * (a * a * b) + 3 * (7 * (a * b * b)) + 5 * (7 * (b * b * b))) + b ^ 4 * (5 * (7 * (a * a * a)) + 3 * (7 * (a * a * b)) + 7 * (a * b * b) + b * b * b) := by
    clear eg ek e0 e1 e2 e3 eu ev
    grind
  rw [s1, e0, e1, e2, e3, eg, ek]
  have s2 : T ^ 3 * (τ * g) * (T ^ 2 * x0 + 7 * (T ^ 2 * x1) + 3 * (7 * (T ^ 2 * x2)) + 5 * (7 * (T ^ 2 * x3))) + T ^ 3 * (τ * k) * (5 * (7 * (T ^ 2 * x0)) + 3 * (7 * (T ^ 2 * x1)) + 7 * (T ^ 2 * x2) + T ^ 2 * x3) = T ^ 5 * τ * (g * (x0 + 7 * x1 + 3 * (7 * x2) + 5 * (7 * x3))) + T ^ 5 * τ * (k * (5 * (7 * x0) + 3 * (7 * x1) + 7 * x2 + x3)) := by
    clear eg ek e0 e1 e2 e3 eu ev s1
    grind
  rw [s2, eu, ev]
  clear eg ek e0 e1 e2 e3 eu ev s1 s2
  grind
/-- the radical is an ideal -/
theorem RAD.mul {E : Type} [J : Lean.Grind.CommRing E] {F : E → Prop} {τ T : E} {L : E → Prop} (h : LAT F τ T L) {a b g : E} (ra : RAD τ T L a) (lb : L b) (lg : L g) (e : a * b = T * g) : RAD τ T L g := by
  obtain ⟨la, u, lu, eu⟩ := ra
  obtain ⟨v, lv, ev⟩ := h.four lb
  obtain ⟨m, lm, em⟩ := h.2.2.2.1 u v lu lv
  refine ⟨lg, m, lm, h.canT 4 ?_⟩
  have s : T ^ 4 * g ^ 4 = (T * g) ^ 4 := by grind
  rw [s, ← e, show (a * b) ^ 4 = a ^ 4 * b ^ 4 by clear e eu ev em s; grind, eu, ev, show T ^ 3 * (τ * u) * (T ^ 3 * v) = T ^ 6 * τ * (u * v) by clear e eu ev em s; grind, em]
  clear e eu ev em s
  grind
theorem RAD.sca {E : Type} [J : Lean.Grind.CommRing E] {F : E → Prop} {τ T : E} {L : E → Prop} (h : LAT F τ T L) {c a : E} (hc : F c) (ra : RAD τ T L a) : RAD τ T L (c * a) := by
  obtain ⟨la, u, lu, eu⟩ := ra
  refine ⟨h.2.1 c a hc la, c * (c * (c * (c * u))), h.2.1 _ _ hc (h.2.1 _ _ hc (h.2.1 _ _ hc (h.2.1 _ _ hc lu))), ?_⟩
  rw [show (c * a) ^ 4 = c ^ 4 * a ^ 4 by clear eu; grind, eu]
  clear eu
  grind
theorem RAD.tau {E : Type} [J : Lean.Grind.CommRing E] {F : E → Prop} {τ T : E} {L : E → Prop} (h : LAT F τ T L) {a : E} (la : L a) : RAD τ T L (τ * a) := by
  obtain ⟨u, lu, eu⟩ := h.four la
  have ft := h.2.2.2.2.2.1.1
  refine ⟨h.2.1 _ _ ft la, τ * (τ * (τ * u)), h.2.1 _ _ ft (h.2.1 _ _ ft (h.2.1 _ _ ft lu)), ?_⟩
  rw [show (τ * a) ^ 4 = τ ^ 4 * a ^ 4 by clear eu; grind, eu]
  clear eu
  grind
theorem MUL.add {E : Type} [J : Lean.Grind.CommRing E] {F : E → Prop} {τ T : E} {L : E → Prop} (h : LAT F τ T L) (n4 : NIL4 τ T L) {a b : E} (ha : MUL τ T L a) (hb : MUL τ T L b) : MUL τ T L (a + b) := by
  refine ⟨ha.1.add h n4 hb.1, fun r hr => ?_⟩
  obtain ⟨g, hg, eg⟩ := ha.2 r hr
  obtain ⟨k, hk, ek⟩ := hb.2 r hr
  refine ⟨g + k, hg.add h n4 hk, ?_⟩
  rw [show (a + b) * r = a * r + b * r by clear eg ek; grind, eg, ek]
  clear eg ek
  grind
theorem MUL.sca {E : Type} [J : Lean.Grind.CommRing E] {F : E → Prop} {τ T : E} {L : E → Prop} (h : LAT F τ T L) {c a : E} (hc : F c) (ha : MUL τ T L a) : MUL τ T L (c * a) := by
  refine ⟨ha.1.sca h hc, fun r hr => ?_⟩
  obtain ⟨g, hg, eg⟩ := ha.2 r hr
  refine ⟨c * g, hg.sca h hc, ?_⟩
  rw [show c * a * r = c * (a * r) by clear eg; grind, eg]
  clear eg
  grind
theorem MUL.tau {E : Type} [J : Lean.Grind.CommRing E] {F : E → Prop} {τ T : E} {L : E → Prop} (h : LAT F τ T L) {a : E} (la : L a) : MUL τ T L (τ * a) := by
  refine ⟨RAD.tau h la, fun r hr => ?_⟩
  obtain ⟨g, lg, eg⟩ := h.2.2.2.1 r a hr.1 la
  refine ⟨g, hr.mul h la lg eg, ?_⟩
  rw [show τ * a * r = τ * (r * a) by clear eg; grind, eg]
  clear eg
  grind
theorem MUL.mul {E : Type} [J : Lean.Grind.CommRing E] {F : E → Prop} {τ T : E} {L : E → Prop} (h : LAT F τ T L) {a b : E} (ha : MUL τ T L a) (hb : MUL τ T L b) : ∃ x, MUL τ T L x ∧ a * b = T * (τ * x) := by
  obtain ⟨x, hx, ex⟩ := ha.2 b hb.1
  refine ⟨x, ⟨hx, fun r hr => ?_⟩, ex⟩
  obtain ⟨g, hg, eg⟩ := hb.2 r hr
  obtain ⟨k, hk, ek⟩ := ha.2 g hg
  refine ⟨k, hk, h.2.2.2.2.2.2.2.1 _ _ (h.2.2.2.2.2.2.1 _ _ ?_)⟩
  rw [show τ * (T * (x * r)) = T * (τ * x) * r by clear ex eg ek; grind, ← ex, show a * b * r = a * (b * r) by clear ex eg ek; grind, eg, show a * (T * (τ * g)) = T * τ * (a * g) by clear ex eg ek; grind, ek]
  clear ex eg ek
  grind
/-- the next ring -/
theorem LAT.next {E : Type} [J : Lean.Grind.CommRing E] {F : E → Prop} {τ T : E} {L : E → Prop} (h : LAT F τ T L) (n4 : NIL4 τ T L) : (∀ a b, MUL τ T L (τ * a) → MUL τ T L (τ * b) → MUL τ T L (τ * (a + b))) ∧ (∀ c a, F c → MUL τ T L (τ * a) → MUL τ T L (τ * (c * a))) ∧ (∀ a, L a → MUL τ T L (τ * a)) ∧ ∀ a b, MUL τ T L (τ * a) → MUL τ T L (τ * b) → ∃ g, MUL τ T L (τ * g) ∧ a * b = T * g := by
  refine ⟨fun a b ha hb => ?_, fun c a hc ha => ?_, fun a la => MUL.tau h la, fun a b ha hb => ?_⟩
  · rw [show τ * (a + b) = τ * a + τ * b by grind]
    exact ha.add h n4 hb
  · rw [show τ * (c * a) = c * (τ * a) by grind]
    exact ha.sca h hc
  · obtain ⟨x, hx, ex⟩ := MUL.mul h ha hb
    obtain ⟨g, eg⟩ := h.2.2.2.2.1 x hx.1.1
    rw [eg] at hx ex
    refine ⟨g, hx, h.2.2.2.2.2.2.1 _ _ (h.2.2.2.2.2.2.1 _ _ ?_)⟩
    rw [show τ * (τ * (a * b)) = τ * a * (τ * b) by clear ex eg; grind, ex]
    clear ex eg
    grind
