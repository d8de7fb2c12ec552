def zNm : List String := ["java/lang/RuntimeException", "java/lang/Exception"]
def zThL (idx ic : Nat) (E : String) : List Cond := Cond.classLink (zCn 10) idx E :: Cond.initialized E :: vx_atS (zCn 10) ic E zNm
/-- the words of a throw in the program's tables -/
def zThIn : Prop := ∀ (idx is ic : Nat) (cd : Int), (idx, is, ic) ∈ zThT → ((cd = 1 ∧ idx = 314) ∨ (cd = 2 ∧ idx = 324) ∨ (cd = 3 ∧ idx = 335)) → (∀ w ∈ (zThL idx ic (zXn cd)).filter goodWord, w ∈ gw) ∧ (∀ w ∈ (vx_atS (zCn 10) ic (zXn cd) zNm).filter (fun w => !goodWord w), w = .castable (zXn cd) (zXn cd) ∨ ∃ Y ∈ ["java/lang/RuntimeException", "java/lang/Exception", "java/lang/Throwable"], w = .declares (Bundle.initS Y)) ∧ (∀ w ∈ zThL idx ic (zXn cd), vx_ot w = true) ∧ goodWord (Cond.classLink (zCn 10) idx (zXn cd)) = true ∧ goodWord (Cond.initialized (zXn cd)) = true ∧ Bundle.fit (zXn cd) = true ∧ zXn cd ∈ zEx ∧ ∃ text, (is, text) ∈ zTx
set_option maxHeartbeats 4000000 in
set_option maxRecDepth 8000 in
/-- a method that may throw: its contract -/
theorem zMetX (hin : zThIn) {Γ : ZG} {l : Launch} {d m : Nat} {as : List Vl} {S : Hp} {k : Vl → Hp → Prop} (hfl : l.flags = flags0) (hm : m < 291) (hpl : plainName (zYn m).cls = true) (hS : Snd d m (zP m 0) (zEn m as) [] S k) (hsz : sct as ≤ zMx m) (has : ∀ v ∈ as, okV v) : vx_Met l (zYn m) (zWs m) (zRm d m) (zPc Γ as S) (zQc Γ k) (zXC Γ m k) (zBc m) (zBs m) (zA0 Γ) := by
  obtain ⟨f1, f2, f3, f4, f5, f6, f7, f8⟩ := zM_facts hm
  refine vx_ofW (cc := zB m) (maxL := zMx m) (ret := zRt m) hpl rfl ?_
  intro p e s m' args below meth c s₁ B hml htab hP
  obtain ⟨rfl, hR, hE, hX⟩ := hP
  have hts0 : ∀ w ∈ zWs m, w.before (as.map (cv Γ)).toArray s = true := atoms_spec (ws := zWs m) B.pre
  have hts : ∀ w ∈ gw, w.before (as.map (cv Γ)).toArray s = true := fun w h => hts0 w (List.mem_cons_of_mem _ h)
  have hown : s.vm.findClass (zCn (zOn m)) = some m'.cls := by rw [← f5]; exact findClass_of_methodNamed B.named
  have hC : zCx Γ p s m' (as.map (cv Γ)).toArray meth c m := ⟨B.exec, B.bytes, B.returns, hml, hown, hts, B.notSynchronized, (name_of_methodNamed B.named B.method).1, hE⟩
  rw [lg_entry_eq]
  refine hS Γ p l e (headSpec (zWs m) (zRm d m)).room s m' (as.map (cv Γ)).toArray below meth c (vx_MQ below (zQc Γ k) (zXC Γ m k) (as.map (cv Γ)).toArray s (zBc m) (zBs m) (zA0 Γ)) 0 (by omega) (zOkM_at (ok_all m (by omega)) 0) hC hX hfl (Nat.le_refl _) (Nat.le_refl _) ?_ s.heap [] 0 0 _ (zSd_entry (d := d) (by omega) hsz has hR)
  intro r S' i pc' st' ls' hq he hd H locs cells slots lsA h
  have hQ : ∀ (r : Vl), k r S' → okV r → zTag r → ∀ t : State, t.heap = H → zQc Γ k (as.map (cv Γ)).toArray s (.returned (zRv Γ r)) t := fun r h1 h2 h3 t ht => ⟨⟨r, S', h1, h2, h3, rfl, by rw [ht]; exact h.1⟩, h.2.1.F ht⟩
  rcases he with ⟨rfl, x, rfl, rfl, hrt⟩ | ⟨rfl, x, rfl, rfl, hrt⟩ | ⟨rfl, x, rfl, rfl, hrt⟩ | ⟨rfl, rfl, rfl, hrt⟩ | ⟨idx, cd, rfl, rfl, hon, hcd, hth, h8, cc, s9, rc, rs, k0, k1, k2, k3, g1, g2⟩
  · refine vx_ret (W.widen h.2.2.2.2.2.1 h.2.2.2.2.2.2.1 ?_)
    rcases hrt with hrt | ⟨hrt, h01⟩
    · exact W.iret hC.1 hC.2.1 (by rw [hC.2.2.1]; exact hrt) (fun t ht _ => hQ (0, x) hq (ok_hd h.ok) (Or.inl rfl) t ht) h.2.1.2.2 hd hC.2.2.2.2.2.2.1
    · exact W.zret hC.1 hC.2.1 (by rw [hC.2.2.1]; exact hrt) (by rcases h01 with rfl | rfl <;> rfl) (fun t ht _ => hQ (0, x) hq (ok_hd h.ok) (Or.inl rfl) t ht) h.2.1.2.2 hd hC.2.2.2.2.2.2.1
  · refine vx_ret (W.widen h.2.2.2.2.2.1 h.2.2.2.2.2.2.1 ?_)
    exact W.lret hC.1 hC.2.1 (by rw [hC.2.2.1]; exact hrt) (fun t ht _ => hQ (1, x) hq (ok_hd h.ok) (Or.inr (Or.inl rfl)) t ht) h.2.1.2.2 hd hC.2.2.2.2.2.2.1
  · refine vx_ret (W.widen h.2.2.2.2.2.1 h.2.2.2.2.2.2.1 ?_)
    have hv := cv_ref Γ x
    rcases hrt with ⟨n, hrt⟩ | ⟨n, hrt⟩
    · exact W.aret hC.1 hC.2.1 (by rw [hC.2.2.1]; exact hrt) (Or.inl ⟨n, rfl⟩) hv (fun t ht _ => hQ (2, x) hq (ok_hd h.ok) (Or.inr (Or.inr (Or.inl rfl))) t ht) h.2.1.2.2 hd hC.2.2.2.2.2.2.1
    · exact W.aret hC.1 hC.2.1 (by rw [hC.2.2.1]; exact hrt) (Or.inr ⟨n, rfl⟩) hv (fun t ht _ => hQ (2, x) hq (ok_hd h.ok) (Or.inr (Or.inr (Or.inl rfl))) t ht) h.2.1.2.2 hd hC.2.2.2.2.2.2.1
  · refine vx_ret (W.widen h.2.2.2.2.2.1 h.2.2.2.2.2.2.1 ?_)
    exact W.vret hC.1 hC.2.1 (by rw [hC.2.2.1]; exact hrt) (fun t ht _ => hQ (3, 0) hq ⟨fun q => (by cases q), fun q => (by cases q)⟩ (Or.inr (Or.inr (Or.inr rfl))) t ht) h.2.1.2.2 hd hC.2.2.2.2.2.2.1
  · obtain ⟨is, ic, d3, d4, d7, d10, hmem⟩ := zThr_get hth
    obtain ⟨w1, w2, w3, w4, w5, w6, w7, text, w8⟩ := hin idx is ic cd hmem hcd
    obtain ⟨r1, r2, -⟩ := h.2.2.2.2.2.made (c0 := 1) (n0 := 6) k0 k1 k2 k3 g1 g2
    obtain ⟨sa, hsa⟩ := hX.2.2.1 (is, text) w8
    rw [hon] at hown
    have hL : ∀ w ∈ vx_atS (zCn 10) ic (zXn cd) zNm, w.before (as.map (cv Γ)).toArray s = true := vx_hat (B := (vx_atS (zCn 10) ic (zXn cd) zNm).filter (fun w => !goodWord w)) (fun w hw => hts w (w1 w (List.mem_filter.mpr ⟨List.mem_cons_of_mem _ (List.mem_cons_of_mem _ (List.mem_filter.mp hw).1), (List.mem_filter.mp hw).2⟩))) (fun w hw => hw) (fun w hw => by
      rcases w2 w hw with rfl | ⟨Y, hY, rfl⟩
      · exact va_Nw.use rfl (hX.2.2.2.2.1 _ w7)
      · exact va_Nw.use rfl (hX.2.2.2.1 Y hY))
    refine vx_throwSW (own := zCn 10) (cls := zXn cd) (text := text) (names := zNm) (ik := idx) (is := is) (ic := ic) (sa := sa) (A := zA0 Γ) hC.1 hC.2.1 (noTr hfl) hown w6 (by decide +kernel) (hts _ (w1 _ (List.mem_filter.mpr ⟨List.mem_cons_self, w4⟩))) (hts _ (w1 _ (List.mem_filter.mpr ⟨List.mem_cons_of_mem _ List.mem_cons_self, w5⟩))) hsa hL w3 hX.1 hX.2.1 h.2.1 (by rw [hml]; exact h.2.2.1.1) hd d3 d4 d7 d10 (fun x hx => (htab x hx).elim) (by show 2 + 3 < 2 * d + 20; omega) ?_ r1 r2 hC.2.2.2.2.2.2.1 (fun t hal hz ho => ?_) h.2.1.2.2 r1 r2
    · rw [sct_sum]
      show sct st' + (13 * (2 + 1) + 43) ≤ 128 * (d + 20)
      omega
    · exact ⟨cd, S', hq, ⟨idx, pc', hcd, hd⟩, rfl, h.1.grown hE.2.2.2.2.2.2.1 hz ho (by have := h.2.1.1; have := hE.2.2.2.2.2.2.2.2; omega), by have := h.2.1.1; omega, fun q hq hn => by rw [ho q (by have := h.2.1.1; omega)]; exact h.2.1.2.1 q hq hn⟩
