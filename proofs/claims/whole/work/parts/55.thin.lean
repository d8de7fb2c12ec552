/-! The words of the throws, by their places in the tables (by program, wip/whole/thgen.py). -/
def zPlc : List Cond → List Nat → Bool
  | [], _ => true
  | _ :: _, [] => false
  | w :: r, k :: ks => (zCode w || (!(goodWord w) || zIg w k)) && zPlc r ks
theorem zPlc_mem : ∀ (l : List Cond) (ks : List Nat), zPlc l ks = true → ∀ w ∈ l, goodWord w = true → w ∈ gw ∨ w ∈ l.filter zCode
  | [], _, _, w, h, _ => by cases h
  | _ :: _, [], h, _, _, _ => by cases h
  | w :: r, k :: ks, h, v, hv, hg => by
    unfold zPlc at h
    simp only [Bool.and_eq_true, Bool.or_eq_true, Bool.not_eq_true'] at h
    by_cases hc : zCode v = true
    · exact Or.inr (List.mem_filter.mpr ⟨hv, hc⟩)
    · rcases List.mem_cons.mp hv with rfl | hv
      · rcases h.1 with h1 | h1 | h1
        · exact absurd h1 hc
        · rw [h1] at hg
          cases hg
        · exact Or.inl (zIg_mem h1)
      · rcases zPlc_mem r ks h.2 v hv hg with z | z
        · exact Or.inl z
        · exact absurd (List.mem_filter.mp z).2 hc
theorem zTc0 : Cond.codeSync Bundle.tFill LibCode.Throwable.Fill.code 1 (some (.object Bundle.tN)) ∈ gw := List.mem_filter.mpr ⟨mt5 (List.mem_of_getElem? (i := 173) rfl), rfl⟩
theorem zTc1 : Cond.code Bundle.tInit0 LibCode.Throwable.Init0.code 1 none ∈ gw := List.mem_filter.mpr ⟨mt5 (List.mem_of_getElem? (i := 213) rfl), rfl⟩
theorem zTc2 : Cond.code Bundle.oInit ⟨#[0xb1]⟩ 1 none ∈ gw := List.mem_filter.mpr ⟨mt1 (List.mem_of_getElem? (i := 30) rfl), rfl⟩
theorem zTc3 : Cond.code (Bundle.initS Bundle.tN) LibCode.Throwable.InitS.code 2 none ∈ gw := List.mem_filter.mpr ⟨mt5 (List.mem_of_getElem? (i := 161) rfl), rfl⟩
theorem zTc4 : Cond.code (Bundle.initS "java/lang/RuntimeException") Bundle.six 2 none ∈ gw := List.mem_filter.mpr ⟨mt5 (List.mem_of_getElem? (i := 155) rfl), rfl⟩
theorem zTc5 : Cond.code (Bundle.initS "java/lang/Exception") Bundle.six 2 none ∈ gw := List.mem_filter.mpr ⟨mt5 (List.mem_of_getElem? (i := 158) rfl), rfl⟩
theorem zTc6 : Cond.code (Bundle.initS "java/lang/IllegalArgumentException") Bundle.six 2 none ∈ gw := List.mem_filter.mpr ⟨mt5 (List.mem_of_getElem? (i := 236) rfl), rfl⟩
theorem zTc7 : Cond.code (Bundle.initS "java/lang/IllegalStateException") Bundle.six 2 none ∈ gw := List.mem_filter.mpr ⟨mt6 (List.mem_of_getElem? (i := 12) rfl), rfl⟩
theorem zTc8 : Cond.code (Bundle.initS "java/lang/ArithmeticException") Bundle.six 2 none ∈ gw := List.mem_filter.mpr ⟨mt5 (List.mem_of_getElem? (i := 152) rfl), rfl⟩
set_option maxRecDepth 100000 in
theorem zTp1 : zPlc (zThL 314 318 "java/lang/IllegalArgumentException") [1291, 128, 123, 1278, 1235, 9999, 1243, 1245, 1279, 9999, 136, 9999, 1229, 1234, 1241, 1248, 1272, 1249, 1273, 1250, 1274, 1230, 1232, 1275, 1227, 9999, 1247, 1275, 1302, 9999, 1304, 1221, 1266, 1221, 9999, 1223, 1224, 1268, 1224, 9999, 1226, 1227, 1270, 1301, 1292, 1293, 1294, 1238, 1295, 1296, 1297, 1298, 1246, 1276, 1299] = true := by decide +kernel
set_option maxRecDepth 100000 in
theorem zTk1 : (zThL 314 318 "java/lang/IllegalArgumentException").filter zCode = [Cond.codeSync Bundle.tFill LibCode.Throwable.Fill.code 1 (some (.object Bundle.tN)), Cond.code Bundle.tInit0 LibCode.Throwable.Init0.code 1 none, Cond.code Bundle.oInit ⟨#[0xb1]⟩ 1 none, Cond.code (Bundle.initS Bundle.tN) LibCode.Throwable.InitS.code 2 none, Cond.code (Bundle.initS "java/lang/IllegalArgumentException") Bundle.six 2 none, Cond.code (Bundle.initS "java/lang/RuntimeException") Bundle.six 2 none, Cond.code (Bundle.initS "java/lang/Exception") Bundle.six 2 none] := rfl
theorem zTi1 : ∀ w ∈ (zThL 314 318 "java/lang/IllegalArgumentException").filter goodWord, w ∈ gw := fun w hw => (zPlc_mem _ _ zTp1 w (List.mem_filter.mp hw).1 (List.mem_filter.mp hw).2).elim id (fun z => by
  rw [zTk1] at z
  simp only [List.mem_cons, List.not_mem_nil, or_false] at z
  rcases z with rfl | rfl | rfl | rfl | rfl | rfl | rfl
  · exact zTc0
  · exact zTc1
  · exact zTc2
  · exact zTc3
  · exact zTc6
  · exact zTc4
  · exact zTc5)
set_option maxRecDepth 100000 in
theorem zTp2 : zPlc (zThL 324 328 "java/lang/IllegalStateException") [1307, 129, 123, 1278, 1235, 9999, 1243, 1245, 1279, 9999, 136, 9999, 1229, 1234, 1241, 1248, 1272, 1249, 1273, 1250, 1274, 1230, 1232, 1275, 1227, 9999, 1247, 1275, 1318, 9999, 1320, 1221, 1266, 1221, 9999, 1223, 1224, 1268, 1224, 9999, 1226, 1227, 1270, 1317, 1308, 1309, 1310, 1239, 1311, 1312, 1313, 1314, 1246, 1276, 1315] = true := by decide +kernel
set_option maxRecDepth 100000 in
theorem zTk2 : (zThL 324 328 "java/lang/IllegalStateException").filter zCode = [Cond.codeSync Bundle.tFill LibCode.Throwable.Fill.code 1 (some (.object Bundle.tN)), Cond.code Bundle.tInit0 LibCode.Throwable.Init0.code 1 none, Cond.code Bundle.oInit ⟨#[0xb1]⟩ 1 none, Cond.code (Bundle.initS Bundle.tN) LibCode.Throwable.InitS.code 2 none, Cond.code (Bundle.initS "java/lang/IllegalStateException") Bundle.six 2 none, Cond.code (Bundle.initS "java/lang/RuntimeException") Bundle.six 2 none, Cond.code (Bundle.initS "java/lang/Exception") Bundle.six 2 none] := rfl
theorem zTi2 : ∀ w ∈ (zThL 324 328 "java/lang/IllegalStateException").filter goodWord, w ∈ gw := fun w hw => (zPlc_mem _ _ zTp2 w (List.mem_filter.mp hw).1 (List.mem_filter.mp hw).2).elim id (fun z => by
  rw [zTk2] at z
  simp only [List.mem_cons, List.not_mem_nil, or_false] at z
  rcases z with rfl | rfl | rfl | rfl | rfl | rfl | rfl
  · exact zTc0
  · exact zTc1
  · exact zTc2
  · exact zTc3
  · exact zTc7
  · exact zTc4
  · exact zTc5)
set_option maxRecDepth 100000 in
theorem zTp3 : zPlc (zThL 335 339 "java/lang/ArithmeticException") [1328, 126, 123, 1278, 1235, 9999, 1243, 1245, 1279, 9999, 136, 9999, 1229, 1234, 1241, 1248, 1272, 1249, 1273, 1250, 1274, 1230, 1232, 1275, 1227, 9999, 1247, 1275, 1218, 9999, 1220, 1221, 1266, 1221, 9999, 1223, 1224, 1268, 1224, 9999, 1226, 1227, 1270, 1330, 1217, 1264, 1271, 1237, 1255, 1257, 1261, 1253, 1246, 1276, 1251] = true := by decide +kernel
set_option maxRecDepth 100000 in
theorem zTk3 : (zThL 335 339 "java/lang/ArithmeticException").filter zCode = [Cond.codeSync Bundle.tFill LibCode.Throwable.Fill.code 1 (some (.object Bundle.tN)), Cond.code Bundle.tInit0 LibCode.Throwable.Init0.code 1 none, Cond.code Bundle.oInit ⟨#[0xb1]⟩ 1 none, Cond.code (Bundle.initS Bundle.tN) LibCode.Throwable.InitS.code 2 none, Cond.code (Bundle.initS "java/lang/ArithmeticException") Bundle.six 2 none, Cond.code (Bundle.initS "java/lang/RuntimeException") Bundle.six 2 none, Cond.code (Bundle.initS "java/lang/Exception") Bundle.six 2 none] := rfl
theorem zTi3 : ∀ w ∈ (zThL 335 339 "java/lang/ArithmeticException").filter goodWord, w ∈ gw := fun w hw => (zPlc_mem _ _ zTp3 w (List.mem_filter.mp hw).1 (List.mem_filter.mp hw).2).elim id (fun z => by
  rw [zTk3] at z
  simp only [List.mem_cons, List.not_mem_nil, or_false] at z
  rcases z with rfl | rfl | rfl | rfl | rfl | rfl | rfl
  · exact zTc0
  · exact zTc1
  · exact zTc2
  · exact zTc3
  · exact zTc8
  · exact zTc4
  · exact zTc5)
def zTq (X : String) (w : Cond) : Bool := decide (w = .castable X X) || ["java/lang/RuntimeException", "java/lang/Exception", "java/lang/Throwable"].any (fun Y => decide (w = .declares (Bundle.initS Y)))
theorem zTq_spec {X : String} {w : Cond} (h : zTq X w = true) : w = .castable X X ∨ ∃ Y ∈ ["java/lang/RuntimeException", "java/lang/Exception", "java/lang/Throwable"], w = .declares (Bundle.initS Y) := by
  unfold zTq at h
  simp only [Bool.or_eq_true, decide_eq_true_eq] at h
  rcases h with h | h
  · exact Or.inl h
  · obtain ⟨Y, hY, h⟩ := List.any_eq_true.mp h
    exact Or.inr ⟨Y, hY, of_decide_eq_true h⟩
set_option maxRecDepth 100000 in
theorem zTr1 : ((vx_atS (zCn 10) 318 "java/lang/IllegalArgumentException" zNm).filter (fun w => !goodWord w)).all (zTq "java/lang/IllegalArgumentException") = true := by decide +kernel
set_option maxRecDepth 100000 in
theorem zTo1 : (zThL 314 318 "java/lang/IllegalArgumentException").all vx_ot = true := by decide +kernel
set_option maxRecDepth 100000 in
theorem zTr2 : ((vx_atS (zCn 10) 328 "java/lang/IllegalStateException" zNm).filter (fun w => !goodWord w)).all (zTq "java/lang/IllegalStateException") = true := by decide +kernel
set_option maxRecDepth 100000 in
theorem zTo2 : (zThL 324 328 "java/lang/IllegalStateException").all vx_ot = true := by decide +kernel
set_option maxRecDepth 100000 in
theorem zTr3 : ((vx_atS (zCn 10) 339 "java/lang/ArithmeticException" zNm).filter (fun w => !goodWord w)).all (zTq "java/lang/ArithmeticException") = true := by decide +kernel
set_option maxRecDepth 100000 in
theorem zTo3 : (zThL 335 339 "java/lang/ArithmeticException").all vx_ot = true := by decide +kernel
theorem zThIn_ok : zThIn := by
  intro idx is ic cd hm hcd
  simp only [zThT, List.mem_cons, List.not_mem_nil, or_false, Prod.mk.injEq] at hm
  rcases hm with ⟨rfl, rfl, rfl⟩ | ⟨rfl, rfl, rfl⟩ | ⟨rfl, rfl, rfl⟩ | ⟨rfl, rfl, rfl⟩
  · obtain rfl : cd = 1 := by omega
    rw [show zXn 1 = "java/lang/IllegalArgumentException" from rfl]
    exact ⟨zTi1, fun w hw => zTq_spec (List.all_eq_true.mp zTr1 w hw), fun w hw => List.all_eq_true.mp zTo1 w hw, rfl, rfl, by decide +kernel, by decide, "no such shelf", by decide⟩
  · obtain rfl : cd = 2 := by omega
    rw [show zXn 2 = "java/lang/IllegalStateException" from rfl]
    exact ⟨zTi2, fun w hw => zTq_spec (List.all_eq_true.mp zTr2 w hw), fun w hw => List.all_eq_true.mp zTo2 w hw, rfl, rfl, by decide +kernel, by decide, "no element on the shelf", by decide⟩
  · obtain rfl : cd = 3 := by omega
    rw [show zXn 3 = "java/lang/ArithmeticException" from rfl]
    exact ⟨zTi3, fun w hw => zTq_spec (List.all_eq_true.mp zTr3 w hw), fun w hw => List.all_eq_true.mp zTo3 w hw, rfl, rfl, by decide +kernel, by decide, "no long", by decide⟩
  · obtain rfl : cd = 2 := by omega
    rw [show zXn 2 = "java/lang/IllegalStateException" from rfl]
    exact ⟨zTi2, fun w hw => zTq_spec (List.all_eq_true.mp zTr2 w hw), fun w hw => List.all_eq_true.mp zTo2 w hw, rfl, rfl, by decide +kernel, by decide, "no such number of a row", by decide⟩
