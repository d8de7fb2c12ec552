/-! Each method: its code, its links (by program, wip/whole/okgen.py). -/
def zOkN (mi : Nat) : Nat → Nat → List AI → Nat → Bool
  | 0, pc, _, fin => Nat.beq pc fin
  | _ + 1, _, [], _ => false
  | n + 1, pc, i :: is, fin => match decode (zB mi) pc with
    | .ok (j, len) => decide (j = i.1) && (zLk mi pc len i && zOkN mi n (pc + len) is fin)
    | _ => false
theorem zOkN_app {mi : Nat} : ∀ {n pc fin : Nat} {l : List AI}, zOkN mi n pc l fin = true → zOk mi fin (l.drop n) = true → zOk mi pc l = true
  | 0, pc, fin, l, h, k => by
    have e : pc = fin := Nat.eq_of_beq_eq_true h
    subst e
    exact k
  | n + 1, pc, fin, [], h, k => rfl
  | n + 1, pc, fin, i :: is, h, k => by
    unfold zOkN at h
    unfold zOk
    split at h
    · rename_i j len hd
      rw [hd]
      simp only [Bool.and_eq_true] at h ⊢
      exact ⟨h.1, h.2.1, zOkN_app h.2.2 k⟩
    · cases h
theorem allc {mi : Nat} {q : Nat × List AI} {r : List (Nat × List AI)} (h : zOk mi q.1 q.2 = true) (hr : r.all (fun q => zOk mi q.1 q.2) = true) : (q :: r).all (fun q => zOk mi q.1 q.2) = true := by
  rw [List.all_cons, h, hr]
  rfl
theorem alln {mi : Nat} : ([] : List (Nat × List AI)).all (fun q => zOk mi q.1 q.2) = true := rfl
set_option maxRecDepth 100000
theorem k0_120 : zOk 0 120 c0_120 = true := by decide +kernel
theorem k0_115 : zOk 0 115 c0_115 = true := zOkN_app (n := 3) (fin := 120) (by decide +kernel) k0_120
theorem k0_110 : zOk 0 110 c0_110 = true := zOkN_app (n := 3) (fin := 115) (by decide +kernel) k0_115
theorem k0_107 : zOk 0 107 c0_107 = true := zOkN_app (n := 1) (fin := 110) (by decide +kernel) k0_110
theorem k0_103 : zOk 0 103 c0_103 = true := zOkN_app (n := 3) (fin := 107) (by decide +kernel) k0_107
theorem k0_100 : zOk 0 100 c0_100 = true := zOkN_app (n := 1) (fin := 103) (by decide +kernel) k0_103
theorem k0_96 : zOk 0 96 c0_96 = true := zOkN_app (n := 3) (fin := 100) (by decide +kernel) k0_100
theorem k0_93 : zOk 0 93 c0_93 = true := zOkN_app (n := 1) (fin := 96) (by decide +kernel) k0_96
theorem k0_88 : zOk 0 88 c0_88 = true := zOkN_app (n := 3) (fin := 93) (by decide +kernel) k0_93
theorem k0_85 : zOk 0 85 c0_85 = true := zOkN_app (n := 1) (fin := 88) (by decide +kernel) k0_88
theorem k0_80 : zOk 0 80 c0_80 = true := zOkN_app (n := 3) (fin := 85) (by decide +kernel) k0_85
theorem k0_77 : zOk 0 77 c0_77 = true := zOkN_app (n := 1) (fin := 80) (by decide +kernel) k0_80
theorem k0_73 : zOk 0 73 c0_73 = true := zOkN_app (n := 3) (fin := 77) (by decide +kernel) k0_77
theorem k0_70 : zOk 0 70 c0_70 = true := zOkN_app (n := 1) (fin := 73) (by decide +kernel) k0_73
theorem k0_66 : zOk 0 66 c0_66 = true := zOkN_app (n := 3) (fin := 70) (by decide +kernel) k0_70
theorem k0_63 : zOk 0 63 c0_63 = true := zOkN_app (n := 1) (fin := 66) (by decide +kernel) k0_66
theorem k0_59 : zOk 0 59 c0_59 = true := zOkN_app (n := 3) (fin := 63) (by decide +kernel) k0_63
theorem k0_56 : zOk 0 56 c0_56 = true := zOkN_app (n := 1) (fin := 59) (by decide +kernel) k0_59
theorem k0_51 : zOk 0 51 c0_51 = true := zOkN_app (n := 3) (fin := 56) (by decide +kernel) k0_56
theorem k0_48 : zOk 0 48 c0_48 = true := zOkN_app (n := 1) (fin := 51) (by decide +kernel) k0_51
theorem k0_44 : zOk 0 44 c0_44 = true := zOkN_app (n := 3) (fin := 48) (by decide +kernel) k0_48
theorem k0_41 : zOk 0 41 c0_41 = true := zOkN_app (n := 1) (fin := 44) (by decide +kernel) k0_44
theorem k0_36 : zOk 0 36 c0_36 = true := zOkN_app (n := 3) (fin := 41) (by decide +kernel) k0_41
theorem k0_33 : zOk 0 33 c0_33 = true := zOkN_app (n := 1) (fin := 36) (by decide +kernel) k0_36
theorem k0_28 : zOk 0 28 c0_28 = true := zOkN_app (n := 3) (fin := 33) (by decide +kernel) k0_33
theorem k0_25 : zOk 0 25 c0_25 = true := zOkN_app (n := 1) (fin := 28) (by decide +kernel) k0_28
theorem k0_20 : zOk 0 20 c0_20 = true := zOkN_app (n := 3) (fin := 25) (by decide +kernel) k0_25
theorem k0_17 : zOk 0 17 c0_17 = true := zOkN_app (n := 1) (fin := 20) (by decide +kernel) k0_20
theorem k0_12 : zOk 0 12 c0_12 = true := zOkN_app (n := 3) (fin := 17) (by decide +kernel) k0_17
theorem k0_9 : zOk 0 9 c0_9 = true := zOkN_app (n := 1) (fin := 12) (by decide +kernel) k0_12
theorem k0_0 : zOk 0 0 c0_0 = true := zOkN_app (n := 5) (fin := 9) (by decide +kernel) k0_9
theorem ok0 : zOkM 0 = true := (allc (q := (0, c0_0)) k0_0 (alln) : b0.all (fun q => zOk 0 q.1 q.2) = true)
theorem k1_0 : zOk 1 0 c1_0 = true := by decide +kernel
theorem ok1 : zOkM 1 = true := (allc (q := (0, c1_0)) k1_0 (alln) : b1.all (fun q => zOk 1 q.1 q.2) = true)
theorem k2_29 : zOk 2 29 c2_29 = true := by decide +kernel
theorem k2_20 : zOk 2 20 c2_20 = true := zOkN_app (n := 7) (fin := 29) (by decide +kernel) k2_29
theorem k2_12 : zOk 2 12 c2_12 = true := zOkN_app (n := 4) (fin := 20) (by decide +kernel) k2_20
theorem k2_10 : zOk 2 10 c2_10 = true := zOkN_app (n := 2) (fin := 12) (by decide +kernel) k2_12
theorem k2_2 : zOk 2 2 c2_2 = true := zOkN_app (n := 4) (fin := 10) (by decide +kernel) k2_10
theorem k2_0 : zOk 2 0 c2_0 = true := zOkN_app (n := 2) (fin := 2) (by decide +kernel) k2_2
theorem k2_34 : zOk 2 34 c2_34 = true := by decide +kernel
theorem k2_33 : zOk 2 33 c2_33 = true := zOkN_app (n := 1) (fin := 34) (by decide +kernel) k2_34
theorem k2_44 : zOk 2 44 c2_44 = true := by decide +kernel
theorem k2_50 : zOk 2 50 c2_50 = true := by decide +kernel
theorem ok2 : zOkM 2 = true := (allc (q := (0, c2_0)) k2_0 (allc (q := (2, c2_2)) k2_2 (allc (q := (12, c2_12)) k2_12 (allc (q := (33, c2_33)) k2_33 (allc (q := (34, c2_34)) k2_34 (allc (q := (44, c2_44)) k2_44 (allc (q := (50, c2_50)) k2_50 (alln))))))) : b2.all (fun q => zOk 2 q.1 q.2) = true)
theorem k3_64 : zOk 3 64 c3_64 = true := by decide +kernel
theorem k3_48 : zOk 3 48 c3_48 = true := zOkN_app (n := 13) (fin := 64) (by decide +kernel) k3_64
theorem k3_32 : zOk 3 32 c3_32 = true := zOkN_app (n := 13) (fin := 48) (by decide +kernel) k3_48
theorem k3_16 : zOk 3 16 c3_16 = true := zOkN_app (n := 13) (fin := 32) (by decide +kernel) k3_32
theorem k3_0 : zOk 3 0 c3_0 = true := zOkN_app (n := 13) (fin := 16) (by decide +kernel) k3_16
theorem ok3 : zOkM 3 = true := (allc (q := (0, c3_0)) k3_0 (alln) : b3.all (fun q => zOk 3 q.1 q.2) = true)
theorem k4_30 : zOk 4 30 c4_30 = true := by decide +kernel
theorem k4_20 : zOk 4 20 c4_20 = true := zOkN_app (n := 6) (fin := 30) (by decide +kernel) k4_30
theorem k4_12 : zOk 4 12 c4_12 = true := zOkN_app (n := 4) (fin := 20) (by decide +kernel) k4_20
theorem k4_10 : zOk 4 10 c4_10 = true := zOkN_app (n := 2) (fin := 12) (by decide +kernel) k4_12
theorem k4_2 : zOk 4 2 c4_2 = true := zOkN_app (n := 4) (fin := 10) (by decide +kernel) k4_10
theorem k4_0 : zOk 4 0 c4_0 = true := zOkN_app (n := 2) (fin := 2) (by decide +kernel) k4_2
theorem k4_35 : zOk 4 35 c4_35 = true := by decide +kernel
theorem k4_34 : zOk 4 34 c4_34 = true := zOkN_app (n := 1) (fin := 35) (by decide +kernel) k4_35
theorem k4_52 : zOk 4 52 c4_52 = true := by decide +kernel
theorem k4_44 : zOk 4 44 c4_44 = true := zOkN_app (n := 4) (fin := 52) (by decide +kernel) k4_52
theorem k4_42 : zOk 4 42 c4_42 = true := zOkN_app (n := 2) (fin := 44) (by decide +kernel) k4_44
theorem k4_73 : zOk 4 73 c4_73 = true := by decide +kernel
theorem k4_65 : zOk 4 65 c4_65 = true := zOkN_app (n := 4) (fin := 73) (by decide +kernel) k4_73
theorem k4_63 : zOk 4 63 c4_63 = true := zOkN_app (n := 2) (fin := 65) (by decide +kernel) k4_65
theorem k4_95 : zOk 4 95 c4_95 = true := by decide +kernel
theorem k4_101 : zOk 4 101 c4_101 = true := by decide +kernel
theorem ok4 : zOkM 4 = true := (allc (q := (0, c4_0)) k4_0 (allc (q := (2, c4_2)) k4_2 (allc (q := (12, c4_12)) k4_12 (allc (q := (34, c4_34)) k4_34 (allc (q := (35, c4_35)) k4_35 (allc (q := (42, c4_42)) k4_42 (allc (q := (44, c4_44)) k4_44 (allc (q := (63, c4_63)) k4_63 (allc (q := (65, c4_65)) k4_65 (allc (q := (95, c4_95)) k4_95 (allc (q := (101, c4_101)) k4_101 (alln))))))))))) : b4.all (fun q => zOk 4 q.1 q.2) = true)
theorem k5_24 : zOk 5 24 c5_24 = true := by decide +kernel
theorem k5_15 : zOk 5 15 c5_15 = true := zOkN_app (n := 4) (fin := 24) (by decide +kernel) k5_24
theorem k5_10 : zOk 5 10 c5_10 = true := zOkN_app (n := 4) (fin := 15) (by decide +kernel) k5_15
theorem k5_2 : zOk 5 2 c5_2 = true := zOkN_app (n := 4) (fin := 10) (by decide +kernel) k5_10
theorem k5_0 : zOk 5 0 c5_0 = true := zOkN_app (n := 2) (fin := 2) (by decide +kernel) k5_2
theorem k5_56 : zOk 5 56 c5_56 = true := by decide +kernel
theorem k5_74 : zOk 5 74 c5_74 = true := by decide +kernel
theorem ok5 : zOkM 5 = true := (allc (q := (0, c5_0)) k5_0 (allc (q := (2, c5_2)) k5_2 (allc (q := (15, c5_15)) k5_15 (allc (q := (56, c5_56)) k5_56 (allc (q := (74, c5_74)) k5_74 (alln))))) : b5.all (fun q => zOk 5 q.1 q.2) = true)
theorem k6_84 : zOk 6 84 c6_84 = true := by decide +kernel
theorem k6_79 : zOk 6 79 c6_79 = true := zOkN_app (n := 3) (fin := 84) (by decide +kernel) k6_84
theorem k6_53 : zOk 6 53 c6_53 = true := zOkN_app (n := 15) (fin := 79) (by decide +kernel) k6_79
theorem k6_26 : zOk 6 26 c6_26 = true := zOkN_app (n := 14) (fin := 53) (by decide +kernel) k6_53
theorem k6_0 : zOk 6 0 c6_0 = true := zOkN_app (n := 13) (fin := 26) (by decide +kernel) k6_26
theorem k6_102 : zOk 6 102 c6_102 = true := by decide +kernel
theorem ok6 : zOkM 6 = true := (allc (q := (0, c6_0)) k6_0 (allc (q := (53, c6_53)) k6_53 (allc (q := (79, c6_79)) k6_79 (allc (q := (102, c6_102)) k6_102 (alln)))) : b6.all (fun q => zOk 6 q.1 q.2) = true)
theorem k7_0 : zOk 7 0 c7_0 = true := by decide +kernel
theorem ok7 : zOkM 7 = true := (allc (q := (0, c7_0)) k7_0 (alln) : b7.all (fun q => zOk 7 q.1 q.2) = true)
theorem k8_44 : zOk 8 44 c8_44 = true := by decide +kernel
theorem k8_20 : zOk 8 20 c8_20 = true := zOkN_app (n := 18) (fin := 44) (by decide +kernel) k8_44
theorem k8_12 : zOk 8 12 c8_12 = true := zOkN_app (n := 4) (fin := 20) (by decide +kernel) k8_20
theorem k8_10 : zOk 8 10 c8_10 = true := zOkN_app (n := 2) (fin := 12) (by decide +kernel) k8_12
theorem k8_2 : zOk 8 2 c8_2 = true := zOkN_app (n := 4) (fin := 10) (by decide +kernel) k8_10
theorem k8_0 : zOk 8 0 c8_0 = true := zOkN_app (n := 2) (fin := 2) (by decide +kernel) k8_2
theorem k8_54 : zOk 8 54 c8_54 = true := by decide +kernel
theorem k8_53 : zOk 8 53 c8_53 = true := zOkN_app (n := 1) (fin := 54) (by decide +kernel) k8_54
theorem k8_62 : zOk 8 62 c8_62 = true := by decide +kernel
theorem k8_68 : zOk 8 68 c8_68 = true := by decide +kernel
theorem ok8 : zOkM 8 = true := (allc (q := (0, c8_0)) k8_0 (allc (q := (2, c8_2)) k8_2 (allc (q := (12, c8_12)) k8_12 (allc (q := (53, c8_53)) k8_53 (allc (q := (54, c8_54)) k8_54 (allc (q := (62, c8_62)) k8_62 (allc (q := (68, c8_68)) k8_68 (alln))))))) : b8.all (fun q => zOk 8 q.1 q.2) = true)
theorem k9_37 : zOk 9 37 c9_37 = true := by decide +kernel
theorem k9_28 : zOk 9 28 c9_28 = true := zOkN_app (n := 4) (fin := 37) (by decide +kernel) k9_37
theorem k9_22 : zOk 9 22 c9_22 = true := zOkN_app (n := 4) (fin := 28) (by decide +kernel) k9_28
theorem k9_13 : zOk 9 13 c9_13 = true := zOkN_app (n := 4) (fin := 22) (by decide +kernel) k9_22
theorem k9_10 : zOk 9 10 c9_10 = true := zOkN_app (n := 2) (fin := 13) (by decide +kernel) k9_13
theorem k9_2 : zOk 9 2 c9_2 = true := zOkN_app (n := 4) (fin := 10) (by decide +kernel) k9_10
theorem k9_0 : zOk 9 0 c9_0 = true := zOkN_app (n := 2) (fin := 2) (by decide +kernel) k9_2
theorem k9_66 : zOk 9 66 c9_66 = true := by decide +kernel
theorem k9_90 : zOk 9 90 c9_90 = true := by decide +kernel
theorem k9_96 : zOk 9 96 c9_96 = true := by decide +kernel
theorem ok9 : zOkM 9 = true := (allc (q := (0, c9_0)) k9_0 (allc (q := (2, c9_2)) k9_2 (allc (q := (13, c9_13)) k9_13 (allc (q := (28, c9_28)) k9_28 (allc (q := (66, c9_66)) k9_66 (allc (q := (90, c9_90)) k9_90 (allc (q := (96, c9_96)) k9_96 (alln))))))) : b9.all (fun q => zOk 9 q.1 q.2) = true)
theorem k10_53 : zOk 10 53 c10_53 = true := by decide +kernel
theorem k10_45 : zOk 10 45 c10_45 = true := zOkN_app (n := 4) (fin := 53) (by decide +kernel) k10_53
theorem k10_0 : zOk 10 0 c10_0 = true := zOkN_app (n := 26) (fin := 45) (by decide +kernel) k10_45
theorem k10_86 : zOk 10 86 c10_86 = true := by decide +kernel
theorem ok10 : zOkM 10 = true := (allc (q := (0, c10_0)) k10_0 (allc (q := (45, c10_45)) k10_45 (allc (q := (86, c10_86)) k10_86 (alln))) : b10.all (fun q => zOk 10 q.1 q.2) = true)
theorem k11_60 : zOk 11 60 c11_60 = true := by decide +kernel
theorem k11_56 : zOk 11 56 c11_56 = true := zOkN_app (n := 2) (fin := 60) (by decide +kernel) k11_60
theorem k11_47 : zOk 11 47 c11_47 = true := zOkN_app (n := 4) (fin := 56) (by decide +kernel) k11_56
theorem k11_44 : zOk 11 44 c11_44 = true := zOkN_app (n := 2) (fin := 47) (by decide +kernel) k11_47
theorem k11_35 : zOk 11 35 c11_35 = true := zOkN_app (n := 4) (fin := 44) (by decide +kernel) k11_44
theorem k11_0 : zOk 11 0 c11_0 = true := zOkN_app (n := 23) (fin := 35) (by decide +kernel) k11_35
theorem k11_98 : zOk 11 98 c11_98 = true := by decide +kernel
theorem k11_78 : zOk 11 78 c11_78 = true := zOkN_app (n := 11) (fin := 98) (by decide +kernel) k11_98
theorem k11_64 : zOk 11 64 c11_64 = true := zOkN_app (n := 10) (fin := 78) (by decide +kernel) k11_78
theorem k11_108 : zOk 11 108 c11_108 = true := by decide +kernel
theorem k11_106 : zOk 11 106 c11_106 = true := zOkN_app (n := 1) (fin := 108) (by decide +kernel) k11_108
theorem k11_120 : zOk 11 120 c11_120 = true := by decide +kernel
theorem k11_126 : zOk 11 126 c11_126 = true := by decide +kernel
theorem ok11 : zOkM 11 = true := (allc (q := (0, c11_0)) k11_0 (allc (q := (35, c11_35)) k11_35 (allc (q := (47, c11_47)) k11_47 (allc (q := (64, c11_64)) k11_64 (allc (q := (78, c11_78)) k11_78 (allc (q := (106, c11_106)) k11_106 (allc (q := (108, c11_108)) k11_108 (allc (q := (120, c11_120)) k11_120 (allc (q := (126, c11_126)) k11_126 (alln))))))))) : b11.all (fun q => zOk 11 q.1 q.2) = true)
theorem k12_31 : zOk 12 31 c12_31 = true := by decide +kernel
theorem k12_12 : zOk 12 12 c12_12 = true := zOkN_app (n := 11) (fin := 31) (by decide +kernel) k12_31
theorem k12_4 : zOk 12 4 c12_4 = true := zOkN_app (n := 4) (fin := 12) (by decide +kernel) k12_12
theorem k12_0 : zOk 12 0 c12_0 = true := zOkN_app (n := 4) (fin := 4) (by decide +kernel) k12_4
theorem k12_61 : zOk 12 61 c12_61 = true := by decide +kernel
theorem k12_42 : zOk 12 42 c12_42 = true := zOkN_app (n := 12) (fin := 61) (by decide +kernel) k12_61
theorem k12_36 : zOk 12 36 c12_36 = true := zOkN_app (n := 3) (fin := 42) (by decide +kernel) k12_42
theorem k12_35 : zOk 12 35 c12_35 = true := zOkN_app (n := 1) (fin := 36) (by decide +kernel) k12_36
theorem k12_99 : zOk 12 99 c12_99 = true := by decide +kernel
theorem k12_89 : zOk 12 89 c12_89 = true := zOkN_app (n := 5) (fin := 99) (by decide +kernel) k12_99
theorem k12_80 : zOk 12 80 c12_80 = true := zOkN_app (n := 4) (fin := 89) (by decide +kernel) k12_89
theorem k12_77 : zOk 12 77 c12_77 = true := zOkN_app (n := 2) (fin := 80) (by decide +kernel) k12_80
theorem k12_69 : zOk 12 69 c12_69 = true := zOkN_app (n := 4) (fin := 77) (by decide +kernel) k12_77
theorem k12_67 : zOk 12 67 c12_67 = true := zOkN_app (n := 2) (fin := 69) (by decide +kernel) k12_69
theorem k12_147 : zOk 12 147 c12_147 = true := by decide +kernel
theorem k12_129 : zOk 12 129 c12_129 = true := zOkN_app (n := 11) (fin := 147) (by decide +kernel) k12_147
theorem k12_103 : zOk 12 103 c12_103 = true := zOkN_app (n := 17) (fin := 129) (by decide +kernel) k12_129
theorem k12_153 : zOk 12 153 c12_153 = true := by decide +kernel
theorem k12_151 : zOk 12 151 c12_151 = true := zOkN_app (n := 1) (fin := 153) (by decide +kernel) k12_153
theorem k12_160 : zOk 12 160 c12_160 = true := by decide +kernel
theorem k12_166 : zOk 12 166 c12_166 = true := by decide +kernel
theorem ok12 : zOkM 12 = true := (allc (q := (0, c12_0)) k12_0 (allc (q := (4, c12_4)) k12_4 (allc (q := (35, c12_35)) k12_35 (allc (q := (36, c12_36)) k12_36 (allc (q := (61, c12_61)) k12_61 (allc (q := (67, c12_67)) k12_67 (allc (q := (69, c12_69)) k12_69 (allc (q := (80, c12_80)) k12_80 (allc (q := (103, c12_103)) k12_103 (allc (q := (129, c12_129)) k12_129 (allc (q := (151, c12_151)) k12_151 (allc (q := (153, c12_153)) k12_153 (allc (q := (160, c12_160)) k12_160 (allc (q := (166, c12_166)) k12_166 (alln)))))))))))))) : b12.all (fun q => zOk 12 q.1 q.2) = true)
theorem k13_28 : zOk 13 28 c13_28 = true := by decide +kernel
theorem k13_9 : zOk 13 9 c13_9 = true := zOkN_app (n := 12) (fin := 28) (by decide +kernel) k13_28
theorem k13_3 : zOk 13 3 c13_3 = true := zOkN_app (n := 3) (fin := 9) (by decide +kernel) k13_9
theorem k13_0 : zOk 13 0 c13_0 = true := zOkN_app (n := 2) (fin := 3) (by decide +kernel) k13_3
theorem k13_31 : zOk 13 31 c13_31 = true := by decide +kernel
theorem k13_37 : zOk 13 37 c13_37 = true := by decide +kernel
theorem ok13 : zOkM 13 = true := (allc (q := (0, c13_0)) k13_0 (allc (q := (3, c13_3)) k13_3 (allc (q := (31, c13_31)) k13_31 (allc (q := (37, c13_37)) k13_37 (alln)))) : b13.all (fun q => zOk 13 q.1 q.2) = true)
theorem k14_98 : zOk 14 98 c14_98 = true := by decide +kernel
theorem k14_85 : zOk 14 85 c14_85 = true := zOkN_app (n := 9) (fin := 98) (by decide +kernel) k14_98
theorem k14_37 : zOk 14 37 c14_37 = true := zOkN_app (n := 33) (fin := 85) (by decide +kernel) k14_85
theorem k14_28 : zOk 14 28 c14_28 = true := zOkN_app (n := 4) (fin := 37) (by decide +kernel) k14_37
theorem k14_0 : zOk 14 0 c14_0 = true := zOkN_app (n := 17) (fin := 28) (by decide +kernel) k14_28
theorem k14_155 : zOk 14 155 c14_155 = true := by decide +kernel
theorem k14_146 : zOk 14 146 c14_146 = true := zOkN_app (n := 4) (fin := 155) (by decide +kernel) k14_155
theorem k14_141 : zOk 14 141 c14_141 = true := zOkN_app (n := 2) (fin := 146) (by decide +kernel) k14_146
theorem k14_135 : zOk 14 135 c14_135 = true := zOkN_app (n := 3) (fin := 141) (by decide +kernel) k14_141
theorem k14_113 : zOk 14 113 c14_113 = true := zOkN_app (n := 14) (fin := 135) (by decide +kernel) k14_135
theorem k14_107 : zOk 14 107 c14_107 = true := zOkN_app (n := 3) (fin := 113) (by decide +kernel) k14_113
theorem k14_104 : zOk 14 104 c14_104 = true := zOkN_app (n := 2) (fin := 107) (by decide +kernel) k14_107
theorem k14_214 : zOk 14 214 c14_214 = true := by decide +kernel
theorem k14_220 : zOk 14 220 c14_220 = true := by decide +kernel
theorem ok14 : zOkM 14 = true := (allc (q := (0, c14_0)) k14_0 (allc (q := (28, c14_28)) k14_28 (allc (q := (98, c14_98)) k14_98 (allc (q := (104, c14_104)) k14_104 (allc (q := (107, c14_107)) k14_107 (allc (q := (135, c14_135)) k14_135 (allc (q := (214, c14_214)) k14_214 (allc (q := (220, c14_220)) k14_220 (alln)))))))) : b14.all (fun q => zOk 14 q.1 q.2) = true)
theorem k15_38 : zOk 15 38 c15_38 = true := by decide +kernel
theorem k15_29 : zOk 15 29 c15_29 = true := zOkN_app (n := 5) (fin := 38) (by decide +kernel) k15_38
theorem k15_20 : zOk 15 20 c15_20 = true := zOkN_app (n := 5) (fin := 29) (by decide +kernel) k15_29
theorem k15_12 : zOk 15 12 c15_12 = true := zOkN_app (n := 4) (fin := 20) (by decide +kernel) k15_20
theorem k15_10 : zOk 15 10 c15_10 = true := zOkN_app (n := 2) (fin := 12) (by decide +kernel) k15_12
theorem k15_2 : zOk 15 2 c15_2 = true := zOkN_app (n := 4) (fin := 10) (by decide +kernel) k15_10
theorem k15_0 : zOk 15 0 c15_0 = true := zOkN_app (n := 2) (fin := 2) (by decide +kernel) k15_2
theorem k15_87 : zOk 15 87 c15_87 = true := by decide +kernel
theorem k15_66 : zOk 15 66 c15_66 = true := zOkN_app (n := 14) (fin := 87) (by decide +kernel) k15_87
theorem k15_57 : zOk 15 57 c15_57 = true := zOkN_app (n := 4) (fin := 66) (by decide +kernel) k15_66
theorem k15_54 : zOk 15 54 c15_54 = true := zOkN_app (n := 2) (fin := 57) (by decide +kernel) k15_57
theorem k15_48 : zOk 15 48 c15_48 = true := zOkN_app (n := 4) (fin := 54) (by decide +kernel) k15_54
theorem k15_43 : zOk 15 43 c15_43 = true := zOkN_app (n := 3) (fin := 48) (by decide +kernel) k15_48
theorem k15_42 : zOk 15 42 c15_42 = true := zOkN_app (n := 1) (fin := 43) (by decide +kernel) k15_43
theorem k15_98 : zOk 15 98 c15_98 = true := by decide +kernel
theorem k15_97 : zOk 15 97 c15_97 = true := zOkN_app (n := 1) (fin := 98) (by decide +kernel) k15_98
theorem k15_105 : zOk 15 105 c15_105 = true := by decide +kernel
theorem k15_111 : zOk 15 111 c15_111 = true := by decide +kernel
theorem k15_117 : zOk 15 117 c15_117 = true := by decide +kernel
theorem ok15 : zOkM 15 = true := (allc (q := (0, c15_0)) k15_0 (allc (q := (2, c15_2)) k15_2 (allc (q := (12, c15_12)) k15_12 (allc (q := (42, c15_42)) k15_42 (allc (q := (43, c15_43)) k15_43 (allc (q := (54, c15_54)) k15_54 (allc (q := (57, c15_57)) k15_57 (allc (q := (97, c15_97)) k15_97 (allc (q := (98, c15_98)) k15_98 (allc (q := (105, c15_105)) k15_105 (allc (q := (111, c15_111)) k15_111 (allc (q := (117, c15_117)) k15_117 (alln)))))))))))) : b15.all (fun q => zOk 15 q.1 q.2) = true)
theorem k16_40 : zOk 16 40 c16_40 = true := by decide +kernel
theorem k16_31 : zOk 16 31 c16_31 = true := zOkN_app (n := 4) (fin := 40) (by decide +kernel) k16_40
theorem k16_28 : zOk 16 28 c16_28 = true := zOkN_app (n := 2) (fin := 31) (by decide +kernel) k16_31
theorem k16_19 : zOk 16 19 c16_19 = true := zOkN_app (n := 4) (fin := 28) (by decide +kernel) k16_28
theorem k16_10 : zOk 16 10 c16_10 = true := zOkN_app (n := 6) (fin := 19) (by decide +kernel) k16_19
theorem k16_2 : zOk 16 2 c16_2 = true := zOkN_app (n := 4) (fin := 10) (by decide +kernel) k16_10
theorem k16_0 : zOk 16 0 c16_0 = true := zOkN_app (n := 2) (fin := 2) (by decide +kernel) k16_2
theorem k16_124 : zOk 16 124 c16_124 = true := by decide +kernel
theorem k16_130 : zOk 16 130 c16_130 = true := by decide +kernel
theorem k16_182 : zOk 16 182 c16_182 = true := by decide +kernel
theorem k16_173 : zOk 16 173 c16_173 = true := zOkN_app (n := 5) (fin := 182) (by decide +kernel) k16_182
theorem k16_169 : zOk 16 169 c16_169 = true := zOkN_app (n := 2) (fin := 173) (by decide +kernel) k16_173
theorem k16_162 : zOk 16 162 c16_162 = true := zOkN_app (n := 5) (fin := 169) (by decide +kernel) k16_169
theorem k16_206 : zOk 16 206 c16_206 = true := by decide +kernel
theorem k16_200 : zOk 16 200 c16_200 = true := zOkN_app (n := 3) (fin := 206) (by decide +kernel) k16_206
theorem k16_197 : zOk 16 197 c16_197 = true := zOkN_app (n := 2) (fin := 200) (by decide +kernel) k16_200
theorem k16_264 : zOk 16 264 c16_264 = true := by decide +kernel
theorem k16_270 : zOk 16 270 c16_270 = true := by decide +kernel
theorem ok16 : zOkM 16 = true := (allc (q := (0, c16_0)) k16_0 (allc (q := (2, c16_2)) k16_2 (allc (q := (19, c16_19)) k16_19 (allc (q := (31, c16_31)) k16_31 (allc (q := (124, c16_124)) k16_124 (allc (q := (130, c16_130)) k16_130 (allc (q := (162, c16_162)) k16_162 (allc (q := (169, c16_169)) k16_169 (allc (q := (197, c16_197)) k16_197 (allc (q := (200, c16_200)) k16_200 (allc (q := (264, c16_264)) k16_264 (allc (q := (270, c16_270)) k16_270 (alln)))))))))))) : b16.all (fun q => zOk 16 q.1 q.2) = true)
theorem k17_9 : zOk 17 9 c17_9 = true := by decide +kernel
theorem k17_0 : zOk 17 0 c17_0 = true := zOkN_app (n := 5) (fin := 9) (by decide +kernel) k17_9
theorem k17_23 : zOk 17 23 c17_23 = true := by decide +kernel
theorem k17_14 : zOk 17 14 c17_14 = true := zOkN_app (n := 5) (fin := 23) (by decide +kernel) k17_23
theorem k17_13 : zOk 17 13 c17_13 = true := zOkN_app (n := 1) (fin := 14) (by decide +kernel) k17_14
theorem k17_28 : zOk 17 28 c17_28 = true := by decide +kernel
theorem k17_27 : zOk 17 27 c17_27 = true := zOkN_app (n := 1) (fin := 28) (by decide +kernel) k17_28
theorem ok17 : zOkM 17 = true := (allc (q := (0, c17_0)) k17_0 (allc (q := (13, c17_13)) k17_13 (allc (q := (14, c17_14)) k17_14 (allc (q := (27, c17_27)) k17_27 (allc (q := (28, c17_28)) k17_28 (alln))))) : b17.all (fun q => zOk 17 q.1 q.2) = true)
theorem k18_28 : zOk 18 28 c18_28 = true := by decide +kernel
theorem k18_7 : zOk 18 7 c18_7 = true := zOkN_app (n := 13) (fin := 28) (by decide +kernel) k18_28
theorem k18_2 : zOk 18 2 c18_2 = true := zOkN_app (n := 3) (fin := 7) (by decide +kernel) k18_7
theorem k18_0 : zOk 18 0 c18_0 = true := zOkN_app (n := 2) (fin := 2) (by decide +kernel) k18_2
theorem k18_42 : zOk 18 42 c18_42 = true := by decide +kernel
theorem k18_32 : zOk 18 32 c18_32 = true := zOkN_app (n := 8) (fin := 42) (by decide +kernel) k18_42
theorem k18_100 : zOk 18 100 c18_100 = true := by decide +kernel
theorem k18_91 : zOk 18 91 c18_91 = true := zOkN_app (n := 4) (fin := 100) (by decide +kernel) k18_100
theorem k18_82 : zOk 18 82 c18_82 = true := zOkN_app (n := 5) (fin := 91) (by decide +kernel) k18_91
theorem k18_68 : zOk 18 68 c18_68 = true := zOkN_app (n := 11) (fin := 82) (by decide +kernel) k18_82
theorem k18_60 : zOk 18 60 c18_60 = true := zOkN_app (n := 4) (fin := 68) (by decide +kernel) k18_68
theorem k18_51 : zOk 18 51 c18_51 = true := zOkN_app (n := 5) (fin := 60) (by decide +kernel) k18_60
theorem k18_49 : zOk 18 49 c18_49 = true := zOkN_app (n := 2) (fin := 51) (by decide +kernel) k18_51
theorem k18_153 : zOk 18 153 c18_153 = true := by decide +kernel
theorem k18_139 : zOk 18 139 c18_139 = true := zOkN_app (n := 8) (fin := 153) (by decide +kernel) k18_153
theorem k18_158 : zOk 18 158 c18_158 = true := by decide +kernel
theorem k18_157 : zOk 18 157 c18_157 = true := zOkN_app (n := 1) (fin := 158) (by decide +kernel) k18_158
theorem k18_165 : zOk 18 165 c18_165 = true := by decide +kernel
theorem ok18 : zOkM 18 = true := (allc (q := (0, c18_0)) k18_0 (allc (q := (2, c18_2)) k18_2 (allc (q := (32, c18_32)) k18_32 (allc (q := (42, c18_42)) k18_42 (allc (q := (49, c18_49)) k18_49 (allc (q := (51, c18_51)) k18_51 (allc (q := (82, c18_82)) k18_82 (allc (q := (139, c18_139)) k18_139 (allc (q := (157, c18_157)) k18_157 (allc (q := (158, c18_158)) k18_158 (allc (q := (165, c18_165)) k18_165 (alln))))))))))) : b18.all (fun q => zOk 18 q.1 q.2) = true)
theorem k19_66 : zOk 19 66 c19_66 = true := by decide +kernel
theorem k19_63 : zOk 19 63 c19_63 = true := zOkN_app (n := 1) (fin := 66) (by decide +kernel) k19_66
theorem k19_58 : zOk 19 58 c19_58 = true := zOkN_app (n := 3) (fin := 63) (by decide +kernel) k19_63
theorem k19_55 : zOk 19 55 c19_55 = true := zOkN_app (n := 1) (fin := 58) (by decide +kernel) k19_58
theorem k19_50 : zOk 19 50 c19_50 = true := zOkN_app (n := 3) (fin := 55) (by decide +kernel) k19_55
theorem k19_41 : zOk 19 41 c19_41 = true := zOkN_app (n := 4) (fin := 50) (by decide +kernel) k19_50
theorem k19_37 : zOk 19 37 c19_37 = true := zOkN_app (n := 2) (fin := 41) (by decide +kernel) k19_41
theorem k19_27 : zOk 19 27 c19_27 = true := zOkN_app (n := 5) (fin := 37) (by decide +kernel) k19_37
theorem k19_24 : zOk 19 24 c19_24 = true := zOkN_app (n := 1) (fin := 27) (by decide +kernel) k19_27
theorem k19_19 : zOk 19 19 c19_19 = true := zOkN_app (n := 3) (fin := 24) (by decide +kernel) k19_24
theorem k19_14 : zOk 19 14 c19_14 = true := zOkN_app (n := 3) (fin := 19) (by decide +kernel) k19_19
theorem k19_9 : zOk 19 9 c19_9 = true := zOkN_app (n := 3) (fin := 14) (by decide +kernel) k19_14
theorem k19_0 : zOk 19 0 c19_0 = true := zOkN_app (n := 5) (fin := 9) (by decide +kernel) k19_9
theorem ok19 : zOkM 19 = true := (allc (q := (0, c19_0)) k19_0 (alln) : b19.all (fun q => zOk 19 q.1 q.2) = true)
theorem k20_72 : zOk 20 72 c20_72 = true := by decide +kernel
theorem k20_67 : zOk 20 67 c20_67 = true := zOkN_app (n := 3) (fin := 72) (by decide +kernel) k20_72
theorem k20_0 : zOk 20 0 c20_0 = true := zOkN_app (n := 35) (fin := 67) (by decide +kernel) k20_67
theorem k20_93 : zOk 20 93 c20_93 = true := by decide +kernel
theorem ok20 : zOkM 20 = true := (allc (q := (0, c20_0)) k20_0 (allc (q := (67, c20_67)) k20_67 (allc (q := (93, c20_93)) k20_93 (alln))) : b20.all (fun q => zOk 20 q.1 q.2) = true)
theorem k21_59 : zOk 21 59 c21_59 = true := by decide +kernel
theorem k21_30 : zOk 21 30 c21_30 = true := zOkN_app (n := 18) (fin := 59) (by decide +kernel) k21_59
theorem k21_15 : zOk 21 15 c21_15 = true := zOkN_app (n := 11) (fin := 30) (by decide +kernel) k21_30
theorem k21_9 : zOk 21 9 c21_9 = true := zOkN_app (n := 3) (fin := 15) (by decide +kernel) k21_15
theorem k21_0 : zOk 21 0 c21_0 = true := zOkN_app (n := 7) (fin := 9) (by decide +kernel) k21_9
theorem k21_88 : zOk 21 88 c21_88 = true := by decide +kernel
theorem k21_75 : zOk 21 75 c21_75 = true := zOkN_app (n := 8) (fin := 88) (by decide +kernel) k21_88
theorem k21_70 : zOk 21 70 c21_70 = true := zOkN_app (n := 3) (fin := 75) (by decide +kernel) k21_75
theorem k21_65 : zOk 21 65 c21_65 = true := zOkN_app (n := 3) (fin := 70) (by decide +kernel) k21_70
theorem k21_112 : zOk 21 112 c21_112 = true := by decide +kernel
theorem k21_98 : zOk 21 98 c21_98 = true := zOkN_app (n := 9) (fin := 112) (by decide +kernel) k21_112
theorem k21_92 : zOk 21 92 c21_92 = true := zOkN_app (n := 3) (fin := 98) (by decide +kernel) k21_98
theorem k21_90 : zOk 21 90 c21_90 = true := zOkN_app (n := 2) (fin := 92) (by decide +kernel) k21_92
theorem k21_114 : zOk 21 114 c21_114 = true := by decide +kernel
theorem k21_145 : zOk 21 145 c21_145 = true := by decide +kernel
theorem k21_134 : zOk 21 134 c21_134 = true := zOkN_app (n := 6) (fin := 145) (by decide +kernel) k21_145
theorem k21_120 : zOk 21 120 c21_120 = true := zOkN_app (n := 8) (fin := 134) (by decide +kernel) k21_134
theorem k21_173 : zOk 21 173 c21_173 = true := by decide +kernel
theorem ok21 : zOkM 21 = true := (allc (q := (0, c21_0)) k21_0 (allc (q := (9, c21_9)) k21_9 (allc (q := (59, c21_59)) k21_59 (allc (q := (65, c21_65)) k21_65 (allc (q := (88, c21_88)) k21_88 (allc (q := (90, c21_90)) k21_90 (allc (q := (92, c21_92)) k21_92 (allc (q := (114, c21_114)) k21_114 (allc (q := (120, c21_120)) k21_120 (allc (q := (134, c21_134)) k21_134 (allc (q := (173, c21_173)) k21_173 (alln))))))))))) : b21.all (fun q => zOk 21 q.1 q.2) = true)
theorem k22_61 : zOk 22 61 c22_61 = true := by decide +kernel
theorem k22_0 : zOk 22 0 c22_0 = true := zOkN_app (n := 31) (fin := 61) (by decide +kernel) k22_61
theorem k22_91 : zOk 22 91 c22_91 = true := by decide +kernel
theorem k22_83 : zOk 22 83 c22_83 = true := zOkN_app (n := 4) (fin := 91) (by decide +kernel) k22_91
theorem k22_66 : zOk 22 66 c22_66 = true := zOkN_app (n := 9) (fin := 83) (by decide +kernel) k22_83
theorem k22_65 : zOk 22 65 c22_65 = true := zOkN_app (n := 1) (fin := 66) (by decide +kernel) k22_66
theorem k22_112 : zOk 22 112 c22_112 = true := by decide +kernel
theorem ok22 : zOkM 22 = true := (allc (q := (0, c22_0)) k22_0 (allc (q := (65, c22_65)) k22_65 (allc (q := (66, c22_66)) k22_66 (allc (q := (83, c22_83)) k22_83 (allc (q := (112, c22_112)) k22_112 (alln))))) : b22.all (fun q => zOk 22 q.1 q.2) = true)
theorem k23_34 : zOk 23 34 c23_34 = true := by decide +kernel
theorem k23_22 : zOk 23 22 c23_22 = true := zOkN_app (n := 6) (fin := 34) (by decide +kernel) k23_34
theorem k23_16 : zOk 23 16 c23_16 = true := zOkN_app (n := 3) (fin := 22) (by decide +kernel) k23_22
theorem k23_0 : zOk 23 0 c23_0 = true := zOkN_app (n := 9) (fin := 16) (by decide +kernel) k23_16
theorem k23_49 : zOk 23 49 c23_49 = true := by decide +kernel
theorem ok23 : zOkM 23 = true := (allc (q := (0, c23_0)) k23_0 (allc (q := (16, c23_16)) k23_16 (allc (q := (49, c23_49)) k23_49 (alln))) : b23.all (fun q => zOk 23 q.1 q.2) = true)
theorem k24_10 : zOk 24 10 c24_10 = true := by decide +kernel
theorem k24_0 : zOk 24 0 c24_0 = true := zOkN_app (n := 6) (fin := 10) (by decide +kernel) k24_10
theorem k24_15 : zOk 24 15 c24_15 = true := by decide +kernel
theorem k24_14 : zOk 24 14 c24_14 = true := zOkN_app (n := 1) (fin := 15) (by decide +kernel) k24_15
theorem ok24 : zOkM 24 = true := (allc (q := (0, c24_0)) k24_0 (allc (q := (14, c24_14)) k24_14 (allc (q := (15, c24_15)) k24_15 (alln))) : b24.all (fun q => zOk 24 q.1 q.2) = true)
theorem k25_23 : zOk 25 23 c25_23 = true := by decide +kernel
theorem k25_17 : zOk 25 17 c25_17 = true := zOkN_app (n := 3) (fin := 23) (by decide +kernel) k25_23
theorem k25_0 : zOk 25 0 c25_0 = true := zOkN_app (n := 10) (fin := 17) (by decide +kernel) k25_17
theorem k25_47 : zOk 25 47 c25_47 = true := by decide +kernel
theorem k25_41 : zOk 25 41 c25_41 = true := zOkN_app (n := 3) (fin := 47) (by decide +kernel) k25_47
theorem k25_39 : zOk 25 39 c25_39 = true := zOkN_app (n := 2) (fin := 41) (by decide +kernel) k25_41
theorem k25_100 : zOk 25 100 c25_100 = true := by decide +kernel
theorem k25_84 : zOk 25 84 c25_84 = true := zOkN_app (n := 10) (fin := 100) (by decide +kernel) k25_100
theorem k25_74 : zOk 25 74 c25_74 = true := zOkN_app (n := 5) (fin := 84) (by decide +kernel) k25_84
theorem k25_67 : zOk 25 67 c25_67 = true := zOkN_app (n := 3) (fin := 74) (by decide +kernel) k25_74
theorem k25_61 : zOk 25 61 c25_61 = true := zOkN_app (n := 4) (fin := 67) (by decide +kernel) k25_67
theorem k25_106 : zOk 25 106 c25_106 = true := by decide +kernel
theorem ok25 : zOkM 25 = true := (allc (q := (0, c25_0)) k25_0 (allc (q := (17, c25_17)) k25_17 (allc (q := (39, c25_39)) k25_39 (allc (q := (41, c25_41)) k25_41 (allc (q := (61, c25_61)) k25_61 (allc (q := (67, c25_67)) k25_67 (allc (q := (100, c25_100)) k25_100 (allc (q := (106, c25_106)) k25_106 (alln)))))))) : b25.all (fun q => zOk 25 q.1 q.2) = true)
theorem k26_20 : zOk 26 20 c26_20 = true := by decide +kernel
theorem k26_13 : zOk 26 13 c26_13 = true := zOkN_app (n := 3) (fin := 20) (by decide +kernel) k26_20
theorem k26_10 : zOk 26 10 c26_10 = true := zOkN_app (n := 2) (fin := 13) (by decide +kernel) k26_13
theorem k26_3 : zOk 26 3 c26_3 = true := zOkN_app (n := 3) (fin := 10) (by decide +kernel) k26_10
theorem k26_0 : zOk 26 0 c26_0 = true := zOkN_app (n := 2) (fin := 3) (by decide +kernel) k26_3
theorem k26_65 : zOk 26 65 c26_65 = true := by decide +kernel
theorem k26_71 : zOk 26 71 c26_71 = true := by decide +kernel
theorem ok26 : zOkM 26 = true := (allc (q := (0, c26_0)) k26_0 (allc (q := (3, c26_3)) k26_3 (allc (q := (13, c26_13)) k26_13 (allc (q := (65, c26_65)) k26_65 (allc (q := (71, c26_71)) k26_71 (alln))))) : b26.all (fun q => zOk 26 q.1 q.2) = true)
theorem k27_90 : zOk 27 90 c27_90 = true := by decide +kernel
theorem k27_85 : zOk 27 85 c27_85 = true := zOkN_app (n := 3) (fin := 90) (by decide +kernel) k27_90
theorem k27_80 : zOk 27 80 c27_80 = true := zOkN_app (n := 3) (fin := 85) (by decide +kernel) k27_85
theorem k27_75 : zOk 27 75 c27_75 = true := zOkN_app (n := 3) (fin := 80) (by decide +kernel) k27_80
theorem k27_72 : zOk 27 72 c27_72 = true := zOkN_app (n := 1) (fin := 75) (by decide +kernel) k27_75
theorem k27_67 : zOk 27 67 c27_67 = true := zOkN_app (n := 3) (fin := 72) (by decide +kernel) k27_72
theorem k27_57 : zOk 27 57 c27_57 = true := zOkN_app (n := 5) (fin := 67) (by decide +kernel) k27_67
theorem k27_47 : zOk 27 47 c27_47 = true := zOkN_app (n := 5) (fin := 57) (by decide +kernel) k27_57
theorem k27_37 : zOk 27 37 c27_37 = true := zOkN_app (n := 5) (fin := 47) (by decide +kernel) k27_47
theorem k27_26 : zOk 27 26 c27_26 = true := zOkN_app (n := 5) (fin := 37) (by decide +kernel) k27_37
theorem k27_15 : zOk 27 15 c27_15 = true := zOkN_app (n := 5) (fin := 26) (by decide +kernel) k27_26
theorem k27_8 : zOk 27 8 c27_8 = true := zOkN_app (n := 3) (fin := 15) (by decide +kernel) k27_15
theorem k27_0 : zOk 27 0 c27_0 = true := zOkN_app (n := 4) (fin := 8) (by decide +kernel) k27_8
theorem ok27 : zOkM 27 = true := (allc (q := (0, c27_0)) k27_0 (alln) : b27.all (fun q => zOk 27 q.1 q.2) = true)
theorem k28_23 : zOk 28 23 c28_23 = true := by decide +kernel
theorem k28_18 : zOk 28 18 c28_18 = true := zOkN_app (n := 3) (fin := 23) (by decide +kernel) k28_23
theorem k28_0 : zOk 28 0 c28_0 = true := zOkN_app (n := 10) (fin := 18) (by decide +kernel) k28_18
theorem k28_58 : zOk 28 58 c28_58 = true := by decide +kernel
theorem ok28 : zOkM 28 = true := (allc (q := (0, c28_0)) k28_0 (allc (q := (18, c28_18)) k28_18 (allc (q := (58, c28_58)) k28_58 (alln))) : b28.all (fun q => zOk 28 q.1 q.2) = true)
theorem k29_7 : zOk 29 7 c29_7 = true := by decide +kernel
theorem k29_0 : zOk 29 0 c29_0 = true := zOkN_app (n := 3) (fin := 7) (by decide +kernel) k29_7
theorem k29_60 : zOk 29 60 c29_60 = true := by decide +kernel
theorem k29_51 : zOk 29 51 c29_51 = true := zOkN_app (n := 5) (fin := 60) (by decide +kernel) k29_60
theorem k29_45 : zOk 29 45 c29_45 = true := zOkN_app (n := 3) (fin := 51) (by decide +kernel) k29_51
theorem k29_40 : zOk 29 40 c29_40 = true := zOkN_app (n := 2) (fin := 45) (by decide +kernel) k29_45
theorem k29_9 : zOk 29 9 c29_9 = true := zOkN_app (n := 18) (fin := 40) (by decide +kernel) k29_40
theorem k29_72 : zOk 29 72 c29_72 = true := by decide +kernel
theorem ok29 : zOkM 29 = true := (allc (q := (0, c29_0)) k29_0 (allc (q := (9, c29_9)) k29_9 (allc (q := (40, c29_40)) k29_40 (allc (q := (72, c29_72)) k29_72 (alln)))) : b29.all (fun q => zOk 29 q.1 q.2) = true)
theorem k30_54 : zOk 30 54 c30_54 = true := by decide +kernel
theorem k30_45 : zOk 30 45 c30_45 = true := zOkN_app (n := 4) (fin := 54) (by decide +kernel) k30_54
theorem k30_29 : zOk 30 29 c30_29 = true := zOkN_app (n := 12) (fin := 45) (by decide +kernel) k30_45
theorem k30_20 : zOk 30 20 c30_20 = true := zOkN_app (n := 4) (fin := 29) (by decide +kernel) k30_29
theorem k30_17 : zOk 30 17 c30_17 = true := zOkN_app (n := 2) (fin := 20) (by decide +kernel) k30_20
theorem k30_9 : zOk 30 9 c30_9 = true := zOkN_app (n := 4) (fin := 17) (by decide +kernel) k30_17
theorem k30_0 : zOk 30 0 c30_0 = true := zOkN_app (n := 5) (fin := 9) (by decide +kernel) k30_9
theorem k30_94 : zOk 30 94 c30_94 = true := by decide +kernel
theorem k30_100 : zOk 30 100 c30_100 = true := by decide +kernel
theorem k30_106 : zOk 30 106 c30_106 = true := by decide +kernel
theorem ok30 : zOkM 30 = true := (allc (q := (0, c30_0)) k30_0 (allc (q := (9, c30_9)) k30_9 (allc (q := (20, c30_20)) k30_20 (allc (q := (45, c30_45)) k30_45 (allc (q := (94, c30_94)) k30_94 (allc (q := (100, c30_100)) k30_100 (allc (q := (106, c30_106)) k30_106 (alln))))))) : b30.all (fun q => zOk 30 q.1 q.2) = true)
theorem k31_0 : zOk 31 0 c31_0 = true := by decide +kernel
theorem ok31 : zOkM 31 = true := (allc (q := (0, c31_0)) k31_0 (alln) : b31.all (fun q => zOk 31 q.1 q.2) = true)
theorem k32_42 : zOk 32 42 c32_42 = true := by decide +kernel
theorem k32_34 : zOk 32 34 c32_34 = true := zOkN_app (n := 5) (fin := 42) (by decide +kernel) k32_42
theorem k32_22 : zOk 32 22 c32_22 = true := zOkN_app (n := 6) (fin := 34) (by decide +kernel) k32_34
theorem k32_19 : zOk 32 19 c32_19 = true := zOkN_app (n := 2) (fin := 22) (by decide +kernel) k32_22
theorem k32_10 : zOk 32 10 c32_10 = true := zOkN_app (n := 4) (fin := 19) (by decide +kernel) k32_19
theorem k32_0 : zOk 32 0 c32_0 = true := zOkN_app (n := 5) (fin := 10) (by decide +kernel) k32_10
theorem k32_74 : zOk 32 74 c32_74 = true := by decide +kernel
theorem k32_80 : zOk 32 80 c32_80 = true := by decide +kernel
theorem ok32 : zOkM 32 = true := (allc (q := (0, c32_0)) k32_0 (allc (q := (10, c32_10)) k32_10 (allc (q := (22, c32_22)) k32_22 (allc (q := (74, c32_74)) k32_74 (allc (q := (80, c32_80)) k32_80 (alln))))) : b32.all (fun q => zOk 32 q.1 q.2) = true)
theorem k33_53 : zOk 33 53 c33_53 = true := by decide +kernel
theorem k33_39 : zOk 33 39 c33_39 = true := zOkN_app (n := 7) (fin := 53) (by decide +kernel) k33_53
theorem k33_32 : zOk 33 32 c33_32 = true := zOkN_app (n := 3) (fin := 39) (by decide +kernel) k33_39
theorem k33_18 : zOk 33 18 c33_18 = true := zOkN_app (n := 9) (fin := 32) (by decide +kernel) k33_32
theorem k33_14 : zOk 33 14 c33_14 = true := zOkN_app (n := 2) (fin := 18) (by decide +kernel) k33_18
theorem k33_0 : zOk 33 0 c33_0 = true := zOkN_app (n := 8) (fin := 14) (by decide +kernel) k33_14
theorem k33_55 : zOk 33 55 c33_55 = true := by decide +kernel
theorem k33_151 : zOk 33 151 c33_151 = true := by decide +kernel
theorem k33_127 : zOk 33 127 c33_127 = true := zOkN_app (n := 14) (fin := 151) (by decide +kernel) k33_151
theorem k33_110 : zOk 33 110 c33_110 = true := zOkN_app (n := 9) (fin := 127) (by decide +kernel) k33_127
theorem k33_103 : zOk 33 103 c33_103 = true := zOkN_app (n := 3) (fin := 110) (by decide +kernel) k33_110
theorem k33_92 : zOk 33 92 c33_92 = true := zOkN_app (n := 6) (fin := 103) (by decide +kernel) k33_103
theorem k33_89 : zOk 33 89 c33_89 = true := zOkN_app (n := 2) (fin := 92) (by decide +kernel) k33_92
theorem k33_83 : zOk 33 83 c33_83 = true := zOkN_app (n := 3) (fin := 89) (by decide +kernel) k33_89
theorem k33_61 : zOk 33 61 c33_61 = true := zOkN_app (n := 14) (fin := 83) (by decide +kernel) k33_83
theorem k33_157 : zOk 33 157 c33_157 = true := by decide +kernel
theorem k33_177 : zOk 33 177 c33_177 = true := by decide +kernel
theorem k33_183 : zOk 33 183 c33_183 = true := by decide +kernel
theorem ok33 : zOkM 33 = true := (allc (q := (0, c33_0)) k33_0 (allc (q := (14, c33_14)) k33_14 (allc (q := (32, c33_32)) k33_32 (allc (q := (55, c33_55)) k33_55 (allc (q := (61, c33_61)) k33_61 (allc (q := (83, c33_83)) k33_83 (allc (q := (92, c33_92)) k33_92 (allc (q := (151, c33_151)) k33_151 (allc (q := (157, c33_157)) k33_157 (allc (q := (177, c33_177)) k33_177 (allc (q := (183, c33_183)) k33_183 (alln))))))))))) : b33.all (fun q => zOk 33 q.1 q.2) = true)
theorem k34_21 : zOk 34 21 c34_21 = true := by decide +kernel
theorem k34_12 : zOk 34 12 c34_12 = true := zOkN_app (n := 4) (fin := 21) (by decide +kernel) k34_21
theorem k34_0 : zOk 34 0 c34_0 = true := zOkN_app (n := 7) (fin := 12) (by decide +kernel) k34_12
theorem k34_43 : zOk 34 43 c34_43 = true := by decide +kernel
theorem k34_39 : zOk 34 39 c34_39 = true := zOkN_app (n := 2) (fin := 43) (by decide +kernel) k34_43
theorem k34_69 : zOk 34 69 c34_69 = true := by decide +kernel
theorem k34_54 : zOk 34 54 c34_54 = true := zOkN_app (n := 9) (fin := 69) (by decide +kernel) k34_69
theorem k34_48 : zOk 34 48 c34_48 = true := zOkN_app (n := 3) (fin := 54) (by decide +kernel) k34_54
theorem k34_45 : zOk 34 45 c34_45 = true := zOkN_app (n := 2) (fin := 48) (by decide +kernel) k34_48
theorem k34_90 : zOk 34 90 c34_90 = true := by decide +kernel
theorem k34_89 : zOk 34 89 c34_89 = true := zOkN_app (n := 1) (fin := 90) (by decide +kernel) k34_90
theorem k34_108 : zOk 34 108 c34_108 = true := by decide +kernel
theorem k34_102 : zOk 34 102 c34_102 = true := zOkN_app (n := 3) (fin := 108) (by decide +kernel) k34_108
theorem k34_99 : zOk 34 99 c34_99 = true := zOkN_app (n := 2) (fin := 102) (by decide +kernel) k34_102
theorem k34_122 : zOk 34 122 c34_122 = true := by decide +kernel
theorem ok34 : zOkM 34 = true := (allc (q := (0, c34_0)) k34_0 (allc (q := (12, c34_12)) k34_12 (allc (q := (39, c34_39)) k34_39 (allc (q := (45, c34_45)) k34_45 (allc (q := (48, c34_48)) k34_48 (allc (q := (89, c34_89)) k34_89 (allc (q := (90, c34_90)) k34_90 (allc (q := (99, c34_99)) k34_99 (allc (q := (102, c34_102)) k34_102 (allc (q := (122, c34_122)) k34_122 (alln)))))))))) : b34.all (fun q => zOk 34 q.1 q.2) = true)
theorem k35_13 : zOk 35 13 c35_13 = true := by decide +kernel
theorem k35_3 : zOk 35 3 c35_3 = true := zOkN_app (n := 5) (fin := 13) (by decide +kernel) k35_13
theorem k35_0 : zOk 35 0 c35_0 = true := zOkN_app (n := 2) (fin := 3) (by decide +kernel) k35_3
theorem k35_55 : zOk 35 55 c35_55 = true := by decide +kernel
theorem k35_46 : zOk 35 46 c35_46 = true := zOkN_app (n := 4) (fin := 55) (by decide +kernel) k35_55
theorem k35_35 : zOk 35 35 c35_35 = true := zOkN_app (n := 6) (fin := 46) (by decide +kernel) k35_46
theorem k35_27 : zOk 35 27 c35_27 = true := zOkN_app (n := 4) (fin := 35) (by decide +kernel) k35_35
theorem k35_79 : zOk 35 79 c35_79 = true := by decide +kernel
theorem k35_74 : zOk 35 74 c35_74 = true := zOkN_app (n := 2) (fin := 79) (by decide +kernel) k35_79
theorem k35_69 : zOk 35 69 c35_69 = true := zOkN_app (n := 4) (fin := 74) (by decide +kernel) k35_74
theorem k35_123 : zOk 35 123 c35_123 = true := by decide +kernel
theorem k35_116 : zOk 35 116 c35_116 = true := zOkN_app (n := 3) (fin := 123) (by decide +kernel) k35_123
theorem k35_110 : zOk 35 110 c35_110 = true := zOkN_app (n := 3) (fin := 116) (by decide +kernel) k35_116
theorem k35_104 : zOk 35 104 c35_104 = true := zOkN_app (n := 4) (fin := 110) (by decide +kernel) k35_110
theorem k35_98 : zOk 35 98 c35_98 = true := zOkN_app (n := 3) (fin := 104) (by decide +kernel) k35_104
theorem k35_95 : zOk 35 95 c35_95 = true := zOkN_app (n := 2) (fin := 98) (by decide +kernel) k35_98
theorem k35_166 : zOk 35 166 c35_166 = true := by decide +kernel
theorem k35_153 : zOk 35 153 c35_153 = true := zOkN_app (n := 9) (fin := 166) (by decide +kernel) k35_166
theorem k35_183 : zOk 35 183 c35_183 = true := by decide +kernel
theorem k35_181 : zOk 35 181 c35_181 = true := zOkN_app (n := 1) (fin := 183) (by decide +kernel) k35_183
theorem k35_192 : zOk 35 192 c35_192 = true := by decide +kernel
theorem ok35 : zOkM 35 = true := (allc (q := (0, c35_0)) k35_0 (allc (q := (3, c35_3)) k35_3 (allc (q := (27, c35_27)) k35_27 (allc (q := (46, c35_46)) k35_46 (allc (q := (69, c35_69)) k35_69 (allc (q := (74, c35_74)) k35_74 (allc (q := (95, c35_95)) k35_95 (allc (q := (98, c35_98)) k35_98 (allc (q := (110, c35_110)) k35_110 (allc (q := (153, c35_153)) k35_153 (allc (q := (181, c35_181)) k35_181 (allc (q := (183, c35_183)) k35_183 (allc (q := (192, c35_192)) k35_192 (alln))))))))))))) : b35.all (fun q => zOk 35 q.1 q.2) = true)
theorem k36_19 : zOk 36 19 c36_19 = true := by decide +kernel
theorem k36_12 : zOk 36 12 c36_12 = true := zOkN_app (n := 3) (fin := 19) (by decide +kernel) k36_19
theorem k36_9 : zOk 36 9 c36_9 = true := zOkN_app (n := 2) (fin := 12) (by decide +kernel) k36_12
theorem k36_3 : zOk 36 3 c36_3 = true := zOkN_app (n := 3) (fin := 9) (by decide +kernel) k36_9
theorem k36_0 : zOk 36 0 c36_0 = true := zOkN_app (n := 2) (fin := 3) (by decide +kernel) k36_3
theorem k36_104 : zOk 36 104 c36_104 = true := by decide +kernel
theorem k36_110 : zOk 36 110 c36_110 = true := by decide +kernel
theorem ok36 : zOkM 36 = true := (allc (q := (0, c36_0)) k36_0 (allc (q := (3, c36_3)) k36_3 (allc (q := (12, c36_12)) k36_12 (allc (q := (104, c36_104)) k36_104 (allc (q := (110, c36_110)) k36_110 (alln))))) : b36.all (fun q => zOk 36 q.1 q.2) = true)
theorem k37_75 : zOk 37 75 c37_75 = true := by decide +kernel
theorem k37_62 : zOk 37 62 c37_62 = true := zOkN_app (n := 7) (fin := 75) (by decide +kernel) k37_75
theorem k37_59 : zOk 37 59 c37_59 = true := zOkN_app (n := 2) (fin := 62) (by decide +kernel) k37_62
theorem k37_53 : zOk 37 53 c37_53 = true := zOkN_app (n := 3) (fin := 59) (by decide +kernel) k37_59
theorem k37_48 : zOk 37 48 c37_48 = true := zOkN_app (n := 2) (fin := 53) (by decide +kernel) k37_53
theorem k37_18 : zOk 37 18 c37_18 = true := zOkN_app (n := 20) (fin := 48) (by decide +kernel) k37_48
theorem k37_11 : zOk 37 11 c37_11 = true := zOkN_app (n := 3) (fin := 18) (by decide +kernel) k37_18
theorem k37_0 : zOk 37 0 c37_0 = true := zOkN_app (n := 7) (fin := 11) (by decide +kernel) k37_11
theorem k37_141 : zOk 37 141 c37_141 = true := by decide +kernel
theorem k37_147 : zOk 37 147 c37_147 = true := by decide +kernel
theorem k37_153 : zOk 37 153 c37_153 = true := by decide +kernel
theorem ok37 : zOkM 37 = true := (allc (q := (0, c37_0)) k37_0 (allc (q := (11, c37_11)) k37_11 (allc (q := (48, c37_48)) k37_48 (allc (q := (62, c37_62)) k37_62 (allc (q := (141, c37_141)) k37_141 (allc (q := (147, c37_147)) k37_147 (allc (q := (153, c37_153)) k37_153 (alln))))))) : b37.all (fun q => zOk 37 q.1 q.2) = true)
theorem k38_20 : zOk 38 20 c38_20 = true := by decide +kernel
theorem k38_17 : zOk 38 17 c38_17 = true := zOkN_app (n := 1) (fin := 20) (by decide +kernel) k38_20
theorem k38_9 : zOk 38 9 c38_9 = true := zOkN_app (n := 5) (fin := 17) (by decide +kernel) k38_17
theorem k38_0 : zOk 38 0 c38_0 = true := zOkN_app (n := 5) (fin := 9) (by decide +kernel) k38_9
theorem ok38 : zOkM 38 = true := (allc (q := (0, c38_0)) k38_0 (alln) : b38.all (fun q => zOk 38 q.1 q.2) = true)
theorem k39_12 : zOk 39 12 c39_12 = true := by decide +kernel
theorem k39_4 : zOk 39 4 c39_4 = true := zOkN_app (n := 4) (fin := 12) (by decide +kernel) k39_12
theorem k39_0 : zOk 39 0 c39_0 = true := zOkN_app (n := 2) (fin := 4) (by decide +kernel) k39_4
theorem k39_22 : zOk 39 22 c39_22 = true := by decide +kernel
theorem k39_16 : zOk 39 16 c39_16 = true := zOkN_app (n := 4) (fin := 22) (by decide +kernel) k39_22
theorem ok39 : zOkM 39 = true := (allc (q := (0, c39_0)) k39_0 (allc (q := (12, c39_12)) k39_12 (allc (q := (16, c39_16)) k39_16 (allc (q := (22, c39_22)) k39_22 (alln)))) : b39.all (fun q => zOk 39 q.1 q.2) = true)
theorem k40_10 : zOk 40 10 c40_10 = true := by decide +kernel
theorem k40_2 : zOk 40 2 c40_2 = true := zOkN_app (n := 4) (fin := 10) (by decide +kernel) k40_10
theorem k40_0 : zOk 40 0 c40_0 = true := zOkN_app (n := 2) (fin := 2) (by decide +kernel) k40_2
theorem k40_23 : zOk 40 23 c40_23 = true := by decide +kernel
theorem ok40 : zOkM 40 = true := (allc (q := (0, c40_0)) k40_0 (allc (q := (2, c40_2)) k40_2 (allc (q := (23, c40_23)) k40_23 (alln))) : b40.all (fun q => zOk 40 q.1 q.2) = true)
theorem k41_12 : zOk 41 12 c41_12 = true := by decide +kernel
theorem k41_0 : zOk 41 0 c41_0 = true := zOkN_app (n := 6) (fin := 12) (by decide +kernel) k41_12
theorem k41_34 : zOk 41 34 c41_34 = true := by decide +kernel
theorem k41_29 : zOk 41 29 c41_29 = true := zOkN_app (n := 3) (fin := 34) (by decide +kernel) k41_34
theorem k41_26 : zOk 41 26 c41_26 = true := zOkN_app (n := 3) (fin := 29) (by decide +kernel) k41_29
theorem k41_19 : zOk 41 19 c41_19 = true := zOkN_app (n := 5) (fin := 26) (by decide +kernel) k41_26
theorem k41_64 : zOk 41 64 c41_64 = true := by decide +kernel
theorem k41_56 : zOk 41 56 c41_56 = true := zOkN_app (n := 4) (fin := 64) (by decide +kernel) k41_64
theorem k41_52 : zOk 41 52 c41_52 = true := zOkN_app (n := 4) (fin := 56) (by decide +kernel) k41_56
theorem k41_77 : zOk 41 77 c41_77 = true := by decide +kernel
theorem ok41 : zOkM 41 = true := (allc (q := (0, c41_0)) k41_0 (allc (q := (19, c41_19)) k41_19 (allc (q := (26, c41_26)) k41_26 (allc (q := (29, c41_29)) k41_29 (allc (q := (52, c41_52)) k41_52 (allc (q := (56, c41_56)) k41_56 (allc (q := (77, c41_77)) k41_77 (alln))))))) : b41.all (fun q => zOk 41 q.1 q.2) = true)
theorem k42_33 : zOk 42 33 c42_33 = true := by decide +kernel
theorem k42_21 : zOk 42 21 c42_21 = true := zOkN_app (n := 8) (fin := 33) (by decide +kernel) k42_33
theorem k42_17 : zOk 42 17 c42_17 = true := zOkN_app (n := 2) (fin := 21) (by decide +kernel) k42_21
theorem k42_8 : zOk 42 8 c42_8 = true := zOkN_app (n := 5) (fin := 17) (by decide +kernel) k42_17
theorem k42_0 : zOk 42 0 c42_0 = true := zOkN_app (n := 4) (fin := 8) (by decide +kernel) k42_8
theorem ok42 : zOkM 42 = true := (allc (q := (0, c42_0)) k42_0 (allc (q := (33, c42_33)) k42_33 (alln)) : b42.all (fun q => zOk 42 q.1 q.2) = true)
theorem k43_4 : zOk 43 4 c43_4 = true := by decide +kernel
theorem k43_0 : zOk 43 0 c43_0 = true := zOkN_app (n := 2) (fin := 4) (by decide +kernel) k43_4
theorem k43_26 : zOk 43 26 c43_26 = true := by decide +kernel
theorem k43_10 : zOk 43 10 c43_10 = true := zOkN_app (n := 9) (fin := 26) (by decide +kernel) k43_26
theorem k43_9 : zOk 43 9 c43_9 = true := zOkN_app (n := 1) (fin := 10) (by decide +kernel) k43_10
theorem k43_55 : zOk 43 55 c43_55 = true := by decide +kernel
theorem k43_48 : zOk 43 48 c43_48 = true := zOkN_app (n := 3) (fin := 55) (by decide +kernel) k43_55
theorem k43_42 : zOk 43 42 c43_42 = true := zOkN_app (n := 3) (fin := 48) (by decide +kernel) k43_48
theorem k43_33 : zOk 43 33 c43_33 = true := zOkN_app (n := 7) (fin := 42) (by decide +kernel) k43_42
theorem k43_101 : zOk 43 101 c43_101 = true := by decide +kernel
theorem k43_90 : zOk 43 90 c43_90 = true := zOkN_app (n := 6) (fin := 101) (by decide +kernel) k43_101
theorem k43_82 : zOk 43 82 c43_82 = true := zOkN_app (n := 4) (fin := 90) (by decide +kernel) k43_90
theorem k43_112 : zOk 43 112 c43_112 = true := by decide +kernel
theorem k43_108 : zOk 43 108 c43_108 = true := zOkN_app (n := 2) (fin := 112) (by decide +kernel) k43_112
theorem ok43 : zOkM 43 = true := (allc (q := (0, c43_0)) k43_0 (allc (q := (9, c43_9)) k43_9 (allc (q := (10, c43_10)) k43_10 (allc (q := (33, c43_33)) k43_33 (allc (q := (42, c43_42)) k43_42 (allc (q := (48, c43_48)) k43_48 (allc (q := (82, c43_82)) k43_82 (allc (q := (108, c43_108)) k43_108 (allc (q := (112, c43_112)) k43_112 (alln))))))))) : b43.all (fun q => zOk 43 q.1 q.2) = true)
theorem k44_35 : zOk 44 35 c44_35 = true := by decide +kernel
theorem k44_25 : zOk 44 25 c44_25 = true := zOkN_app (n := 5) (fin := 35) (by decide +kernel) k44_35
theorem k44_18 : zOk 44 18 c44_18 = true := zOkN_app (n := 3) (fin := 25) (by decide +kernel) k44_25
theorem k44_0 : zOk 44 0 c44_0 = true := zOkN_app (n := 9) (fin := 18) (by decide +kernel) k44_18
theorem k44_76 : zOk 44 76 c44_76 = true := by decide +kernel
theorem k44_67 : zOk 44 67 c44_67 = true := zOkN_app (n := 4) (fin := 76) (by decide +kernel) k44_76
theorem k44_62 : zOk 44 62 c44_62 = true := zOkN_app (n := 2) (fin := 67) (by decide +kernel) k44_67
theorem k44_48 : zOk 44 48 c44_48 = true := zOkN_app (n := 9) (fin := 62) (by decide +kernel) k44_62
theorem k44_39 : zOk 44 39 c44_39 = true := zOkN_app (n := 4) (fin := 48) (by decide +kernel) k44_48
theorem k44_36 : zOk 44 36 c44_36 = true := zOkN_app (n := 2) (fin := 39) (by decide +kernel) k44_39
theorem k44_105 : zOk 44 105 c44_105 = true := by decide +kernel
theorem k44_121 : zOk 44 121 c44_121 = true := by decide +kernel
theorem k44_111 : zOk 44 111 c44_111 = true := zOkN_app (n := 5) (fin := 121) (by decide +kernel) k44_121
theorem k44_130 : zOk 44 130 c44_130 = true := by decide +kernel
theorem k44_126 : zOk 44 126 c44_126 = true := zOkN_app (n := 2) (fin := 130) (by decide +kernel) k44_130
theorem ok44 : zOkM 44 = true := (allc (q := (0, c44_0)) k44_0 (allc (q := (35, c44_35)) k44_35 (allc (q := (36, c44_36)) k44_36 (allc (q := (39, c44_39)) k44_39 (allc (q := (62, c44_62)) k44_62 (allc (q := (105, c44_105)) k44_105 (allc (q := (111, c44_111)) k44_111 (allc (q := (126, c44_126)) k44_126 (allc (q := (130, c44_130)) k44_130 (alln))))))))) : b44.all (fun q => zOk 44 q.1 q.2) = true)
theorem k45_32 : zOk 45 32 c45_32 = true := by decide +kernel
theorem k45_12 : zOk 45 12 c45_12 = true := zOkN_app (n := 12) (fin := 32) (by decide +kernel) k45_32
theorem k45_4 : zOk 45 4 c45_4 = true := zOkN_app (n := 4) (fin := 12) (by decide +kernel) k45_12
theorem k45_0 : zOk 45 0 c45_0 = true := zOkN_app (n := 4) (fin := 4) (by decide +kernel) k45_4
theorem k45_47 : zOk 45 47 c45_47 = true := by decide +kernel
theorem k45_41 : zOk 45 41 c45_41 = true := zOkN_app (n := 3) (fin := 47) (by decide +kernel) k45_47
theorem k45_39 : zOk 45 39 c45_39 = true := zOkN_app (n := 1) (fin := 41) (by decide +kernel) k45_41
theorem k45_52 : zOk 45 52 c45_52 = true := by decide +kernel
theorem k45_51 : zOk 45 51 c45_51 = true := zOkN_app (n := 1) (fin := 52) (by decide +kernel) k45_52
theorem k45_59 : zOk 45 59 c45_59 = true := by decide +kernel
theorem ok45 : zOkM 45 = true := (allc (q := (0, c45_0)) k45_0 (allc (q := (4, c45_4)) k45_4 (allc (q := (39, c45_39)) k45_39 (allc (q := (41, c45_41)) k45_41 (allc (q := (51, c45_51)) k45_51 (allc (q := (52, c45_52)) k45_52 (allc (q := (59, c45_59)) k45_59 (alln))))))) : b45.all (fun q => zOk 45 q.1 q.2) = true)
theorem k46_13 : zOk 46 13 c46_13 = true := by decide +kernel
theorem k46_8 : zOk 46 8 c46_8 = true := zOkN_app (n := 2) (fin := 13) (by decide +kernel) k46_13
theorem k46_0 : zOk 46 0 c46_0 = true := zOkN_app (n := 5) (fin := 8) (by decide +kernel) k46_8
theorem k46_33 : zOk 46 33 c46_33 = true := by decide +kernel
theorem ok46 : zOkM 46 = true := (allc (q := (0, c46_0)) k46_0 (allc (q := (8, c46_8)) k46_8 (allc (q := (33, c46_33)) k46_33 (alln))) : b46.all (fun q => zOk 46 q.1 q.2) = true)
theorem k47_13 : zOk 47 13 c47_13 = true := by decide +kernel
theorem k47_8 : zOk 47 8 c47_8 = true := zOkN_app (n := 2) (fin := 13) (by decide +kernel) k47_13
theorem k47_0 : zOk 47 0 c47_0 = true := zOkN_app (n := 5) (fin := 8) (by decide +kernel) k47_8
theorem k47_53 : zOk 47 53 c47_53 = true := by decide +kernel
theorem k47_45 : zOk 47 45 c47_45 = true := zOkN_app (n := 4) (fin := 53) (by decide +kernel) k47_53
theorem k47_66 : zOk 47 66 c47_66 = true := by decide +kernel
theorem k47_60 : zOk 47 60 c47_60 = true := zOkN_app (n := 4) (fin := 66) (by decide +kernel) k47_66
theorem ok47 : zOkM 47 = true := (allc (q := (0, c47_0)) k47_0 (allc (q := (8, c47_8)) k47_8 (allc (q := (45, c47_45)) k47_45 (allc (q := (60, c47_60)) k47_60 (allc (q := (66, c47_66)) k47_66 (alln))))) : b47.all (fun q => zOk 47 q.1 q.2) = true)
theorem k48_21 : zOk 48 21 c48_21 = true := by decide +kernel
theorem k48_7 : zOk 48 7 c48_7 = true := zOkN_app (n := 8) (fin := 21) (by decide +kernel) k48_21
theorem k48_0 : zOk 48 0 c48_0 = true := zOkN_app (n := 3) (fin := 7) (by decide +kernel) k48_7
theorem k48_50 : zOk 48 50 c48_50 = true := by decide +kernel
theorem k48_41 : zOk 48 41 c48_41 = true := zOkN_app (n := 5) (fin := 50) (by decide +kernel) k48_50
theorem k48_37 : zOk 48 37 c48_37 = true := zOkN_app (n := 2) (fin := 41) (by decide +kernel) k48_41
theorem k48_22 : zOk 48 22 c48_22 = true := zOkN_app (n := 9) (fin := 37) (by decide +kernel) k48_37
theorem k48_62 : zOk 48 62 c48_62 = true := by decide +kernel
theorem k48_61 : zOk 48 61 c48_61 = true := zOkN_app (n := 1) (fin := 62) (by decide +kernel) k48_62
theorem k48_82 : zOk 48 82 c48_82 = true := by decide +kernel
theorem ok48 : zOkM 48 = true := (allc (q := (0, c48_0)) k48_0 (allc (q := (21, c48_21)) k48_21 (allc (q := (22, c48_22)) k48_22 (allc (q := (37, c48_37)) k48_37 (allc (q := (61, c48_61)) k48_61 (allc (q := (62, c48_62)) k48_62 (allc (q := (82, c48_82)) k48_82 (alln))))))) : b48.all (fun q => zOk 48 q.1 q.2) = true)
theorem k49_6 : zOk 49 6 c49_6 = true := by decide +kernel
theorem k49_0 : zOk 49 0 c49_0 = true := zOkN_app (n := 4) (fin := 6) (by decide +kernel) k49_6
theorem k49_31 : zOk 49 31 c49_31 = true := by decide +kernel
theorem k49_25 : zOk 49 25 c49_25 = true := zOkN_app (n := 3) (fin := 31) (by decide +kernel) k49_31
theorem k49_17 : zOk 49 17 c49_17 = true := zOkN_app (n := 5) (fin := 25) (by decide +kernel) k49_25
theorem k49_9 : zOk 49 9 c49_9 = true := zOkN_app (n := 4) (fin := 17) (by decide +kernel) k49_17
theorem k49_7 : zOk 49 7 c49_7 = true := zOkN_app (n := 2) (fin := 9) (by decide +kernel) k49_9
theorem k49_65 : zOk 49 65 c49_65 = true := by decide +kernel
theorem k49_71 : zOk 49 71 c49_71 = true := by decide +kernel
theorem ok49 : zOkM 49 = true := (allc (q := (0, c49_0)) k49_0 (allc (q := (7, c49_7)) k49_7 (allc (q := (9, c49_9)) k49_9 (allc (q := (25, c49_25)) k49_25 (allc (q := (65, c49_65)) k49_65 (allc (q := (71, c49_71)) k49_71 (alln)))))) : b49.all (fun q => zOk 49 q.1 q.2) = true)
theorem k50_57 : zOk 50 57 c50_57 = true := by decide +kernel
theorem k50_52 : zOk 50 52 c50_52 = true := zOkN_app (n := 3) (fin := 57) (by decide +kernel) k50_57
theorem k50_47 : zOk 50 47 c50_47 = true := zOkN_app (n := 3) (fin := 52) (by decide +kernel) k50_52
theorem k50_39 : zOk 50 39 c50_39 = true := zOkN_app (n := 4) (fin := 47) (by decide +kernel) k50_47
theorem k50_28 : zOk 50 28 c50_28 = true := zOkN_app (n := 5) (fin := 39) (by decide +kernel) k50_39
theorem k50_19 : zOk 50 19 c50_19 = true := zOkN_app (n := 4) (fin := 28) (by decide +kernel) k50_28
theorem k50_15 : zOk 50 15 c50_15 = true := zOkN_app (n := 2) (fin := 19) (by decide +kernel) k50_19
theorem k50_0 : zOk 50 0 c50_0 = true := zOkN_app (n := 7) (fin := 15) (by decide +kernel) k50_15
theorem ok50 : zOkM 50 = true := (allc (q := (0, c50_0)) k50_0 (alln) : b50.all (fun q => zOk 50 q.1 q.2) = true)
theorem k51_0 : zOk 51 0 c51_0 = true := by decide +kernel
theorem ok51 : zOkM 51 = true := (allc (q := (0, c51_0)) k51_0 (alln) : b51.all (fun q => zOk 51 q.1 q.2) = true)
theorem k52_10 : zOk 52 10 c52_10 = true := by decide +kernel
theorem k52_2 : zOk 52 2 c52_2 = true := zOkN_app (n := 4) (fin := 10) (by decide +kernel) k52_10
theorem k52_0 : zOk 52 0 c52_0 = true := zOkN_app (n := 2) (fin := 2) (by decide +kernel) k52_2
theorem k52_113 : zOk 52 113 c52_113 = true := by decide +kernel
theorem k52_91 : zOk 52 91 c52_91 = true := zOkN_app (n := 16) (fin := 113) (by decide +kernel) k52_113
theorem k52_68 : zOk 52 68 c52_68 = true := zOkN_app (n := 13) (fin := 91) (by decide +kernel) k52_91
theorem k52_59 : zOk 52 59 c52_59 = true := zOkN_app (n := 4) (fin := 68) (by decide +kernel) k52_68
theorem k52_38 : zOk 52 38 c52_38 = true := zOkN_app (n := 16) (fin := 59) (by decide +kernel) k52_59
theorem k52_30 : zOk 52 30 c52_30 = true := zOkN_app (n := 4) (fin := 38) (by decide +kernel) k52_38
theorem k52_28 : zOk 52 28 c52_28 = true := zOkN_app (n := 2) (fin := 30) (by decide +kernel) k52_30
theorem k52_142 : zOk 52 142 c52_142 = true := by decide +kernel
theorem k52_148 : zOk 52 148 c52_148 = true := by decide +kernel
theorem ok52 : zOkM 52 = true := (allc (q := (0, c52_0)) k52_0 (allc (q := (2, c52_2)) k52_2 (allc (q := (28, c52_28)) k52_28 (allc (q := (30, c52_30)) k52_30 (allc (q := (59, c52_59)) k52_59 (allc (q := (113, c52_113)) k52_113 (allc (q := (142, c52_142)) k52_142 (allc (q := (148, c52_148)) k52_148 (alln)))))))) : b52.all (fun q => zOk 52 q.1 q.2) = true)
theorem k53_26 : zOk 53 26 c53_26 = true := by decide +kernel
theorem k53_17 : zOk 53 17 c53_17 = true := zOkN_app (n := 4) (fin := 26) (by decide +kernel) k53_26
theorem k53_14 : zOk 53 14 c53_14 = true := zOkN_app (n := 2) (fin := 17) (by decide +kernel) k53_17
theorem k53_6 : zOk 53 6 c53_6 = true := zOkN_app (n := 4) (fin := 14) (by decide +kernel) k53_14
theorem k53_0 : zOk 53 0 c53_0 = true := zOkN_app (n := 4) (fin := 6) (by decide +kernel) k53_6
theorem k53_54 : zOk 53 54 c53_54 = true := by decide +kernel
theorem k53_70 : zOk 53 70 c53_70 = true := by decide +kernel
theorem ok53 : zOkM 53 = true := (allc (q := (0, c53_0)) k53_0 (allc (q := (6, c53_6)) k53_6 (allc (q := (17, c53_17)) k53_17 (allc (q := (54, c53_54)) k53_54 (allc (q := (70, c53_70)) k53_70 (alln))))) : b53.all (fun q => zOk 53 q.1 q.2) = true)
theorem k54_15 : zOk 54 15 c54_15 = true := by decide +kernel
theorem k54_9 : zOk 54 9 c54_9 = true := zOkN_app (n := 3) (fin := 15) (by decide +kernel) k54_15
theorem k54_0 : zOk 54 0 c54_0 = true := zOkN_app (n := 5) (fin := 9) (by decide +kernel) k54_9
theorem k54_63 : zOk 54 63 c54_63 = true := by decide +kernel
theorem k54_54 : zOk 54 54 c54_54 = true := zOkN_app (n := 4) (fin := 63) (by decide +kernel) k54_63
theorem k54_51 : zOk 54 51 c54_51 = true := zOkN_app (n := 2) (fin := 54) (by decide +kernel) k54_54
theorem k54_43 : zOk 54 43 c54_43 = true := zOkN_app (n := 4) (fin := 51) (by decide +kernel) k54_51
theorem k54_40 : zOk 54 40 c54_40 = true := zOkN_app (n := 2) (fin := 43) (by decide +kernel) k54_43
theorem k54_121 : zOk 54 121 c54_121 = true := by decide +kernel
theorem k54_141 : zOk 54 141 c54_141 = true := by decide +kernel
theorem k54_133 : zOk 54 133 c54_133 = true := zOkN_app (n := 4) (fin := 141) (by decide +kernel) k54_141
theorem k54_127 : zOk 54 127 c54_127 = true := zOkN_app (n := 4) (fin := 133) (by decide +kernel) k54_133
theorem k54_162 : zOk 54 162 c54_162 = true := by decide +kernel
theorem ok54 : zOkM 54 = true := (allc (q := (0, c54_0)) k54_0 (allc (q := (9, c54_9)) k54_9 (allc (q := (40, c54_40)) k54_40 (allc (q := (43, c54_43)) k54_43 (allc (q := (54, c54_54)) k54_54 (allc (q := (121, c54_121)) k54_121 (allc (q := (127, c54_127)) k54_127 (allc (q := (133, c54_133)) k54_133 (allc (q := (162, c54_162)) k54_162 (alln))))))))) : b54.all (fun q => zOk 54 q.1 q.2) = true)
theorem k55_29 : zOk 55 29 c55_29 = true := by decide +kernel
theorem k55_14 : zOk 55 14 c55_14 = true := zOkN_app (n := 9) (fin := 29) (by decide +kernel) k55_29
theorem k55_2 : zOk 55 2 c55_2 = true := zOkN_app (n := 8) (fin := 14) (by decide +kernel) k55_14
theorem k55_0 : zOk 55 0 c55_0 = true := zOkN_app (n := 2) (fin := 2) (by decide +kernel) k55_2
theorem k55_87 : zOk 55 87 c55_87 = true := by decide +kernel
theorem k55_79 : zOk 55 79 c55_79 = true := zOkN_app (n := 4) (fin := 87) (by decide +kernel) k55_87
theorem k55_74 : zOk 55 74 c55_74 = true := zOkN_app (n := 3) (fin := 79) (by decide +kernel) k55_79
theorem k55_72 : zOk 55 72 c55_72 = true := zOkN_app (n := 2) (fin := 74) (by decide +kernel) k55_74
theorem k55_54 : zOk 55 54 c55_54 = true := zOkN_app (n := 12) (fin := 72) (by decide +kernel) k55_72
theorem k55_46 : zOk 55 46 c55_46 = true := zOkN_app (n := 4) (fin := 54) (by decide +kernel) k55_54
theorem k55_117 : zOk 55 117 c55_117 = true := by decide +kernel
theorem k55_174 : zOk 55 174 c55_174 = true := by decide +kernel
theorem k55_153 : zOk 55 153 c55_153 = true := zOkN_app (n := 15) (fin := 174) (by decide +kernel) k55_174
theorem k55_143 : zOk 55 143 c55_143 = true := zOkN_app (n := 6) (fin := 153) (by decide +kernel) k55_153
theorem k55_133 : zOk 55 133 c55_133 = true := zOkN_app (n := 6) (fin := 143) (by decide +kernel) k55_143
theorem k55_131 : zOk 55 131 c55_131 = true := zOkN_app (n := 2) (fin := 133) (by decide +kernel) k55_133
theorem k55_180 : zOk 55 180 c55_180 = true := by decide +kernel
theorem ok55 : zOkM 55 = true := (allc (q := (0, c55_0)) k55_0 (allc (q := (2, c55_2)) k55_2 (allc (q := (46, c55_46)) k55_46 (allc (q := (72, c55_72)) k55_72 (allc (q := (74, c55_74)) k55_74 (allc (q := (117, c55_117)) k55_117 (allc (q := (131, c55_131)) k55_131 (allc (q := (133, c55_133)) k55_133 (allc (q := (174, c55_174)) k55_174 (allc (q := (180, c55_180)) k55_180 (alln)))))))))) : b55.all (fun q => zOk 55 q.1 q.2) = true)
theorem k56_68 : zOk 56 68 c56_68 = true := by decide +kernel
theorem k56_57 : zOk 56 57 c56_57 = true := zOkN_app (n := 8) (fin := 68) (by decide +kernel) k56_68
theorem k56_43 : zOk 56 43 c56_43 = true := zOkN_app (n := 8) (fin := 57) (by decide +kernel) k56_57
theorem k56_38 : zOk 56 38 c56_38 = true := zOkN_app (n := 3) (fin := 43) (by decide +kernel) k56_43
theorem k56_31 : zOk 56 31 c56_31 = true := zOkN_app (n := 5) (fin := 38) (by decide +kernel) k56_38
theorem k56_25 : zOk 56 25 c56_25 = true := zOkN_app (n := 3) (fin := 31) (by decide +kernel) k56_31
theorem k56_23 : zOk 56 23 c56_23 = true := zOkN_app (n := 2) (fin := 25) (by decide +kernel) k56_25
theorem k56_18 : zOk 56 18 c56_18 = true := zOkN_app (n := 3) (fin := 23) (by decide +kernel) k56_23
theorem k56_13 : zOk 56 13 c56_13 = true := zOkN_app (n := 3) (fin := 18) (by decide +kernel) k56_18
theorem k56_10 : zOk 56 10 c56_10 = true := zOkN_app (n := 1) (fin := 13) (by decide +kernel) k56_13
theorem k56_0 : zOk 56 0 c56_0 = true := zOkN_app (n := 5) (fin := 10) (by decide +kernel) k56_10
theorem k56_74 : zOk 56 74 c56_74 = true := by decide +kernel
theorem k56_80 : zOk 56 80 c56_80 = true := by decide +kernel
theorem ok56 : zOkM 56 = true := (allc (q := (0, c56_0)) k56_0 (allc (q := (25, c56_25)) k56_25 (allc (q := (38, c56_38)) k56_38 (allc (q := (74, c56_74)) k56_74 (allc (q := (80, c56_80)) k56_80 (alln))))) : b56.all (fun q => zOk 56 q.1 q.2) = true)
theorem k57_0 : zOk 57 0 c57_0 = true := by decide +kernel
theorem ok57 : zOkM 57 = true := (allc (q := (0, c57_0)) k57_0 (alln) : b57.all (fun q => zOk 57 q.1 q.2) = true)
theorem k58_45 : zOk 58 45 c58_45 = true := by decide +kernel
theorem k58_36 : zOk 58 36 c58_36 = true := zOkN_app (n := 5) (fin := 45) (by decide +kernel) k58_45
theorem k58_24 : zOk 58 24 c58_24 = true := zOkN_app (n := 7) (fin := 36) (by decide +kernel) k58_36
theorem k58_13 : zOk 58 13 c58_13 = true := zOkN_app (n := 6) (fin := 24) (by decide +kernel) k58_24
theorem k58_0 : zOk 58 0 c58_0 = true := zOkN_app (n := 8) (fin := 13) (by decide +kernel) k58_13
theorem k58_110 : zOk 58 110 c58_110 = true := by decide +kernel
theorem k58_91 : zOk 58 91 c58_91 = true := zOkN_app (n := 12) (fin := 110) (by decide +kernel) k58_110
theorem k58_80 : zOk 58 80 c58_80 = true := zOkN_app (n := 7) (fin := 91) (by decide +kernel) k58_91
theorem k58_71 : zOk 58 71 c58_71 = true := zOkN_app (n := 4) (fin := 80) (by decide +kernel) k58_80
theorem k58_68 : zOk 58 68 c58_68 = true := zOkN_app (n := 2) (fin := 71) (by decide +kernel) k58_71
theorem k58_128 : zOk 58 128 c58_128 = true := by decide +kernel
theorem k58_119 : zOk 58 119 c58_119 = true := zOkN_app (n := 5) (fin := 128) (by decide +kernel) k58_128
theorem k58_116 : zOk 58 116 c58_116 = true := zOkN_app (n := 2) (fin := 119) (by decide +kernel) k58_119
theorem k58_155 : zOk 58 155 c58_155 = true := by decide +kernel
theorem k58_161 : zOk 58 161 c58_161 = true := by decide +kernel
theorem ok58 : zOkM 58 = true := (allc (q := (0, c58_0)) k58_0 (allc (q := (13, c58_13)) k58_13 (allc (q := (36, c58_36)) k58_36 (allc (q := (68, c58_68)) k58_68 (allc (q := (71, c58_71)) k58_71 (allc (q := (110, c58_110)) k58_110 (allc (q := (116, c58_116)) k58_116 (allc (q := (119, c58_119)) k58_119 (allc (q := (155, c58_155)) k58_155 (allc (q := (161, c58_161)) k58_161 (alln)))))))))) : b58.all (fun q => zOk 58 q.1 q.2) = true)
theorem k59_20 : zOk 59 20 c59_20 = true := by decide +kernel
theorem k59_0 : zOk 59 0 c59_0 = true := zOkN_app (n := 15) (fin := 20) (by decide +kernel) k59_20
theorem k59_103 : zOk 59 103 c59_103 = true := by decide +kernel
theorem k59_80 : zOk 59 80 c59_80 = true := zOkN_app (n := 14) (fin := 103) (by decide +kernel) k59_103
theorem k59_36 : zOk 59 36 c59_36 = true := zOkN_app (n := 25) (fin := 80) (by decide +kernel) k59_80
theorem k59_30 : zOk 59 30 c59_30 = true := zOkN_app (n := 3) (fin := 36) (by decide +kernel) k59_36
theorem k59_25 : zOk 59 25 c59_25 = true := zOkN_app (n := 3) (fin := 30) (by decide +kernel) k59_30
theorem k59_24 : zOk 59 24 c59_24 = true := zOkN_app (n := 1) (fin := 25) (by decide +kernel) k59_25
theorem k59_109 : zOk 59 109 c59_109 = true := by decide +kernel
theorem ok59 : zOkM 59 = true := (allc (q := (0, c59_0)) k59_0 (allc (q := (24, c59_24)) k59_24 (allc (q := (25, c59_25)) k59_25 (allc (q := (30, c59_30)) k59_30 (allc (q := (103, c59_103)) k59_103 (allc (q := (109, c59_109)) k59_109 (alln)))))) : b59.all (fun q => zOk 59 q.1 q.2) = true)
