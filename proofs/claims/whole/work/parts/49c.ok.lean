set_option maxRecDepth 100000
theorem k130_11 : zOk 130 11 c130_11 = true := by decide +kernel
theorem k130_0 : zOk 130 0 c130_0 = true := zOkN_app (n := 7) (fin := 11) (by decide +kernel) k130_11
theorem k130_31 : zOk 130 31 c130_31 = true := by decide +kernel
theorem k130_13 : zOk 130 13 c130_13 = true := zOkN_app (n := 10) (fin := 31) (by decide +kernel) k130_31
theorem k130_42 : zOk 130 42 c130_42 = true := by decide +kernel
theorem k130_33 : zOk 130 33 c130_33 = true := zOkN_app (n := 4) (fin := 42) (by decide +kernel) k130_42
theorem k130_45 : zOk 130 45 c130_45 = true := by decide +kernel
theorem ok130 : zOkM 130 = true := (allc (q := (0, c130_0)) k130_0 (allc (q := (13, c130_13)) k130_13 (allc (q := (33, c130_33)) k130_33 (allc (q := (45, c130_45)) k130_45 (alln)))) : b130.all (fun q => zOk 130 q.1 q.2) = true)
theorem k131_11 : zOk 131 11 c131_11 = true := by decide +kernel
theorem k131_0 : zOk 131 0 c131_0 = true := zOkN_app (n := 7) (fin := 11) (by decide +kernel) k131_11
theorem k131_31 : zOk 131 31 c131_31 = true := by decide +kernel
theorem k131_13 : zOk 131 13 c131_13 = true := zOkN_app (n := 10) (fin := 31) (by decide +kernel) k131_31
theorem k131_37 : zOk 131 37 c131_37 = true := by decide +kernel
theorem k131_35 : zOk 131 35 c131_35 = true := zOkN_app (n := 1) (fin := 37) (by decide +kernel) k131_37
theorem ok131 : zOkM 131 = true := (allc (q := (0, c131_0)) k131_0 (allc (q := (13, c131_13)) k131_13 (allc (q := (35, c131_35)) k131_35 (allc (q := (37, c131_37)) k131_37 (alln)))) : b131.all (fun q => zOk 131 q.1 q.2) = true)
theorem k132_10 : zOk 132 10 c132_10 = true := by decide +kernel
theorem k132_0 : zOk 132 0 c132_0 = true := zOkN_app (n := 4) (fin := 10) (by decide +kernel) k132_10
theorem k132_32 : zOk 132 32 c132_32 = true := by decide +kernel
theorem k132_25 : zOk 132 25 c132_25 = true := zOkN_app (n := 3) (fin := 32) (by decide +kernel) k132_32
theorem k132_17 : zOk 132 17 c132_17 = true := zOkN_app (n := 4) (fin := 25) (by decide +kernel) k132_25
theorem k132_13 : zOk 132 13 c132_13 = true := zOkN_app (n := 2) (fin := 17) (by decide +kernel) k132_17
theorem k132_34 : zOk 132 34 c132_34 = true := by decide +kernel
theorem ok132 : zOkM 132 = true := (allc (q := (0, c132_0)) k132_0 (allc (q := (13, c132_13)) k132_13 (allc (q := (32, c132_32)) k132_32 (allc (q := (34, c132_34)) k132_34 (alln)))) : b132.all (fun q => zOk 132 q.1 q.2) = true)
theorem k133_22 : zOk 133 22 c133_22 = true := by decide +kernel
theorem k133_16 : zOk 133 16 c133_16 = true := zOkN_app (n := 3) (fin := 22) (by decide +kernel) k133_22
theorem k133_11 : zOk 133 11 c133_11 = true := zOkN_app (n := 3) (fin := 16) (by decide +kernel) k133_16
theorem k133_7 : zOk 133 7 c133_7 = true := zOkN_app (n := 2) (fin := 11) (by decide +kernel) k133_11
theorem k133_0 : zOk 133 0 c133_0 = true := zOkN_app (n := 3) (fin := 7) (by decide +kernel) k133_7
theorem k133_28 : zOk 133 28 c133_28 = true := by decide +kernel
theorem k133_24 : zOk 133 24 c133_24 = true := zOkN_app (n := 2) (fin := 28) (by decide +kernel) k133_28
theorem k133_31 : zOk 133 31 c133_31 = true := by decide +kernel
theorem ok133 : zOkM 133 = true := (allc (q := (0, c133_0)) k133_0 (allc (q := (22, c133_22)) k133_22 (allc (q := (24, c133_24)) k133_24 (allc (q := (31, c133_31)) k133_31 (alln)))) : b133.all (fun q => zOk 133 q.1 q.2) = true)
theorem k134_12 : zOk 134 12 c134_12 = true := by decide +kernel
theorem k134_0 : zOk 134 0 c134_0 = true := zOkN_app (n := 6) (fin := 12) (by decide +kernel) k134_12
theorem k134_36 : zOk 134 36 c134_36 = true := by decide +kernel
theorem k134_27 : zOk 134 27 c134_27 = true := zOkN_app (n := 4) (fin := 36) (by decide +kernel) k134_36
theorem k134_15 : zOk 134 15 c134_15 = true := zOkN_app (n := 7) (fin := 27) (by decide +kernel) k134_27
theorem k134_55 : zOk 134 55 c134_55 = true := by decide +kernel
theorem k134_47 : zOk 134 47 c134_47 = true := zOkN_app (n := 6) (fin := 55) (by decide +kernel) k134_55
theorem k134_39 : zOk 134 39 c134_39 = true := zOkN_app (n := 3) (fin := 47) (by decide +kernel) k134_47
theorem k134_58 : zOk 134 58 c134_58 = true := by decide +kernel
theorem ok134 : zOkM 134 = true := (allc (q := (0, c134_0)) k134_0 (allc (q := (15, c134_15)) k134_15 (allc (q := (36, c134_36)) k134_36 (allc (q := (39, c134_39)) k134_39 (allc (q := (58, c134_58)) k134_58 (alln))))) : b134.all (fun q => zOk 134 q.1 q.2) = true)
theorem k135_7 : zOk 135 7 c135_7 = true := by decide +kernel
theorem k135_0 : zOk 135 0 c135_0 = true := zOkN_app (n := 3) (fin := 7) (by decide +kernel) k135_7
theorem k135_45 : zOk 135 45 c135_45 = true := by decide +kernel
theorem k135_37 : zOk 135 37 c135_37 = true := zOkN_app (n := 4) (fin := 45) (by decide +kernel) k135_45
theorem k135_33 : zOk 135 33 c135_33 = true := zOkN_app (n := 2) (fin := 37) (by decide +kernel) k135_37
theorem k135_18 : zOk 135 18 c135_18 = true := zOkN_app (n := 9) (fin := 33) (by decide +kernel) k135_33
theorem k135_56 : zOk 135 56 c135_56 = true := by decide +kernel
theorem ok135 : zOkM 135 = true := (allc (q := (0, c135_0)) k135_0 (allc (q := (18, c135_18)) k135_18 (allc (q := (45, c135_45)) k135_45 (allc (q := (56, c135_56)) k135_56 (alln)))) : b135.all (fun q => zOk 135 q.1 q.2) = true)
theorem k136_14 : zOk 136 14 c136_14 = true := by decide +kernel
theorem k136_7 : zOk 136 7 c136_7 = true := zOkN_app (n := 3) (fin := 14) (by decide +kernel) k136_14
theorem k136_0 : zOk 136 0 c136_0 = true := zOkN_app (n := 3) (fin := 7) (by decide +kernel) k136_7
theorem k136_48 : zOk 136 48 c136_48 = true := by decide +kernel
theorem k136_40 : zOk 136 40 c136_40 = true := zOkN_app (n := 3) (fin := 48) (by decide +kernel) k136_48
theorem k136_16 : zOk 136 16 c136_16 = true := zOkN_app (n := 13) (fin := 40) (by decide +kernel) k136_40
theorem k136_82 : zOk 136 82 c136_82 = true := by decide +kernel
theorem k136_69 : zOk 136 69 c136_69 = true := zOkN_app (n := 5) (fin := 82) (by decide +kernel) k136_82
theorem k136_60 : zOk 136 60 c136_60 = true := zOkN_app (n := 4) (fin := 69) (by decide +kernel) k136_69
theorem k136_51 : zOk 136 51 c136_51 = true := zOkN_app (n := 4) (fin := 60) (by decide +kernel) k136_60
theorem k136_124 : zOk 136 124 c136_124 = true := by decide +kernel
theorem k136_111 : zOk 136 111 c136_111 = true := zOkN_app (n := 6) (fin := 124) (by decide +kernel) k136_124
theorem k136_99 : zOk 136 99 c136_99 = true := zOkN_app (n := 6) (fin := 111) (by decide +kernel) k136_111
theorem k136_94 : zOk 136 94 c136_94 = true := zOkN_app (n := 2) (fin := 99) (by decide +kernel) k136_99
theorem k136_90 : zOk 136 90 c136_90 = true := zOkN_app (n := 2) (fin := 94) (by decide +kernel) k136_94
theorem k136_85 : zOk 136 85 c136_85 = true := zOkN_app (n := 2) (fin := 90) (by decide +kernel) k136_90
theorem k136_127 : zOk 136 127 c136_127 = true := by decide +kernel
theorem ok136 : zOkM 136 = true := (allc (q := (0, c136_0)) k136_0 (allc (q := (14, c136_14)) k136_14 (allc (q := (16, c136_16)) k136_16 (allc (q := (48, c136_48)) k136_48 (allc (q := (51, c136_51)) k136_51 (allc (q := (82, c136_82)) k136_82 (allc (q := (85, c136_85)) k136_85 (allc (q := (124, c136_124)) k136_124 (allc (q := (127, c136_127)) k136_127 (alln))))))))) : b136.all (fun q => zOk 136 q.1 q.2) = true)
theorem k137_10 : zOk 137 10 c137_10 = true := by decide +kernel
theorem k137_0 : zOk 137 0 c137_0 = true := zOkN_app (n := 4) (fin := 10) (by decide +kernel) k137_10
theorem k137_20 : zOk 137 20 c137_20 = true := by decide +kernel
theorem k137_13 : zOk 137 13 c137_13 = true := zOkN_app (n := 3) (fin := 20) (by decide +kernel) k137_20
theorem k137_32 : zOk 137 32 c137_32 = true := by decide +kernel
theorem k137_22 : zOk 137 22 c137_22 = true := zOkN_app (n := 6) (fin := 32) (by decide +kernel) k137_32
theorem k137_79 : zOk 137 79 c137_79 = true := by decide +kernel
theorem k137_72 : zOk 137 72 c137_72 = true := zOkN_app (n := 3) (fin := 79) (by decide +kernel) k137_79
theorem k137_34 : zOk 137 34 c137_34 = true := zOkN_app (n := 19) (fin := 72) (by decide +kernel) k137_72
theorem k137_126 : zOk 137 126 c137_126 = true := by decide +kernel
theorem ok137 : zOkM 137 = true := (allc (q := (0, c137_0)) k137_0 (allc (q := (13, c137_13)) k137_13 (allc (q := (22, c137_22)) k137_22 (allc (q := (34, c137_34)) k137_34 (allc (q := (72, c137_72)) k137_72 (allc (q := (126, c137_126)) k137_126 (alln)))))) : b137.all (fun q => zOk 137 q.1 q.2) = true)
theorem k138_10 : zOk 138 10 c138_10 = true := by decide +kernel
theorem k138_0 : zOk 138 0 c138_0 = true := zOkN_app (n := 4) (fin := 10) (by decide +kernel) k138_10
theorem k138_27 : zOk 138 27 c138_27 = true := by decide +kernel
theorem k138_20 : zOk 138 20 c138_20 = true := zOkN_app (n := 3) (fin := 27) (by decide +kernel) k138_27
theorem k138_13 : zOk 138 13 c138_13 = true := zOkN_app (n := 3) (fin := 20) (by decide +kernel) k138_20
theorem k138_59 : zOk 138 59 c138_59 = true := by decide +kernel
theorem k138_51 : zOk 138 51 c138_51 = true := zOkN_app (n := 3) (fin := 59) (by decide +kernel) k138_59
theorem k138_29 : zOk 138 29 c138_29 = true := zOkN_app (n := 13) (fin := 51) (by decide +kernel) k138_51
theorem k138_89 : zOk 138 89 c138_89 = true := by decide +kernel
theorem k138_80 : zOk 138 80 c138_80 = true := zOkN_app (n := 4) (fin := 89) (by decide +kernel) k138_89
theorem k138_70 : zOk 138 70 c138_70 = true := zOkN_app (n := 4) (fin := 80) (by decide +kernel) k138_80
theorem k138_62 : zOk 138 62 c138_62 = true := zOkN_app (n := 4) (fin := 70) (by decide +kernel) k138_70
theorem k138_122 : zOk 138 122 c138_122 = true := by decide +kernel
theorem k138_115 : zOk 138 115 c138_115 = true := zOkN_app (n := 3) (fin := 122) (by decide +kernel) k138_122
theorem k138_92 : zOk 138 92 c138_92 = true := zOkN_app (n := 11) (fin := 115) (by decide +kernel) k138_115
theorem k138_158 : zOk 138 158 c138_158 = true := by decide +kernel
theorem ok138 : zOkM 138 = true := (allc (q := (0, c138_0)) k138_0 (allc (q := (13, c138_13)) k138_13 (allc (q := (27, c138_27)) k138_27 (allc (q := (29, c138_29)) k138_29 (allc (q := (59, c138_59)) k138_59 (allc (q := (62, c138_62)) k138_62 (allc (q := (89, c138_89)) k138_89 (allc (q := (92, c138_92)) k138_92 (allc (q := (115, c138_115)) k138_115 (allc (q := (158, c138_158)) k138_158 (alln)))))))))) : b138.all (fun q => zOk 138 q.1 q.2) = true)
theorem k139_7 : zOk 139 7 c139_7 = true := by decide +kernel
theorem k139_0 : zOk 139 0 c139_0 = true := zOkN_app (n := 3) (fin := 7) (by decide +kernel) k139_7
theorem k139_21 : zOk 139 21 c139_21 = true := by decide +kernel
theorem k139_9 : zOk 139 9 c139_9 = true := zOkN_app (n := 6) (fin := 21) (by decide +kernel) k139_21
theorem k139_41 : zOk 139 41 c139_41 = true := by decide +kernel
theorem k139_26 : zOk 139 26 c139_26 = true := zOkN_app (n := 9) (fin := 41) (by decide +kernel) k139_41
theorem k139_25 : zOk 139 25 c139_25 = true := zOkN_app (n := 1) (fin := 26) (by decide +kernel) k139_26
theorem k139_46 : zOk 139 46 c139_46 = true := by decide +kernel
theorem k139_45 : zOk 139 45 c139_45 = true := zOkN_app (n := 1) (fin := 46) (by decide +kernel) k139_46
theorem ok139 : zOkM 139 = true := (allc (q := (0, c139_0)) k139_0 (allc (q := (9, c139_9)) k139_9 (allc (q := (25, c139_25)) k139_25 (allc (q := (26, c139_26)) k139_26 (allc (q := (45, c139_45)) k139_45 (allc (q := (46, c139_46)) k139_46 (alln)))))) : b139.all (fun q => zOk 139 q.1 q.2) = true)
theorem k140_0 : zOk 140 0 c140_0 = true := by decide +kernel
theorem ok140 : zOkM 140 = true := (allc (q := (0, c140_0)) k140_0 (alln) : b140.all (fun q => zOk 140 q.1 q.2) = true)
theorem k141_7 : zOk 141 7 c141_7 = true := by decide +kernel
theorem k141_0 : zOk 141 0 c141_0 = true := zOkN_app (n := 3) (fin := 7) (by decide +kernel) k141_7
theorem k141_10 : zOk 141 10 c141_10 = true := by decide +kernel
theorem ok141 : zOkM 141 = true := (allc (q := (0, c141_0)) k141_0 (allc (q := (10, c141_10)) k141_10 (alln)) : b141.all (fun q => zOk 141 q.1 q.2) = true)
theorem k142_44 : zOk 142 44 c142_44 = true := by decide +kernel
theorem k142_0 : zOk 142 0 c142_0 = true := zOkN_app (n := 2) (fin := 44) (by decide +kernel) k142_44
theorem k142_52 : zOk 142 52 c142_52 = true := by decide +kernel
theorem k142_70 : zOk 142 70 c142_70 = true := by decide +kernel
theorem k142_60 : zOk 142 60 c142_60 = true := zOkN_app (n := 4) (fin := 70) (by decide +kernel) k142_70
theorem k142_81 : zOk 142 81 c142_81 = true := by decide +kernel
theorem k142_74 : zOk 142 74 c142_74 = true := zOkN_app (n := 3) (fin := 81) (by decide +kernel) k142_81
theorem k142_82 : zOk 142 82 c142_82 = true := by decide +kernel
theorem k142_90 : zOk 142 90 c142_90 = true := by decide +kernel
theorem k142_96 : zOk 142 96 c142_96 = true := by decide +kernel
theorem k142_102 : zOk 142 102 c142_102 = true := by decide +kernel
theorem k142_107 : zOk 142 107 c142_107 = true := by decide +kernel
theorem ok142 : zOkM 142 = true := (allc (q := (0, c142_0)) k142_0 (allc (q := (44, c142_44)) k142_44 (allc (q := (52, c142_52)) k142_52 (allc (q := (60, c142_60)) k142_60 (allc (q := (74, c142_74)) k142_74 (allc (q := (81, c142_81)) k142_81 (allc (q := (82, c142_82)) k142_82 (allc (q := (90, c142_90)) k142_90 (allc (q := (96, c142_96)) k142_96 (allc (q := (102, c142_102)) k142_102 (allc (q := (107, c142_107)) k142_107 (alln))))))))))) : b142.all (fun q => zOk 142 q.1 q.2) = true)
theorem k143_15 : zOk 143 15 c143_15 = true := by decide +kernel
theorem k143_4 : zOk 143 4 c143_4 = true := zOkN_app (n := 5) (fin := 15) (by decide +kernel) k143_15
theorem k143_0 : zOk 143 0 c143_0 = true := zOkN_app (n := 2) (fin := 4) (by decide +kernel) k143_4
theorem k143_20 : zOk 143 20 c143_20 = true := by decide +kernel
theorem k143_19 : zOk 143 19 c143_19 = true := zOkN_app (n := 1) (fin := 20) (by decide +kernel) k143_20
theorem ok143 : zOkM 143 = true := (allc (q := (0, c143_0)) k143_0 (allc (q := (19, c143_19)) k143_19 (allc (q := (20, c143_20)) k143_20 (alln))) : b143.all (fun q => zOk 143 q.1 q.2) = true)
theorem k144_15 : zOk 144 15 c144_15 = true := by decide +kernel
theorem k144_4 : zOk 144 4 c144_4 = true := zOkN_app (n := 5) (fin := 15) (by decide +kernel) k144_15
theorem k144_0 : zOk 144 0 c144_0 = true := zOkN_app (n := 2) (fin := 4) (by decide +kernel) k144_4
theorem k144_20 : zOk 144 20 c144_20 = true := by decide +kernel
theorem k144_19 : zOk 144 19 c144_19 = true := zOkN_app (n := 1) (fin := 20) (by decide +kernel) k144_20
theorem ok144 : zOkM 144 = true := (allc (q := (0, c144_0)) k144_0 (allc (q := (19, c144_19)) k144_19 (allc (q := (20, c144_20)) k144_20 (alln))) : b144.all (fun q => zOk 144 q.1 q.2) = true)
theorem k145_36 : zOk 145 36 c145_36 = true := by decide +kernel
theorem k145_12 : zOk 145 12 c145_12 = true := zOkN_app (n := 12) (fin := 36) (by decide +kernel) k145_36
theorem k145_8 : zOk 145 8 c145_8 = true := zOkN_app (n := 2) (fin := 12) (by decide +kernel) k145_12
theorem k145_0 : zOk 145 0 c145_0 = true := zOkN_app (n := 4) (fin := 8) (by decide +kernel) k145_8
theorem k145_41 : zOk 145 41 c145_41 = true := by decide +kernel
theorem k145_40 : zOk 145 40 c145_40 = true := zOkN_app (n := 1) (fin := 41) (by decide +kernel) k145_41
theorem ok145 : zOkM 145 = true := (allc (q := (0, c145_0)) k145_0 (allc (q := (40, c145_40)) k145_40 (allc (q := (41, c145_41)) k145_41 (alln))) : b145.all (fun q => zOk 145 q.1 q.2) = true)
theorem k146_10 : zOk 146 10 c146_10 = true := by decide +kernel
theorem k146_4 : zOk 146 4 c146_4 = true := zOkN_app (n := 3) (fin := 10) (by decide +kernel) k146_10
theorem k146_0 : zOk 146 0 c146_0 = true := zOkN_app (n := 2) (fin := 4) (by decide +kernel) k146_4
theorem k146_15 : zOk 146 15 c146_15 = true := by decide +kernel
theorem k146_14 : zOk 146 14 c146_14 = true := zOkN_app (n := 1) (fin := 15) (by decide +kernel) k146_15
theorem ok146 : zOkM 146 = true := (allc (q := (0, c146_0)) k146_0 (allc (q := (14, c146_14)) k146_14 (allc (q := (15, c146_15)) k146_15 (alln))) : b146.all (fun q => zOk 146 q.1 q.2) = true)
theorem k147_10 : zOk 147 10 c147_10 = true := by decide +kernel
theorem k147_0 : zOk 147 0 c147_0 = true := zOkN_app (n := 4) (fin := 10) (by decide +kernel) k147_10
theorem k147_24 : zOk 147 24 c147_24 = true := by decide +kernel
theorem k147_20 : zOk 147 20 c147_20 = true := zOkN_app (n := 2) (fin := 24) (by decide +kernel) k147_24
theorem k147_13 : zOk 147 13 c147_13 = true := zOkN_app (n := 3) (fin := 20) (by decide +kernel) k147_20
theorem k147_40 : zOk 147 40 c147_40 = true := by decide +kernel
theorem k147_26 : zOk 147 26 c147_26 = true := zOkN_app (n := 8) (fin := 40) (by decide +kernel) k147_40
theorem k147_50 : zOk 147 50 c147_50 = true := by decide +kernel
theorem k147_45 : zOk 147 45 c147_45 = true := zOkN_app (n := 3) (fin := 50) (by decide +kernel) k147_50
theorem k147_56 : zOk 147 56 c147_56 = true := by decide +kernel
theorem k147_55 : zOk 147 55 c147_55 = true := zOkN_app (n := 1) (fin := 56) (by decide +kernel) k147_56
theorem ok147 : zOkM 147 = true := (allc (q := (0, c147_0)) k147_0 (allc (q := (13, c147_13)) k147_13 (allc (q := (24, c147_24)) k147_24 (allc (q := (26, c147_26)) k147_26 (allc (q := (45, c147_45)) k147_45 (allc (q := (55, c147_55)) k147_55 (allc (q := (56, c147_56)) k147_56 (alln))))))) : b147.all (fun q => zOk 147 q.1 q.2) = true)
theorem k148_10 : zOk 148 10 c148_10 = true := by decide +kernel
theorem k148_0 : zOk 148 0 c148_0 = true := zOkN_app (n := 4) (fin := 10) (by decide +kernel) k148_10
theorem k148_34 : zOk 148 34 c148_34 = true := by decide +kernel
theorem k148_27 : zOk 148 27 c148_27 = true := zOkN_app (n := 3) (fin := 34) (by decide +kernel) k148_34
theorem k148_20 : zOk 148 20 c148_20 = true := zOkN_app (n := 3) (fin := 27) (by decide +kernel) k148_27
theorem k148_13 : zOk 148 13 c148_13 = true := zOkN_app (n := 3) (fin := 20) (by decide +kernel) k148_20
theorem k148_68 : zOk 148 68 c148_68 = true := by decide +kernel
theorem k148_60 : zOk 148 60 c148_60 = true := zOkN_app (n := 3) (fin := 68) (by decide +kernel) k148_68
theorem k148_36 : zOk 148 36 c148_36 = true := zOkN_app (n := 13) (fin := 60) (by decide +kernel) k148_60
theorem k148_89 : zOk 148 89 c148_89 = true := by decide +kernel
theorem k148_80 : zOk 148 80 c148_80 = true := zOkN_app (n := 4) (fin := 89) (by decide +kernel) k148_89
theorem k148_71 : zOk 148 71 c148_71 = true := zOkN_app (n := 4) (fin := 80) (by decide +kernel) k148_80
theorem k148_133 : zOk 148 133 c148_133 = true := by decide +kernel
theorem k148_114 : zOk 148 114 c148_114 = true := zOkN_app (n := 7) (fin := 133) (by decide +kernel) k148_133
theorem k148_103 : zOk 148 103 c148_103 = true := zOkN_app (n := 4) (fin := 114) (by decide +kernel) k148_114
theorem k148_92 : zOk 148 92 c148_92 = true := zOkN_app (n := 4) (fin := 103) (by decide +kernel) k148_103
theorem k148_139 : zOk 148 139 c148_139 = true := by decide +kernel
theorem k148_138 : zOk 148 138 c148_138 = true := zOkN_app (n := 1) (fin := 139) (by decide +kernel) k148_139
theorem ok148 : zOkM 148 = true := (allc (q := (0, c148_0)) k148_0 (allc (q := (13, c148_13)) k148_13 (allc (q := (34, c148_34)) k148_34 (allc (q := (36, c148_36)) k148_36 (allc (q := (68, c148_68)) k148_68 (allc (q := (71, c148_71)) k148_71 (allc (q := (89, c148_89)) k148_89 (allc (q := (92, c148_92)) k148_92 (allc (q := (138, c148_138)) k148_138 (allc (q := (139, c148_139)) k148_139 (alln)))))))))) : b148.all (fun q => zOk 148 q.1 q.2) = true)
theorem k149_7 : zOk 149 7 c149_7 = true := by decide +kernel
theorem k149_0 : zOk 149 0 c149_0 = true := zOkN_app (n := 3) (fin := 7) (by decide +kernel) k149_7
theorem k149_23 : zOk 149 23 c149_23 = true := by decide +kernel
theorem k149_9 : zOk 149 9 c149_9 = true := zOkN_app (n := 8) (fin := 23) (by decide +kernel) k149_23
theorem k149_33 : zOk 149 33 c149_33 = true := by decide +kernel
theorem k149_28 : zOk 149 28 c149_28 = true := zOkN_app (n := 3) (fin := 33) (by decide +kernel) k149_33
theorem k149_39 : zOk 149 39 c149_39 = true := by decide +kernel
theorem k149_38 : zOk 149 38 c149_38 = true := zOkN_app (n := 1) (fin := 39) (by decide +kernel) k149_39
theorem ok149 : zOkM 149 = true := (allc (q := (0, c149_0)) k149_0 (allc (q := (9, c149_9)) k149_9 (allc (q := (28, c149_28)) k149_28 (allc (q := (38, c149_38)) k149_38 (allc (q := (39, c149_39)) k149_39 (alln))))) : b149.all (fun q => zOk 149 q.1 q.2) = true)
theorem k150_33 : zOk 150 33 c150_33 = true := by decide +kernel
theorem k150_0 : zOk 150 0 c150_0 = true := zOkN_app (n := 15) (fin := 33) (by decide +kernel) k150_33
theorem k150_36 : zOk 150 36 c150_36 = true := by decide +kernel
theorem ok150 : zOkM 150 = true := (allc (q := (0, c150_0)) k150_0 (allc (q := (36, c150_36)) k150_36 (alln)) : b150.all (fun q => zOk 150 q.1 q.2) = true)
theorem k151_41 : zOk 151 41 c151_41 = true := by decide +kernel
theorem k151_31 : zOk 151 31 c151_31 = true := zOkN_app (n := 6) (fin := 41) (by decide +kernel) k151_41
theorem k151_18 : zOk 151 18 c151_18 = true := zOkN_app (n := 7) (fin := 31) (by decide +kernel) k151_31
theorem k151_12 : zOk 151 12 c151_12 = true := zOkN_app (n := 3) (fin := 18) (by decide +kernel) k151_18
theorem k151_0 : zOk 151 0 c151_0 = true := zOkN_app (n := 8) (fin := 12) (by decide +kernel) k151_12
theorem k151_55 : zOk 151 55 c151_55 = true := by decide +kernel
theorem k151_49 : zOk 151 49 c151_49 = true := zOkN_app (n := 3) (fin := 55) (by decide +kernel) k151_55
theorem k151_47 : zOk 151 47 c151_47 = true := zOkN_app (n := 2) (fin := 49) (by decide +kernel) k151_49
theorem k151_71 : zOk 151 71 c151_71 = true := by decide +kernel
theorem ok151 : zOkM 151 = true := (allc (q := (0, c151_0)) k151_0 (allc (q := (12, c151_12)) k151_12 (allc (q := (41, c151_41)) k151_41 (allc (q := (47, c151_47)) k151_47 (allc (q := (49, c151_49)) k151_49 (allc (q := (71, c151_71)) k151_71 (alln)))))) : b151.all (fun q => zOk 151 q.1 q.2) = true)
theorem k152_55 : zOk 152 55 c152_55 = true := by decide +kernel
theorem k152_26 : zOk 152 26 c152_26 = true := zOkN_app (n := 17) (fin := 55) (by decide +kernel) k152_55
theorem k152_15 : zOk 152 15 c152_15 = true := zOkN_app (n := 5) (fin := 26) (by decide +kernel) k152_26
theorem k152_4 : zOk 152 4 c152_4 = true := zOkN_app (n := 5) (fin := 15) (by decide +kernel) k152_15
theorem k152_0 : zOk 152 0 c152_0 = true := zOkN_app (n := 4) (fin := 4) (by decide +kernel) k152_4
theorem k152_61 : zOk 152 61 c152_61 = true := by decide +kernel
theorem ok152 : zOkM 152 = true := (allc (q := (0, c152_0)) k152_0 (allc (q := (4, c152_4)) k152_4 (allc (q := (55, c152_55)) k152_55 (allc (q := (61, c152_61)) k152_61 (alln)))) : b152.all (fun q => zOk 152 q.1 q.2) = true)
theorem k153_13 : zOk 153 13 c153_13 = true := by decide +kernel
theorem k153_8 : zOk 153 8 c153_8 = true := zOkN_app (n := 3) (fin := 13) (by decide +kernel) k153_13
theorem k153_0 : zOk 153 0 c153_0 = true := zOkN_app (n := 4) (fin := 8) (by decide +kernel) k153_8
theorem ok153 : zOkM 153 = true := (allc (q := (0, c153_0)) k153_0 (allc (q := (13, c153_13)) k153_13 (alln)) : b153.all (fun q => zOk 153 q.1 q.2) = true)
theorem k154_24 : zOk 154 24 c154_24 = true := by decide +kernel
theorem k154_0 : zOk 154 0 c154_0 = true := zOkN_app (n := 10) (fin := 24) (by decide +kernel) k154_24
theorem k154_27 : zOk 154 27 c154_27 = true := by decide +kernel
theorem ok154 : zOkM 154 = true := (allc (q := (0, c154_0)) k154_0 (allc (q := (27, c154_27)) k154_27 (alln)) : b154.all (fun q => zOk 154 q.1 q.2) = true)
theorem k155_109 : zOk 155 109 c155_109 = true := by decide +kernel
theorem k155_8 : zOk 155 8 c155_8 = true := zOkN_app (n := 47) (fin := 109) (by decide +kernel) k155_109
theorem k155_0 : zOk 155 0 c155_0 = true := zOkN_app (n := 4) (fin := 8) (by decide +kernel) k155_8
theorem ok155 : zOkM 155 = true := (allc (q := (0, c155_0)) k155_0 (allc (q := (109, c155_109)) k155_109 (alln)) : b155.all (fun q => zOk 155 q.1 q.2) = true)
theorem k156_23 : zOk 156 23 c156_23 = true := by decide +kernel
theorem k156_10 : zOk 156 10 c156_10 = true := zOkN_app (n := 7) (fin := 23) (by decide +kernel) k156_23
theorem k156_2 : zOk 156 2 c156_2 = true := zOkN_app (n := 4) (fin := 10) (by decide +kernel) k156_10
theorem k156_0 : zOk 156 0 c156_0 = true := zOkN_app (n := 2) (fin := 2) (by decide +kernel) k156_2
theorem k156_25 : zOk 156 25 c156_25 = true := by decide +kernel
theorem k156_31 : zOk 156 31 c156_31 = true := by decide +kernel
theorem ok156 : zOkM 156 = true := (allc (q := (0, c156_0)) k156_0 (allc (q := (2, c156_2)) k156_2 (allc (q := (25, c156_25)) k156_25 (allc (q := (31, c156_31)) k156_31 (alln)))) : b156.all (fun q => zOk 156 q.1 q.2) = true)
theorem k157_29 : zOk 157 29 c157_29 = true := by decide +kernel
theorem k157_23 : zOk 157 23 c157_23 = true := zOkN_app (n := 6) (fin := 29) (by decide +kernel) k157_29
theorem k157_10 : zOk 157 10 c157_10 = true := zOkN_app (n := 7) (fin := 23) (by decide +kernel) k157_23
theorem k157_4 : zOk 157 4 c157_4 = true := zOkN_app (n := 3) (fin := 10) (by decide +kernel) k157_10
theorem k157_0 : zOk 157 0 c157_0 = true := zOkN_app (n := 4) (fin := 4) (by decide +kernel) k157_4
theorem k157_35 : zOk 157 35 c157_35 = true := by decide +kernel
theorem ok157 : zOkM 157 = true := (allc (q := (0, c157_0)) k157_0 (allc (q := (4, c157_4)) k157_4 (allc (q := (29, c157_29)) k157_29 (allc (q := (35, c157_35)) k157_35 (alln)))) : b157.all (fun q => zOk 157 q.1 q.2) = true)
theorem k158_9 : zOk 158 9 c158_9 = true := by decide +kernel
theorem k158_4 : zOk 158 4 c158_4 = true := zOkN_app (n := 3) (fin := 9) (by decide +kernel) k158_9
theorem k158_0 : zOk 158 0 c158_0 = true := zOkN_app (n := 2) (fin := 4) (by decide +kernel) k158_4
theorem k158_24 : zOk 158 24 c158_24 = true := by decide +kernel
theorem k158_16 : zOk 158 16 c158_16 = true := zOkN_app (n := 4) (fin := 24) (by decide +kernel) k158_24
theorem k158_11 : zOk 158 11 c158_11 = true := zOkN_app (n := 3) (fin := 16) (by decide +kernel) k158_16
theorem k158_29 : zOk 158 29 c158_29 = true := by decide +kernel
theorem k158_28 : zOk 158 28 c158_28 = true := zOkN_app (n := 1) (fin := 29) (by decide +kernel) k158_29
theorem k158_62 : zOk 158 62 c158_62 = true := by decide +kernel
theorem k158_55 : zOk 158 55 c158_55 = true := zOkN_app (n := 4) (fin := 62) (by decide +kernel) k158_62
theorem k158_49 : zOk 158 49 c158_49 = true := zOkN_app (n := 4) (fin := 55) (by decide +kernel) k158_55
theorem k158_30 : zOk 158 30 c158_30 = true := zOkN_app (n := 12) (fin := 49) (by decide +kernel) k158_49
theorem k158_66 : zOk 158 66 c158_66 = true := by decide +kernel
theorem k158_83 : zOk 158 83 c158_83 = true := by decide +kernel
theorem k158_76 : zOk 158 76 c158_76 = true := zOkN_app (n := 4) (fin := 83) (by decide +kernel) k158_83
theorem k158_70 : zOk 158 70 c158_70 = true := zOkN_app (n := 4) (fin := 76) (by decide +kernel) k158_76
theorem k158_88 : zOk 158 88 c158_88 = true := by decide +kernel
theorem k158_87 : zOk 158 87 c158_87 = true := zOkN_app (n := 1) (fin := 88) (by decide +kernel) k158_88
theorem ok158 : zOkM 158 = true := (allc (q := (0, c158_0)) k158_0 (allc (q := (9, c158_9)) k158_9 (allc (q := (11, c158_11)) k158_11 (allc (q := (28, c158_28)) k158_28 (allc (q := (29, c158_29)) k158_29 (allc (q := (30, c158_30)) k158_30 (allc (q := (66, c158_66)) k158_66 (allc (q := (70, c158_70)) k158_70 (allc (q := (87, c158_87)) k158_87 (allc (q := (88, c158_88)) k158_88 (alln)))))))))) : b158.all (fun q => zOk 158 q.1 q.2) = true)
theorem k159_16 : zOk 159 16 c159_16 = true := by decide +kernel
theorem k159_7 : zOk 159 7 c159_7 = true := zOkN_app (n := 7) (fin := 16) (by decide +kernel) k159_16
theorem k159_2 : zOk 159 2 c159_2 = true := zOkN_app (n := 3) (fin := 7) (by decide +kernel) k159_7
theorem k159_0 : zOk 159 0 c159_0 = true := zOkN_app (n := 2) (fin := 2) (by decide +kernel) k159_2
theorem k159_18 : zOk 159 18 c159_18 = true := by decide +kernel
theorem k159_24 : zOk 159 24 c159_24 = true := by decide +kernel
theorem ok159 : zOkM 159 = true := (allc (q := (0, c159_0)) k159_0 (allc (q := (2, c159_2)) k159_2 (allc (q := (18, c159_18)) k159_18 (allc (q := (24, c159_24)) k159_24 (alln)))) : b159.all (fun q => zOk 159 q.1 q.2) = true)
theorem k160_8 : zOk 160 8 c160_8 = true := by decide +kernel
theorem k160_2 : zOk 160 2 c160_2 = true := zOkN_app (n := 4) (fin := 8) (by decide +kernel) k160_8
theorem k160_0 : zOk 160 0 c160_0 = true := zOkN_app (n := 2) (fin := 2) (by decide +kernel) k160_2
theorem k160_20 : zOk 160 20 c160_20 = true := by decide +kernel
theorem ok160 : zOkM 160 = true := (allc (q := (0, c160_0)) k160_0 (allc (q := (2, c160_2)) k160_2 (allc (q := (20, c160_20)) k160_20 (alln))) : b160.all (fun q => zOk 160 q.1 q.2) = true)
theorem k161_23 : zOk 161 23 c161_23 = true := by decide +kernel
theorem k161_17 : zOk 161 17 c161_17 = true := zOkN_app (n := 4) (fin := 23) (by decide +kernel) k161_23
theorem k161_12 : zOk 161 12 c161_12 = true := zOkN_app (n := 3) (fin := 17) (by decide +kernel) k161_17
theorem k161_7 : zOk 161 7 c161_7 = true := zOkN_app (n := 3) (fin := 12) (by decide +kernel) k161_12
theorem k161_4 : zOk 161 4 c161_4 = true := zOkN_app (n := 3) (fin := 7) (by decide +kernel) k161_7
theorem k161_0 : zOk 161 0 c161_0 = true := zOkN_app (n := 2) (fin := 4) (by decide +kernel) k161_4
theorem k161_29 : zOk 161 29 c161_29 = true := by decide +kernel
theorem ok161 : zOkM 161 = true := (allc (q := (0, c161_0)) k161_0 (allc (q := (7, c161_7)) k161_7 (allc (q := (29, c161_29)) k161_29 (alln))) : b161.all (fun q => zOk 161 q.1 q.2) = true)
theorem k162_387 : zOk 162 387 c162_387 = true := by decide +kernel
theorem k162_382 : zOk 162 382 c162_382 = true := zOkN_app (n := 3) (fin := 387) (by decide +kernel) k162_387
theorem k162_379 : zOk 162 379 c162_379 = true := zOkN_app (n := 1) (fin := 382) (by decide +kernel) k162_382
theorem k162_373 : zOk 162 373 c162_373 = true := zOkN_app (n := 3) (fin := 379) (by decide +kernel) k162_379
theorem k162_370 : zOk 162 370 c162_370 = true := zOkN_app (n := 1) (fin := 373) (by decide +kernel) k162_373
theorem k162_365 : zOk 162 365 c162_365 = true := zOkN_app (n := 3) (fin := 370) (by decide +kernel) k162_370
theorem k162_362 : zOk 162 362 c162_362 = true := zOkN_app (n := 1) (fin := 365) (by decide +kernel) k162_365
theorem k162_357 : zOk 162 357 c162_357 = true := zOkN_app (n := 3) (fin := 362) (by decide +kernel) k162_362
theorem k162_354 : zOk 162 354 c162_354 = true := zOkN_app (n := 1) (fin := 357) (by decide +kernel) k162_357
theorem k162_348 : zOk 162 348 c162_348 = true := zOkN_app (n := 3) (fin := 354) (by decide +kernel) k162_354
theorem k162_345 : zOk 162 345 c162_345 = true := zOkN_app (n := 1) (fin := 348) (by decide +kernel) k162_348
theorem k162_341 : zOk 162 341 c162_341 = true := zOkN_app (n := 3) (fin := 345) (by decide +kernel) k162_345
theorem k162_338 : zOk 162 338 c162_338 = true := zOkN_app (n := 1) (fin := 341) (by decide +kernel) k162_341
theorem k162_334 : zOk 162 334 c162_334 = true := zOkN_app (n := 3) (fin := 338) (by decide +kernel) k162_338
theorem k162_331 : zOk 162 331 c162_331 = true := zOkN_app (n := 1) (fin := 334) (by decide +kernel) k162_334
theorem k162_325 : zOk 162 325 c162_325 = true := zOkN_app (n := 3) (fin := 331) (by decide +kernel) k162_331
theorem k162_322 : zOk 162 322 c162_322 = true := zOkN_app (n := 1) (fin := 325) (by decide +kernel) k162_325
theorem k162_317 : zOk 162 317 c162_317 = true := zOkN_app (n := 3) (fin := 322) (by decide +kernel) k162_322
theorem k162_314 : zOk 162 314 c162_314 = true := zOkN_app (n := 1) (fin := 317) (by decide +kernel) k162_317
theorem k162_309 : zOk 162 309 c162_309 = true := zOkN_app (n := 3) (fin := 314) (by decide +kernel) k162_314
theorem k162_306 : zOk 162 306 c162_306 = true := zOkN_app (n := 1) (fin := 309) (by decide +kernel) k162_309
theorem k162_300 : zOk 162 300 c162_300 = true := zOkN_app (n := 3) (fin := 306) (by decide +kernel) k162_306
theorem k162_297 : zOk 162 297 c162_297 = true := zOkN_app (n := 1) (fin := 300) (by decide +kernel) k162_300
theorem k162_291 : zOk 162 291 c162_291 = true := zOkN_app (n := 3) (fin := 297) (by decide +kernel) k162_297
theorem k162_286 : zOk 162 286 c162_286 = true := zOkN_app (n := 3) (fin := 291) (by decide +kernel) k162_291
theorem k162_283 : zOk 162 283 c162_283 = true := zOkN_app (n := 1) (fin := 286) (by decide +kernel) k162_286
theorem k162_278 : zOk 162 278 c162_278 = true := zOkN_app (n := 3) (fin := 283) (by decide +kernel) k162_283
theorem k162_275 : zOk 162 275 c162_275 = true := zOkN_app (n := 1) (fin := 278) (by decide +kernel) k162_278
theorem k162_269 : zOk 162 269 c162_269 = true := zOkN_app (n := 3) (fin := 275) (by decide +kernel) k162_275
theorem k162_266 : zOk 162 266 c162_266 = true := zOkN_app (n := 1) (fin := 269) (by decide +kernel) k162_269
theorem k162_261 : zOk 162 261 c162_261 = true := zOkN_app (n := 3) (fin := 266) (by decide +kernel) k162_266
theorem k162_258 : zOk 162 258 c162_258 = true := zOkN_app (n := 1) (fin := 261) (by decide +kernel) k162_261
theorem k162_252 : zOk 162 252 c162_252 = true := zOkN_app (n := 3) (fin := 258) (by decide +kernel) k162_258
theorem k162_249 : zOk 162 249 c162_249 = true := zOkN_app (n := 1) (fin := 252) (by decide +kernel) k162_252
theorem k162_243 : zOk 162 243 c162_243 = true := zOkN_app (n := 3) (fin := 249) (by decide +kernel) k162_249
theorem k162_240 : zOk 162 240 c162_240 = true := zOkN_app (n := 1) (fin := 243) (by decide +kernel) k162_243
theorem k162_234 : zOk 162 234 c162_234 = true := zOkN_app (n := 3) (fin := 240) (by decide +kernel) k162_240
theorem k162_231 : zOk 162 231 c162_231 = true := zOkN_app (n := 1) (fin := 234) (by decide +kernel) k162_234
theorem k162_225 : zOk 162 225 c162_225 = true := zOkN_app (n := 3) (fin := 231) (by decide +kernel) k162_231
theorem k162_222 : zOk 162 222 c162_222 = true := zOkN_app (n := 1) (fin := 225) (by decide +kernel) k162_225
theorem k162_216 : zOk 162 216 c162_216 = true := zOkN_app (n := 3) (fin := 222) (by decide +kernel) k162_222
theorem k162_213 : zOk 162 213 c162_213 = true := zOkN_app (n := 1) (fin := 216) (by decide +kernel) k162_216
theorem k162_207 : zOk 162 207 c162_207 = true := zOkN_app (n := 3) (fin := 213) (by decide +kernel) k162_213
theorem k162_204 : zOk 162 204 c162_204 = true := zOkN_app (n := 1) (fin := 207) (by decide +kernel) k162_207
theorem k162_198 : zOk 162 198 c162_198 = true := zOkN_app (n := 3) (fin := 204) (by decide +kernel) k162_204
theorem k162_195 : zOk 162 195 c162_195 = true := zOkN_app (n := 1) (fin := 198) (by decide +kernel) k162_198
theorem k162_189 : zOk 162 189 c162_189 = true := zOkN_app (n := 3) (fin := 195) (by decide +kernel) k162_195
theorem k162_186 : zOk 162 186 c162_186 = true := zOkN_app (n := 1) (fin := 189) (by decide +kernel) k162_189
theorem k162_181 : zOk 162 181 c162_181 = true := zOkN_app (n := 3) (fin := 186) (by decide +kernel) k162_186
theorem k162_178 : zOk 162 178 c162_178 = true := zOkN_app (n := 1) (fin := 181) (by decide +kernel) k162_181
theorem k162_173 : zOk 162 173 c162_173 = true := zOkN_app (n := 3) (fin := 178) (by decide +kernel) k162_178
theorem k162_170 : zOk 162 170 c162_170 = true := zOkN_app (n := 1) (fin := 173) (by decide +kernel) k162_173
theorem k162_165 : zOk 162 165 c162_165 = true := zOkN_app (n := 3) (fin := 170) (by decide +kernel) k162_170
theorem k162_162 : zOk 162 162 c162_162 = true := zOkN_app (n := 1) (fin := 165) (by decide +kernel) k162_165
theorem k162_157 : zOk 162 157 c162_157 = true := zOkN_app (n := 3) (fin := 162) (by decide +kernel) k162_162
theorem k162_154 : zOk 162 154 c162_154 = true := zOkN_app (n := 1) (fin := 157) (by decide +kernel) k162_157
theorem k162_149 : zOk 162 149 c162_149 = true := zOkN_app (n := 3) (fin := 154) (by decide +kernel) k162_154
theorem k162_146 : zOk 162 146 c162_146 = true := zOkN_app (n := 1) (fin := 149) (by decide +kernel) k162_149
theorem k162_142 : zOk 162 142 c162_142 = true := zOkN_app (n := 3) (fin := 146) (by decide +kernel) k162_146
theorem k162_139 : zOk 162 139 c162_139 = true := zOkN_app (n := 1) (fin := 142) (by decide +kernel) k162_142
theorem k162_135 : zOk 162 135 c162_135 = true := zOkN_app (n := 3) (fin := 139) (by decide +kernel) k162_139
theorem k162_132 : zOk 162 132 c162_132 = true := zOkN_app (n := 1) (fin := 135) (by decide +kernel) k162_135
theorem k162_126 : zOk 162 126 c162_126 = true := zOkN_app (n := 3) (fin := 132) (by decide +kernel) k162_132
theorem k162_123 : zOk 162 123 c162_123 = true := zOkN_app (n := 1) (fin := 126) (by decide +kernel) k162_126
theorem k162_117 : zOk 162 117 c162_117 = true := zOkN_app (n := 3) (fin := 123) (by decide +kernel) k162_123
theorem k162_114 : zOk 162 114 c162_114 = true := zOkN_app (n := 1) (fin := 117) (by decide +kernel) k162_117
theorem k162_109 : zOk 162 109 c162_109 = true := zOkN_app (n := 3) (fin := 114) (by decide +kernel) k162_114
theorem k162_106 : zOk 162 106 c162_106 = true := zOkN_app (n := 1) (fin := 109) (by decide +kernel) k162_109
theorem k162_101 : zOk 162 101 c162_101 = true := zOkN_app (n := 3) (fin := 106) (by decide +kernel) k162_106
theorem k162_98 : zOk 162 98 c162_98 = true := zOkN_app (n := 1) (fin := 101) (by decide +kernel) k162_101
theorem k162_93 : zOk 162 93 c162_93 = true := zOkN_app (n := 3) (fin := 98) (by decide +kernel) k162_98
theorem k162_90 : zOk 162 90 c162_90 = true := zOkN_app (n := 1) (fin := 93) (by decide +kernel) k162_93
theorem k162_84 : zOk 162 84 c162_84 = true := zOkN_app (n := 3) (fin := 90) (by decide +kernel) k162_90
theorem k162_81 : zOk 162 81 c162_81 = true := zOkN_app (n := 1) (fin := 84) (by decide +kernel) k162_84
theorem k162_75 : zOk 162 75 c162_75 = true := zOkN_app (n := 3) (fin := 81) (by decide +kernel) k162_81
theorem k162_72 : zOk 162 72 c162_72 = true := zOkN_app (n := 1) (fin := 75) (by decide +kernel) k162_75
theorem k162_67 : zOk 162 67 c162_67 = true := zOkN_app (n := 3) (fin := 72) (by decide +kernel) k162_72
theorem k162_64 : zOk 162 64 c162_64 = true := zOkN_app (n := 1) (fin := 67) (by decide +kernel) k162_67
theorem k162_59 : zOk 162 59 c162_59 = true := zOkN_app (n := 3) (fin := 64) (by decide +kernel) k162_64
theorem k162_56 : zOk 162 56 c162_56 = true := zOkN_app (n := 1) (fin := 59) (by decide +kernel) k162_59
theorem k162_51 : zOk 162 51 c162_51 = true := zOkN_app (n := 3) (fin := 56) (by decide +kernel) k162_56
theorem k162_48 : zOk 162 48 c162_48 = true := zOkN_app (n := 1) (fin := 51) (by decide +kernel) k162_51
theorem k162_43 : zOk 162 43 c162_43 = true := zOkN_app (n := 3) (fin := 48) (by decide +kernel) k162_48
theorem k162_40 : zOk 162 40 c162_40 = true := zOkN_app (n := 1) (fin := 43) (by decide +kernel) k162_43
theorem k162_34 : zOk 162 34 c162_34 = true := zOkN_app (n := 3) (fin := 40) (by decide +kernel) k162_40
theorem k162_31 : zOk 162 31 c162_31 = true := zOkN_app (n := 1) (fin := 34) (by decide +kernel) k162_34
theorem k162_26 : zOk 162 26 c162_26 = true := zOkN_app (n := 3) (fin := 31) (by decide +kernel) k162_31
theorem k162_23 : zOk 162 23 c162_23 = true := zOkN_app (n := 1) (fin := 26) (by decide +kernel) k162_26
theorem k162_17 : zOk 162 17 c162_17 = true := zOkN_app (n := 3) (fin := 23) (by decide +kernel) k162_23
theorem k162_14 : zOk 162 14 c162_14 = true := zOkN_app (n := 1) (fin := 17) (by decide +kernel) k162_17
theorem k162_9 : zOk 162 9 c162_9 = true := zOkN_app (n := 3) (fin := 14) (by decide +kernel) k162_14
theorem k162_0 : zOk 162 0 c162_0 = true := zOkN_app (n := 5) (fin := 9) (by decide +kernel) k162_9
theorem ok162 : zOkM 162 = true := (allc (q := (0, c162_0)) k162_0 (alln) : b162.all (fun q => zOk 162 q.1 q.2) = true)
theorem k163_0 : zOk 163 0 c163_0 = true := by decide +kernel
theorem ok163 : zOkM 163 = true := (allc (q := (0, c163_0)) k163_0 (alln) : b163.all (fun q => zOk 163 q.1 q.2) = true)
theorem k164_10 : zOk 164 10 c164_10 = true := by decide +kernel
theorem k164_5 : zOk 164 5 c164_5 = true := zOkN_app (n := 3) (fin := 10) (by decide +kernel) k164_10
theorem k164_0 : zOk 164 0 c164_0 = true := zOkN_app (n := 3) (fin := 5) (by decide +kernel) k164_5
theorem k164_15 : zOk 164 15 c164_15 = true := by decide +kernel
theorem k164_14 : zOk 164 14 c164_14 = true := zOkN_app (n := 1) (fin := 15) (by decide +kernel) k164_15
theorem ok164 : zOkM 164 = true := (allc (q := (0, c164_0)) k164_0 (allc (q := (14, c164_14)) k164_14 (allc (q := (15, c164_15)) k164_15 (alln))) : b164.all (fun q => zOk 164 q.1 q.2) = true)
theorem k165_14 : zOk 165 14 c165_14 = true := by decide +kernel
theorem k165_0 : zOk 165 0 c165_0 = true := zOkN_app (n := 10) (fin := 14) (by decide +kernel) k165_14
theorem k165_25 : zOk 165 25 c165_25 = true := by decide +kernel
theorem k165_24 : zOk 165 24 c165_24 = true := zOkN_app (n := 1) (fin := 25) (by decide +kernel) k165_25
theorem ok165 : zOkM 165 = true := (allc (q := (0, c165_0)) k165_0 (allc (q := (24, c165_24)) k165_24 (allc (q := (25, c165_25)) k165_25 (alln))) : b165.all (fun q => zOk 165 q.1 q.2) = true)
theorem k166_0 : zOk 166 0 c166_0 = true := by decide +kernel
theorem ok166 : zOkM 166 = true := (allc (q := (0, c166_0)) k166_0 (alln) : b166.all (fun q => zOk 166 q.1 q.2) = true)
theorem k167_0 : zOk 167 0 c167_0 = true := by decide +kernel
theorem ok167 : zOkM 167 = true := (allc (q := (0, c167_0)) k167_0 (alln) : b167.all (fun q => zOk 167 q.1 q.2) = true)
theorem k168_23 : zOk 168 23 c168_23 = true := by decide +kernel
theorem k168_8 : zOk 168 8 c168_8 = true := zOkN_app (n := 9) (fin := 23) (by decide +kernel) k168_23
theorem k168_2 : zOk 168 2 c168_2 = true := zOkN_app (n := 3) (fin := 8) (by decide +kernel) k168_8
theorem k168_0 : zOk 168 0 c168_0 = true := zOkN_app (n := 2) (fin := 2) (by decide +kernel) k168_2
theorem k168_33 : zOk 168 33 c168_33 = true := by decide +kernel
theorem k168_27 : zOk 168 27 c168_27 = true := zOkN_app (n := 4) (fin := 33) (by decide +kernel) k168_33
theorem k168_40 : zOk 168 40 c168_40 = true := by decide +kernel
theorem ok168 : zOkM 168 = true := (allc (q := (0, c168_0)) k168_0 (allc (q := (2, c168_2)) k168_2 (allc (q := (27, c168_27)) k168_27 (allc (q := (33, c168_33)) k168_33 (allc (q := (40, c168_40)) k168_40 (alln))))) : b168.all (fun q => zOk 168 q.1 q.2) = true)
theorem k169_21 : zOk 169 21 c169_21 = true := by decide +kernel
theorem k169_15 : zOk 169 15 c169_15 = true := zOkN_app (n := 3) (fin := 21) (by decide +kernel) k169_21
theorem k169_10 : zOk 169 10 c169_10 = true := zOkN_app (n := 3) (fin := 15) (by decide +kernel) k169_15
theorem k169_5 : zOk 169 5 c169_5 = true := zOkN_app (n := 3) (fin := 10) (by decide +kernel) k169_10
theorem k169_0 : zOk 169 0 c169_0 = true := zOkN_app (n := 3) (fin := 5) (by decide +kernel) k169_5
theorem k169_23 : zOk 169 23 c169_23 = true := by decide +kernel
theorem ok169 : zOkM 169 = true := (allc (q := (0, c169_0)) k169_0 (allc (q := (23, c169_23)) k169_23 (alln)) : b169.all (fun q => zOk 169 q.1 q.2) = true)
theorem k170_29 : zOk 170 29 c170_29 = true := by decide +kernel
theorem k170_17 : zOk 170 17 c170_17 = true := zOkN_app (n := 8) (fin := 29) (by decide +kernel) k170_29
theorem k170_9 : zOk 170 9 c170_9 = true := zOkN_app (n := 4) (fin := 17) (by decide +kernel) k170_17
theorem k170_0 : zOk 170 0 c170_0 = true := zOkN_app (n := 7) (fin := 9) (by decide +kernel) k170_9
theorem k170_31 : zOk 170 31 c170_31 = true := by decide +kernel
theorem k170_37 : zOk 170 37 c170_37 = true := by decide +kernel
theorem ok170 : zOkM 170 = true := (allc (q := (0, c170_0)) k170_0 (allc (q := (9, c170_9)) k170_9 (allc (q := (31, c170_31)) k170_31 (allc (q := (37, c170_37)) k170_37 (alln)))) : b170.all (fun q => zOk 170 q.1 q.2) = true)
theorem k171_9 : zOk 171 9 c171_9 = true := by decide +kernel
theorem k171_0 : zOk 171 0 c171_0 = true := zOkN_app (n := 5) (fin := 9) (by decide +kernel) k171_9
theorem k171_22 : zOk 171 22 c171_22 = true := by decide +kernel
theorem k171_11 : zOk 171 11 c171_11 = true := zOkN_app (n := 6) (fin := 22) (by decide +kernel) k171_22
theorem k171_32 : zOk 171 32 c171_32 = true := by decide +kernel
theorem k171_27 : zOk 171 27 c171_27 = true := zOkN_app (n := 3) (fin := 32) (by decide +kernel) k171_32
theorem k171_25 : zOk 171 25 c171_25 = true := zOkN_app (n := 2) (fin := 27) (by decide +kernel) k171_27
theorem k171_67 : zOk 171 67 c171_67 = true := by decide +kernel
theorem ok171 : zOkM 171 = true := (allc (q := (0, c171_0)) k171_0 (allc (q := (11, c171_11)) k171_11 (allc (q := (25, c171_25)) k171_25 (allc (q := (27, c171_27)) k171_27 (allc (q := (67, c171_67)) k171_67 (alln))))) : b171.all (fun q => zOk 171 q.1 q.2) = true)
theorem k172_0 : zOk 172 0 c172_0 = true := by decide +kernel
theorem ok172 : zOkM 172 = true := (allc (q := (0, c172_0)) k172_0 (alln) : b172.all (fun q => zOk 172 q.1 q.2) = true)
theorem k173_12 : zOk 173 12 c173_12 = true := by decide +kernel
theorem k173_6 : zOk 173 6 c173_6 = true := zOkN_app (n := 3) (fin := 12) (by decide +kernel) k173_12
theorem k173_0 : zOk 173 0 c173_0 = true := zOkN_app (n := 3) (fin := 6) (by decide +kernel) k173_6
theorem k173_17 : zOk 173 17 c173_17 = true := by decide +kernel
theorem k173_16 : zOk 173 16 c173_16 = true := zOkN_app (n := 1) (fin := 17) (by decide +kernel) k173_17
theorem ok173 : zOkM 173 = true := (allc (q := (0, c173_0)) k173_0 (allc (q := (16, c173_16)) k173_16 (allc (q := (17, c173_17)) k173_17 (alln))) : b173.all (fun q => zOk 173 q.1 q.2) = true)
theorem k174_48 : zOk 174 48 c174_48 = true := by decide +kernel
theorem k174_42 : zOk 174 42 c174_42 = true := zOkN_app (n := 3) (fin := 48) (by decide +kernel) k174_48
theorem k174_36 : zOk 174 36 c174_36 = true := zOkN_app (n := 3) (fin := 42) (by decide +kernel) k174_42
theorem k174_30 : zOk 174 30 c174_30 = true := zOkN_app (n := 3) (fin := 36) (by decide +kernel) k174_36
theorem k174_24 : zOk 174 24 c174_24 = true := zOkN_app (n := 3) (fin := 30) (by decide +kernel) k174_30
theorem k174_18 : zOk 174 18 c174_18 = true := zOkN_app (n := 3) (fin := 24) (by decide +kernel) k174_24
theorem k174_12 : zOk 174 12 c174_12 = true := zOkN_app (n := 3) (fin := 18) (by decide +kernel) k174_18
theorem k174_6 : zOk 174 6 c174_6 = true := zOkN_app (n := 3) (fin := 12) (by decide +kernel) k174_12
theorem k174_0 : zOk 174 0 c174_0 = true := zOkN_app (n := 3) (fin := 6) (by decide +kernel) k174_6
theorem k174_53 : zOk 174 53 c174_53 = true := by decide +kernel
theorem k174_52 : zOk 174 52 c174_52 = true := zOkN_app (n := 1) (fin := 53) (by decide +kernel) k174_53
theorem ok174 : zOkM 174 = true := (allc (q := (0, c174_0)) k174_0 (allc (q := (48, c174_48)) k174_48 (allc (q := (52, c174_52)) k174_52 (allc (q := (53, c174_53)) k174_53 (alln)))) : b174.all (fun q => zOk 174 q.1 q.2) = true)
theorem k175_25 : zOk 175 25 c175_25 = true := by decide +kernel
theorem k175_11 : zOk 175 11 c175_11 = true := zOkN_app (n := 7) (fin := 25) (by decide +kernel) k175_25
theorem k175_0 : zOk 175 0 c175_0 = true := zOkN_app (n := 5) (fin := 11) (by decide +kernel) k175_11
theorem k175_67 : zOk 175 67 c175_67 = true := by decide +kernel
theorem k175_38 : zOk 175 38 c175_38 = true := zOkN_app (n := 15) (fin := 67) (by decide +kernel) k175_67
theorem k175_99 : zOk 175 99 c175_99 = true := by decide +kernel
theorem k175_83 : zOk 175 83 c175_83 = true := zOkN_app (n := 8) (fin := 99) (by decide +kernel) k175_99
theorem k175_68 : zOk 175 68 c175_68 = true := zOkN_app (n := 7) (fin := 83) (by decide +kernel) k175_83
theorem k175_112 : zOk 175 112 c175_112 = true := by decide +kernel
theorem k175_111 : zOk 175 111 c175_111 = true := zOkN_app (n := 1) (fin := 112) (by decide +kernel) k175_112
theorem k175_160 : zOk 175 160 c175_160 = true := by decide +kernel
theorem k175_154 : zOk 175 154 c175_154 = true := zOkN_app (n := 4) (fin := 160) (by decide +kernel) k175_160
theorem k175_139 : zOk 175 139 c175_139 = true := zOkN_app (n := 7) (fin := 154) (by decide +kernel) k175_154
theorem k175_128 : zOk 175 128 c175_128 = true := zOkN_app (n := 5) (fin := 139) (by decide +kernel) k175_139
theorem k175_126 : zOk 175 126 c175_126 = true := zOkN_app (n := 2) (fin := 128) (by decide +kernel) k175_128
theorem k175_184 : zOk 175 184 c175_184 = true := by decide +kernel
theorem k175_183 : zOk 175 183 c175_183 = true := zOkN_app (n := 1) (fin := 184) (by decide +kernel) k175_184
theorem k175_209 : zOk 175 209 c175_209 = true := by decide +kernel
theorem k175_203 : zOk 175 203 c175_203 = true := zOkN_app (n := 4) (fin := 209) (by decide +kernel) k175_209
theorem k175_214 : zOk 175 214 c175_214 = true := by decide +kernel
theorem k175_213 : zOk 175 213 c175_213 = true := zOkN_app (n := 1) (fin := 214) (by decide +kernel) k175_214
theorem ok175 : zOkM 175 = true := (allc (q := (0, c175_0)) k175_0 (allc (q := (38, c175_38)) k175_38 (allc (q := (68, c175_68)) k175_68 (allc (q := (111, c175_111)) k175_111 (allc (q := (112, c175_112)) k175_112 (allc (q := (126, c175_126)) k175_126 (allc (q := (128, c175_128)) k175_128 (allc (q := (183, c175_183)) k175_183 (allc (q := (184, c175_184)) k175_184 (allc (q := (203, c175_203)) k175_203 (allc (q := (213, c175_213)) k175_213 (allc (q := (214, c175_214)) k175_214 (alln)))))))))))) : b175.all (fun q => zOk 175 q.1 q.2) = true)
theorem k176_8 : zOk 176 8 c176_8 = true := by decide +kernel
theorem k176_2 : zOk 176 2 c176_2 = true := zOkN_app (n := 3) (fin := 8) (by decide +kernel) k176_8
theorem k176_0 : zOk 176 0 c176_0 = true := zOkN_app (n := 2) (fin := 2) (by decide +kernel) k176_2
theorem k176_29 : zOk 176 29 c176_29 = true := by decide +kernel
theorem ok176 : zOkM 176 = true := (allc (q := (0, c176_0)) k176_0 (allc (q := (2, c176_2)) k176_2 (allc (q := (29, c176_29)) k176_29 (alln))) : b176.all (fun q => zOk 176 q.1 q.2) = true)
theorem k177_36 : zOk 177 36 c177_36 = true := by decide +kernel
theorem k177_29 : zOk 177 29 c177_29 = true := zOkN_app (n := 5) (fin := 36) (by decide +kernel) k177_36
theorem k177_18 : zOk 177 18 c177_18 = true := zOkN_app (n := 8) (fin := 29) (by decide +kernel) k177_29
theorem k177_12 : zOk 177 12 c177_12 = true := zOkN_app (n := 3) (fin := 18) (by decide +kernel) k177_18
theorem k177_10 : zOk 177 10 c177_10 = true := zOkN_app (n := 2) (fin := 12) (by decide +kernel) k177_12
theorem k177_4 : zOk 177 4 c177_4 = true := zOkN_app (n := 3) (fin := 10) (by decide +kernel) k177_10
theorem k177_0 : zOk 177 0 c177_0 = true := zOkN_app (n := 4) (fin := 4) (by decide +kernel) k177_4
theorem k177_43 : zOk 177 43 c177_43 = true := by decide +kernel
theorem k177_42 : zOk 177 42 c177_42 = true := zOkN_app (n := 1) (fin := 43) (by decide +kernel) k177_43
theorem k177_50 : zOk 177 50 c177_50 = true := by decide +kernel
theorem k177_56 : zOk 177 56 c177_56 = true := by decide +kernel
theorem ok177 : zOkM 177 = true := (allc (q := (0, c177_0)) k177_0 (allc (q := (4, c177_4)) k177_4 (allc (q := (12, c177_12)) k177_12 (allc (q := (42, c177_42)) k177_42 (allc (q := (43, c177_43)) k177_43 (allc (q := (50, c177_50)) k177_50 (allc (q := (56, c177_56)) k177_56 (alln))))))) : b177.all (fun q => zOk 177 q.1 q.2) = true)
theorem k178_14 : zOk 178 14 c178_14 = true := by decide +kernel
theorem k178_8 : zOk 178 8 c178_8 = true := zOkN_app (n := 4) (fin := 14) (by decide +kernel) k178_14
theorem k178_2 : zOk 178 2 c178_2 = true := zOkN_app (n := 3) (fin := 8) (by decide +kernel) k178_8
theorem k178_0 : zOk 178 0 c178_0 = true := zOkN_app (n := 2) (fin := 2) (by decide +kernel) k178_2
theorem k178_26 : zOk 178 26 c178_26 = true := by decide +kernel
theorem k178_20 : zOk 178 20 c178_20 = true := zOkN_app (n := 3) (fin := 26) (by decide +kernel) k178_26
theorem k178_31 : zOk 178 31 c178_31 = true := by decide +kernel
theorem k178_30 : zOk 178 30 c178_30 = true := zOkN_app (n := 1) (fin := 31) (by decide +kernel) k178_31
theorem ok178 : zOkM 178 = true := (allc (q := (0, c178_0)) k178_0 (allc (q := (2, c178_2)) k178_2 (allc (q := (20, c178_20)) k178_20 (allc (q := (30, c178_30)) k178_30 (allc (q := (31, c178_31)) k178_31 (alln))))) : b178.all (fun q => zOk 178 q.1 q.2) = true)
theorem k179_48 : zOk 179 48 c179_48 = true := by decide +kernel
theorem k179_40 : zOk 179 40 c179_40 = true := zOkN_app (n := 4) (fin := 48) (by decide +kernel) k179_48
theorem k179_20 : zOk 179 20 c179_20 = true := zOkN_app (n := 9) (fin := 40) (by decide +kernel) k179_40
theorem k179_10 : zOk 179 10 c179_10 = true := zOkN_app (n := 4) (fin := 20) (by decide +kernel) k179_20
theorem k179_0 : zOk 179 0 c179_0 = true := zOkN_app (n := 4) (fin := 10) (by decide +kernel) k179_10
theorem k179_67 : zOk 179 67 c179_67 = true := by decide +kernel
theorem k179_61 : zOk 179 61 c179_61 = true := zOkN_app (n := 3) (fin := 67) (by decide +kernel) k179_67
theorem k179_59 : zOk 179 59 c179_59 = true := zOkN_app (n := 2) (fin := 61) (by decide +kernel) k179_61
theorem k179_56 : zOk 179 56 c179_56 = true := zOkN_app (n := 1) (fin := 59) (by decide +kernel) k179_59
theorem k179_52 : zOk 179 52 c179_52 = true := zOkN_app (n := 2) (fin := 56) (by decide +kernel) k179_56
theorem k179_156 : zOk 179 156 c179_156 = true := by decide +kernel
theorem k179_121 : zOk 179 121 c179_121 = true := zOkN_app (n := 25) (fin := 156) (by decide +kernel) k179_156
theorem k179_112 : zOk 179 112 c179_112 = true := zOkN_app (n := 5) (fin := 121) (by decide +kernel) k179_121
theorem k179_103 : zOk 179 103 c179_103 = true := zOkN_app (n := 5) (fin := 112) (by decide +kernel) k179_112
theorem k179_97 : zOk 179 97 c179_97 = true := zOkN_app (n := 3) (fin := 103) (by decide +kernel) k179_103
theorem k179_95 : zOk 179 95 c179_95 = true := zOkN_app (n := 2) (fin := 97) (by decide +kernel) k179_97
theorem k179_88 : zOk 179 88 c179_88 = true := zOkN_app (n := 3) (fin := 95) (by decide +kernel) k179_95
theorem k179_82 : zOk 179 82 c179_82 = true := zOkN_app (n := 3) (fin := 88) (by decide +kernel) k179_88
theorem k179_80 : zOk 179 80 c179_80 = true := zOkN_app (n := 2) (fin := 82) (by decide +kernel) k179_82
theorem k179_162 : zOk 179 162 c179_162 = true := by decide +kernel
theorem k179_176 : zOk 179 176 c179_176 = true := by decide +kernel
theorem k179_170 : zOk 179 170 c179_170 = true := zOkN_app (n := 3) (fin := 176) (by decide +kernel) k179_176
theorem k179_168 : zOk 179 168 c179_168 = true := zOkN_app (n := 2) (fin := 170) (by decide +kernel) k179_170
theorem k179_194 : zOk 179 194 c179_194 = true := by decide +kernel
theorem ok179 : zOkM 179 = true := (allc (q := (0, c179_0)) k179_0 (allc (q := (52, c179_52)) k179_52 (allc (q := (56, c179_56)) k179_56 (allc (q := (59, c179_59)) k179_59 (allc (q := (61, c179_61)) k179_61 (allc (q := (80, c179_80)) k179_80 (allc (q := (82, c179_82)) k179_82 (allc (q := (97, c179_97)) k179_97 (allc (q := (156, c179_156)) k179_156 (allc (q := (162, c179_162)) k179_162 (allc (q := (168, c179_168)) k179_168 (allc (q := (170, c179_170)) k179_170 (allc (q := (194, c179_194)) k179_194 (alln))))))))))))) : b179.all (fun q => zOk 179 q.1 q.2) = true)
theorem k180_20 : zOk 180 20 c180_20 = true := by decide +kernel
theorem k180_14 : zOk 180 14 c180_14 = true := zOkN_app (n := 3) (fin := 20) (by decide +kernel) k180_20
theorem k180_12 : zOk 180 12 c180_12 = true := zOkN_app (n := 2) (fin := 14) (by decide +kernel) k180_14
theorem k180_0 : zOk 180 0 c180_0 = true := zOkN_app (n := 6) (fin := 12) (by decide +kernel) k180_12
theorem k180_79 : zOk 180 79 c180_79 = true := by decide +kernel
theorem k180_73 : zOk 180 73 c180_73 = true := zOkN_app (n := 3) (fin := 79) (by decide +kernel) k180_79
theorem k180_71 : zOk 180 71 c180_71 = true := zOkN_app (n := 2) (fin := 73) (by decide +kernel) k180_73
theorem k180_58 : zOk 180 58 c180_58 = true := zOkN_app (n := 7) (fin := 71) (by decide +kernel) k180_71
theorem k180_105 : zOk 180 105 c180_105 = true := by decide +kernel
theorem ok180 : zOkM 180 = true := (allc (q := (0, c180_0)) k180_0 (allc (q := (14, c180_14)) k180_14 (allc (q := (58, c180_58)) k180_58 (allc (q := (71, c180_71)) k180_71 (allc (q := (73, c180_73)) k180_73 (allc (q := (105, c180_105)) k180_105 (alln)))))) : b180.all (fun q => zOk 180 q.1 q.2) = true)
theorem k181_63 : zOk 181 63 c181_63 = true := by decide +kernel
theorem k181_8 : zOk 181 8 c181_8 = true := zOkN_app (n := 34) (fin := 63) (by decide +kernel) k181_63
theorem k181_2 : zOk 181 2 c181_2 = true := zOkN_app (n := 3) (fin := 8) (by decide +kernel) k181_8
theorem k181_0 : zOk 181 0 c181_0 = true := zOkN_app (n := 2) (fin := 2) (by decide +kernel) k181_2
theorem k181_69 : zOk 181 69 c181_69 = true := by decide +kernel
theorem k181_68 : zOk 181 68 c181_68 = true := zOkN_app (n := 1) (fin := 69) (by decide +kernel) k181_69
theorem k181_81 : zOk 181 81 c181_81 = true := by decide +kernel
theorem ok181 : zOkM 181 = true := (allc (q := (0, c181_0)) k181_0 (allc (q := (2, c181_2)) k181_2 (allc (q := (68, c181_68)) k181_68 (allc (q := (69, c181_69)) k181_69 (allc (q := (81, c181_81)) k181_81 (alln))))) : b181.all (fun q => zOk 181 q.1 q.2) = true)
theorem k182_29 : zOk 182 29 c182_29 = true := by decide +kernel
theorem k182_8 : zOk 182 8 c182_8 = true := zOkN_app (n := 13) (fin := 29) (by decide +kernel) k182_29
theorem k182_2 : zOk 182 2 c182_2 = true := zOkN_app (n := 3) (fin := 8) (by decide +kernel) k182_8
theorem k182_0 : zOk 182 0 c182_0 = true := zOkN_app (n := 2) (fin := 2) (by decide +kernel) k182_2
theorem k182_34 : zOk 182 34 c182_34 = true := by decide +kernel
theorem k182_33 : zOk 182 33 c182_33 = true := zOkN_app (n := 1) (fin := 34) (by decide +kernel) k182_34
theorem k182_58 : zOk 182 58 c182_58 = true := by decide +kernel
theorem k182_51 : zOk 182 51 c182_51 = true := zOkN_app (n := 3) (fin := 58) (by decide +kernel) k182_58
theorem k182_48 : zOk 182 48 c182_48 = true := zOkN_app (n := 2) (fin := 51) (by decide +kernel) k182_51
theorem k182_43 : zOk 182 43 c182_43 = true := zOkN_app (n := 3) (fin := 48) (by decide +kernel) k182_48
theorem k182_41 : zOk 182 41 c182_41 = true := zOkN_app (n := 2) (fin := 43) (by decide +kernel) k182_43
theorem k182_78 : zOk 182 78 c182_78 = true := by decide +kernel
theorem k182_89 : zOk 182 89 c182_89 = true := by decide +kernel
theorem ok182 : zOkM 182 = true := (allc (q := (0, c182_0)) k182_0 (allc (q := (2, c182_2)) k182_2 (allc (q := (33, c182_33)) k182_33 (allc (q := (34, c182_34)) k182_34 (allc (q := (41, c182_41)) k182_41 (allc (q := (43, c182_43)) k182_43 (allc (q := (51, c182_51)) k182_51 (allc (q := (78, c182_78)) k182_78 (allc (q := (89, c182_89)) k182_89 (alln))))))))) : b182.all (fun q => zOk 182 q.1 q.2) = true)
theorem k183_8 : zOk 183 8 c183_8 = true := by decide +kernel
theorem k183_2 : zOk 183 2 c183_2 = true := zOkN_app (n := 3) (fin := 8) (by decide +kernel) k183_8
theorem k183_0 : zOk 183 0 c183_0 = true := zOkN_app (n := 2) (fin := 2) (by decide +kernel) k183_2
theorem k183_34 : zOk 183 34 c183_34 = true := by decide +kernel
theorem k183_21 : zOk 183 21 c183_21 = true := zOkN_app (n := 7) (fin := 34) (by decide +kernel) k183_34
theorem k183_62 : zOk 183 62 c183_62 = true := by decide +kernel
theorem k183_47 : zOk 183 47 c183_47 = true := zOkN_app (n := 8) (fin := 62) (by decide +kernel) k183_62
theorem k183_46 : zOk 183 46 c183_46 = true := zOkN_app (n := 1) (fin := 47) (by decide +kernel) k183_47
theorem k183_83 : zOk 183 83 c183_83 = true := by decide +kernel
theorem k183_67 : zOk 183 67 c183_67 = true := zOkN_app (n := 8) (fin := 83) (by decide +kernel) k183_83
theorem k183_66 : zOk 183 66 c183_66 = true := zOkN_app (n := 1) (fin := 67) (by decide +kernel) k183_67
theorem k183_88 : zOk 183 88 c183_88 = true := by decide +kernel
theorem k183_87 : zOk 183 87 c183_87 = true := zOkN_app (n := 1) (fin := 88) (by decide +kernel) k183_88
theorem ok183 : zOkM 183 = true := (allc (q := (0, c183_0)) k183_0 (allc (q := (2, c183_2)) k183_2 (allc (q := (21, c183_21)) k183_21 (allc (q := (46, c183_46)) k183_46 (allc (q := (47, c183_47)) k183_47 (allc (q := (66, c183_66)) k183_66 (allc (q := (67, c183_67)) k183_67 (allc (q := (87, c183_87)) k183_87 (allc (q := (88, c183_88)) k183_88 (alln))))))))) : b183.all (fun q => zOk 183 q.1 q.2) = true)
theorem k184_17 : zOk 184 17 c184_17 = true := by decide +kernel
theorem k184_9 : zOk 184 9 c184_9 = true := zOkN_app (n := 4) (fin := 17) (by decide +kernel) k184_17
theorem k184_0 : zOk 184 0 c184_0 = true := zOkN_app (n := 4) (fin := 9) (by decide +kernel) k184_9
theorem k184_19 : zOk 184 19 c184_19 = true := by decide +kernel
theorem k184_70 : zOk 184 70 c184_70 = true := by decide +kernel
theorem k184_61 : zOk 184 61 c184_61 = true := zOkN_app (n := 4) (fin := 70) (by decide +kernel) k184_70
theorem k184_52 : zOk 184 52 c184_52 = true := zOkN_app (n := 4) (fin := 61) (by decide +kernel) k184_61
theorem k184_44 : zOk 184 44 c184_44 = true := zOkN_app (n := 4) (fin := 52) (by decide +kernel) k184_52
theorem k184_72 : zOk 184 72 c184_72 = true := by decide +kernel
theorem ok184 : zOkM 184 = true := (allc (q := (0, c184_0)) k184_0 (allc (q := (19, c184_19)) k184_19 (allc (q := (44, c184_44)) k184_44 (allc (q := (72, c184_72)) k184_72 (alln)))) : b184.all (fun q => zOk 184 q.1 q.2) = true)
theorem k185_41 : zOk 185 41 c185_41 = true := by decide +kernel
theorem k185_33 : zOk 185 33 c185_33 = true := zOkN_app (n := 4) (fin := 41) (by decide +kernel) k185_41
theorem k185_24 : zOk 185 24 c185_24 = true := zOkN_app (n := 4) (fin := 33) (by decide +kernel) k185_33
theorem k185_16 : zOk 185 16 c185_16 = true := zOkN_app (n := 4) (fin := 24) (by decide +kernel) k185_24
theorem k185_0 : zOk 185 0 c185_0 = true := zOkN_app (n := 8) (fin := 16) (by decide +kernel) k185_16
theorem k185_49 : zOk 185 49 c185_49 = true := by decide +kernel
theorem k185_48 : zOk 185 48 c185_48 = true := zOkN_app (n := 1) (fin := 49) (by decide +kernel) k185_49
theorem k185_54 : zOk 185 54 c185_54 = true := by decide +kernel
theorem ok185 : zOkM 185 = true := (allc (q := (0, c185_0)) k185_0 (allc (q := (33, c185_33)) k185_33 (allc (q := (48, c185_48)) k185_48 (allc (q := (49, c185_49)) k185_49 (allc (q := (54, c185_54)) k185_54 (alln))))) : b185.all (fun q => zOk 185 q.1 q.2) = true)
theorem k186_9 : zOk 186 9 c186_9 = true := by decide +kernel
theorem k186_0 : zOk 186 0 c186_0 = true := zOkN_app (n := 4) (fin := 9) (by decide +kernel) k186_9
theorem k186_27 : zOk 186 27 c186_27 = true := by decide +kernel
theorem k186_14 : zOk 186 14 c186_14 = true := zOkN_app (n := 6) (fin := 27) (by decide +kernel) k186_27
theorem k186_87 : zOk 186 87 c186_87 = true := by decide +kernel
theorem k186_66 : zOk 186 66 c186_66 = true := zOkN_app (n := 10) (fin := 87) (by decide +kernel) k186_87
theorem k186_57 : zOk 186 57 c186_57 = true := zOkN_app (n := 4) (fin := 66) (by decide +kernel) k186_66
theorem k186_48 : zOk 186 48 c186_48 = true := zOkN_app (n := 4) (fin := 57) (by decide +kernel) k186_57
theorem k186_92 : zOk 186 92 c186_92 = true := by decide +kernel
theorem k186_91 : zOk 186 91 c186_91 = true := zOkN_app (n := 1) (fin := 92) (by decide +kernel) k186_92
theorem k186_129 : zOk 186 129 c186_129 = true := by decide +kernel
theorem k186_123 : zOk 186 123 c186_123 = true := zOkN_app (n := 3) (fin := 129) (by decide +kernel) k186_129
theorem k186_117 : zOk 186 117 c186_117 = true := zOkN_app (n := 4) (fin := 123) (by decide +kernel) k186_123
theorem k186_110 : zOk 186 110 c186_110 = true := zOkN_app (n := 3) (fin := 117) (by decide +kernel) k186_117
theorem k186_101 : zOk 186 101 c186_101 = true := zOkN_app (n := 4) (fin := 110) (by decide +kernel) k186_110
theorem k186_155 : zOk 186 155 c186_155 = true := by decide +kernel
theorem k186_173 : zOk 186 173 c186_173 = true := by decide +kernel
theorem k186_175 : zOk 186 175 c186_175 = true := by decide +kernel
theorem ok186 : zOkM 186 = true := (allc (q := (0, c186_0)) k186_0 (allc (q := (14, c186_14)) k186_14 (allc (q := (48, c186_48)) k186_48 (allc (q := (66, c186_66)) k186_66 (allc (q := (91, c186_91)) k186_91 (allc (q := (92, c186_92)) k186_92 (allc (q := (101, c186_101)) k186_101 (allc (q := (123, c186_123)) k186_123 (allc (q := (155, c186_155)) k186_155 (allc (q := (173, c186_173)) k186_173 (allc (q := (175, c186_175)) k186_175 (alln))))))))))) : b186.all (fun q => zOk 186 q.1 q.2) = true)
theorem k187_72 : zOk 187 72 c187_72 = true := by decide +kernel
theorem k187_63 : zOk 187 63 c187_63 = true := zOkN_app (n := 4) (fin := 72) (by decide +kernel) k187_72
theorem k187_55 : zOk 187 55 c187_55 = true := zOkN_app (n := 4) (fin := 63) (by decide +kernel) k187_63
theorem k187_48 : zOk 187 48 c187_48 = true := zOkN_app (n := 3) (fin := 55) (by decide +kernel) k187_55
theorem k187_41 : zOk 187 41 c187_41 = true := zOkN_app (n := 3) (fin := 48) (by decide +kernel) k187_48
theorem k187_34 : zOk 187 34 c187_34 = true := zOkN_app (n := 3) (fin := 41) (by decide +kernel) k187_41
theorem k187_30 : zOk 187 30 c187_30 = true := zOkN_app (n := 2) (fin := 34) (by decide +kernel) k187_34
theorem k187_20 : zOk 187 20 c187_20 = true := zOkN_app (n := 6) (fin := 30) (by decide +kernel) k187_30
theorem k187_15 : zOk 187 15 c187_15 = true := zOkN_app (n := 3) (fin := 20) (by decide +kernel) k187_20
theorem k187_10 : zOk 187 10 c187_10 = true := zOkN_app (n := 3) (fin := 15) (by decide +kernel) k187_15
theorem k187_5 : zOk 187 5 c187_5 = true := zOkN_app (n := 3) (fin := 10) (by decide +kernel) k187_10
theorem k187_0 : zOk 187 0 c187_0 = true := zOkN_app (n := 3) (fin := 5) (by decide +kernel) k187_5
theorem k187_101 : zOk 187 101 c187_101 = true := by decide +kernel
theorem k187_94 : zOk 187 94 c187_94 = true := zOkN_app (n := 3) (fin := 101) (by decide +kernel) k187_101
theorem k187_112 : zOk 187 112 c187_112 = true := by decide +kernel
theorem k187_108 : zOk 187 108 c187_108 = true := zOkN_app (n := 2) (fin := 112) (by decide +kernel) k187_112
theorem k187_125 : zOk 187 125 c187_125 = true := by decide +kernel
theorem k187_116 : zOk 187 116 c187_116 = true := zOkN_app (n := 5) (fin := 125) (by decide +kernel) k187_125
theorem k187_149 : zOk 187 149 c187_149 = true := by decide +kernel
theorem k187_143 : zOk 187 143 c187_143 = true := zOkN_app (n := 3) (fin := 149) (by decide +kernel) k187_149
theorem k187_133 : zOk 187 133 c187_133 = true := zOkN_app (n := 6) (fin := 143) (by decide +kernel) k187_143
theorem k187_174 : zOk 187 174 c187_174 = true := by decide +kernel
theorem k187_167 : zOk 187 167 c187_167 = true := zOkN_app (n := 3) (fin := 174) (by decide +kernel) k187_174
theorem k187_186 : zOk 187 186 c187_186 = true := by decide +kernel
theorem k187_185 : zOk 187 185 c187_185 = true := zOkN_app (n := 1) (fin := 186) (by decide +kernel) k187_186
theorem ok187 : zOkM 187 = true := (allc (q := (0, c187_0)) k187_0 (allc (q := (30, c187_30)) k187_30 (allc (q := (55, c187_55)) k187_55 (allc (q := (94, c187_94)) k187_94 (allc (q := (108, c187_108)) k187_108 (allc (q := (112, c187_112)) k187_112 (allc (q := (116, c187_116)) k187_116 (allc (q := (133, c187_133)) k187_133 (allc (q := (143, c187_143)) k187_143 (allc (q := (167, c187_167)) k187_167 (allc (q := (185, c187_185)) k187_185 (allc (q := (186, c187_186)) k187_186 (alln)))))))))))) : b187.all (fun q => zOk 187 q.1 q.2) = true)
theorem k188_32 : zOk 188 32 c188_32 = true := by decide +kernel
theorem k188_20 : zOk 188 20 c188_20 = true := zOkN_app (n := 8) (fin := 32) (by decide +kernel) k188_32
theorem k188_13 : zOk 188 13 c188_13 = true := zOkN_app (n := 3) (fin := 20) (by decide +kernel) k188_20
theorem k188_10 : zOk 188 10 c188_10 = true := zOkN_app (n := 2) (fin := 13) (by decide +kernel) k188_13
theorem k188_4 : zOk 188 4 c188_4 = true := zOkN_app (n := 3) (fin := 10) (by decide +kernel) k188_10
theorem k188_0 : zOk 188 0 c188_0 = true := zOkN_app (n := 4) (fin := 4) (by decide +kernel) k188_4
theorem k188_37 : zOk 188 37 c188_37 = true := by decide +kernel
theorem k188_36 : zOk 188 36 c188_36 = true := zOkN_app (n := 1) (fin := 37) (by decide +kernel) k188_37
theorem k188_44 : zOk 188 44 c188_44 = true := by decide +kernel
theorem k188_69 : zOk 188 69 c188_69 = true := by decide +kernel
theorem k188_59 : zOk 188 59 c188_59 = true := zOkN_app (n := 7) (fin := 69) (by decide +kernel) k188_69
theorem k188_50 : zOk 188 50 c188_50 = true := zOkN_app (n := 5) (fin := 59) (by decide +kernel) k188_59
theorem k188_90 : zOk 188 90 c188_90 = true := by decide +kernel
theorem k188_79 : zOk 188 79 c188_79 = true := zOkN_app (n := 8) (fin := 90) (by decide +kernel) k188_90
theorem k188_73 : zOk 188 73 c188_73 = true := zOkN_app (n := 3) (fin := 79) (by decide +kernel) k188_79
theorem k188_71 : zOk 188 71 c188_71 = true := zOkN_app (n := 2) (fin := 73) (by decide +kernel) k188_73
theorem k188_92 : zOk 188 92 c188_92 = true := by decide +kernel
theorem k188_98 : zOk 188 98 c188_98 = true := by decide +kernel
theorem ok188 : zOkM 188 = true := (allc (q := (0, c188_0)) k188_0 (allc (q := (4, c188_4)) k188_4 (allc (q := (13, c188_13)) k188_13 (allc (q := (36, c188_36)) k188_36 (allc (q := (37, c188_37)) k188_37 (allc (q := (44, c188_44)) k188_44 (allc (q := (50, c188_50)) k188_50 (allc (q := (69, c188_69)) k188_69 (allc (q := (71, c188_71)) k188_71 (allc (q := (73, c188_73)) k188_73 (allc (q := (92, c188_92)) k188_92 (allc (q := (98, c188_98)) k188_98 (alln)))))))))))) : b188.all (fun q => zOk 188 q.1 q.2) = true)
theorem k189_80 : zOk 189 80 c189_80 = true := by decide +kernel
theorem k189_39 : zOk 189 39 c189_39 = true := zOkN_app (n := 27) (fin := 80) (by decide +kernel) k189_80
theorem k189_28 : zOk 189 28 c189_28 = true := zOkN_app (n := 6) (fin := 39) (by decide +kernel) k189_39
theorem k189_19 : zOk 189 19 c189_19 = true := zOkN_app (n := 6) (fin := 28) (by decide +kernel) k189_28
theorem k189_12 : zOk 189 12 c189_12 = true := zOkN_app (n := 3) (fin := 19) (by decide +kernel) k189_19
theorem k189_9 : zOk 189 9 c189_9 = true := zOkN_app (n := 2) (fin := 12) (by decide +kernel) k189_12
theorem k189_3 : zOk 189 3 c189_3 = true := zOkN_app (n := 3) (fin := 9) (by decide +kernel) k189_9
theorem k189_0 : zOk 189 0 c189_0 = true := zOkN_app (n := 2) (fin := 3) (by decide +kernel) k189_3
theorem k189_86 : zOk 189 86 c189_86 = true := by decide +kernel
theorem k189_92 : zOk 189 92 c189_92 = true := by decide +kernel
theorem ok189 : zOkM 189 = true := (allc (q := (0, c189_0)) k189_0 (allc (q := (3, c189_3)) k189_3 (allc (q := (12, c189_12)) k189_12 (allc (q := (80, c189_80)) k189_80 (allc (q := (86, c189_86)) k189_86 (allc (q := (92, c189_92)) k189_92 (alln)))))) : b189.all (fun q => zOk 189 q.1 q.2) = true)
