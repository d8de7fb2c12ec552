set_option maxRecDepth 100000
theorem k190_8 : zOk 190 8 c190_8 = true := by decide +kernel
theorem k190_2 : zOk 190 2 c190_2 = true := zOkN_app (n := 4) (fin := 8) (by decide +kernel) k190_8
theorem k190_0 : zOk 190 0 c190_0 = true := zOkN_app (n := 2) (fin := 2) (by decide +kernel) k190_2
theorem k190_18 : zOk 190 18 c190_18 = true := by decide +kernel
theorem ok190 : zOkM 190 = true := (allc (q := (0, c190_0)) k190_0 (allc (q := (2, c190_2)) k190_2 (allc (q := (18, c190_18)) k190_18 (alln))) : b190.all (fun q => zOk 190 q.1 q.2) = true)
theorem k191_19 : zOk 191 19 c191_19 = true := by decide +kernel
theorem k191_11 : zOk 191 11 c191_11 = true := zOkN_app (n := 6) (fin := 19) (by decide +kernel) k191_19
theorem k191_2 : zOk 191 2 c191_2 = true := zOkN_app (n := 5) (fin := 11) (by decide +kernel) k191_11
theorem k191_0 : zOk 191 0 c191_0 = true := zOkN_app (n := 2) (fin := 2) (by decide +kernel) k191_2
theorem k191_31 : zOk 191 31 c191_31 = true := by decide +kernel
theorem k191_23 : zOk 191 23 c191_23 = true := zOkN_app (n := 6) (fin := 31) (by decide +kernel) k191_31
theorem k191_38 : zOk 191 38 c191_38 = true := by decide +kernel
theorem ok191 : zOkM 191 = true := (allc (q := (0, c191_0)) k191_0 (allc (q := (2, c191_2)) k191_2 (allc (q := (23, c191_23)) k191_23 (allc (q := (31, c191_31)) k191_31 (allc (q := (38, c191_38)) k191_38 (alln))))) : b191.all (fun q => zOk 191 q.1 q.2) = true)
theorem k192_0 : zOk 192 0 c192_0 = true := by decide +kernel
theorem ok192 : zOkM 192 = true := (allc (q := (0, c192_0)) k192_0 (alln) : b192.all (fun q => zOk 192 q.1 q.2) = true)
theorem k193_31 : zOk 193 31 c193_31 = true := by decide +kernel
theorem k193_25 : zOk 193 25 c193_25 = true := zOkN_app (n := 3) (fin := 31) (by decide +kernel) k193_31
theorem k193_0 : zOk 193 0 c193_0 = true := zOkN_app (n := 15) (fin := 25) (by decide +kernel) k193_25
theorem k193_86 : zOk 193 86 c193_86 = true := by decide +kernel
theorem k193_80 : zOk 193 80 c193_80 = true := zOkN_app (n := 3) (fin := 86) (by decide +kernel) k193_86
theorem k193_78 : zOk 193 78 c193_78 = true := zOkN_app (n := 2) (fin := 80) (by decide +kernel) k193_80
theorem k193_73 : zOk 193 73 c193_73 = true := zOkN_app (n := 3) (fin := 78) (by decide +kernel) k193_78
theorem k193_60 : zOk 193 60 c193_60 = true := zOkN_app (n := 7) (fin := 73) (by decide +kernel) k193_73
theorem k193_117 : zOk 193 117 c193_117 = true := by decide +kernel
theorem k193_139 : zOk 193 139 c193_139 = true := by decide +kernel
theorem k193_134 : zOk 193 134 c193_134 = true := zOkN_app (n := 3) (fin := 139) (by decide +kernel) k193_139
theorem k193_132 : zOk 193 132 c193_132 = true := zOkN_app (n := 2) (fin := 134) (by decide +kernel) k193_134
theorem k193_125 : zOk 193 125 c193_125 = true := zOkN_app (n := 5) (fin := 132) (by decide +kernel) k193_132
theorem k193_123 : zOk 193 123 c193_123 = true := zOkN_app (n := 2) (fin := 125) (by decide +kernel) k193_125
theorem k193_182 : zOk 193 182 c193_182 = true := by decide +kernel
theorem k193_206 : zOk 193 206 c193_206 = true := by decide +kernel
theorem ok193 : zOkM 193 = true := (allc (q := (0, c193_0)) k193_0 (allc (q := (25, c193_25)) k193_25 (allc (q := (60, c193_60)) k193_60 (allc (q := (73, c193_73)) k193_73 (allc (q := (80, c193_80)) k193_80 (allc (q := (117, c193_117)) k193_117 (allc (q := (123, c193_123)) k193_123 (allc (q := (125, c193_125)) k193_125 (allc (q := (134, c193_134)) k193_134 (allc (q := (182, c193_182)) k193_182 (allc (q := (206, c193_206)) k193_206 (alln))))))))))) : b193.all (fun q => zOk 193 q.1 q.2) = true)
theorem k194_22 : zOk 194 22 c194_22 = true := by decide +kernel
theorem k194_17 : zOk 194 17 c194_17 = true := zOkN_app (n := 3) (fin := 22) (by decide +kernel) k194_22
theorem k194_15 : zOk 194 15 c194_15 = true := zOkN_app (n := 2) (fin := 17) (by decide +kernel) k194_17
theorem k194_10 : zOk 194 10 c194_10 = true := zOkN_app (n := 3) (fin := 15) (by decide +kernel) k194_15
theorem k194_0 : zOk 194 0 c194_0 = true := zOkN_app (n := 6) (fin := 10) (by decide +kernel) k194_10
theorem k194_65 : zOk 194 65 c194_65 = true := by decide +kernel
theorem k194_80 : zOk 194 80 c194_80 = true := by decide +kernel
theorem k194_73 : zOk 194 73 c194_73 = true := zOkN_app (n := 3) (fin := 80) (by decide +kernel) k194_80
theorem k194_71 : zOk 194 71 c194_71 = true := zOkN_app (n := 2) (fin := 73) (by decide +kernel) k194_73
theorem k194_98 : zOk 194 98 c194_98 = true := by decide +kernel
theorem ok194 : zOkM 194 = true := (allc (q := (0, c194_0)) k194_0 (allc (q := (10, c194_10)) k194_10 (allc (q := (17, c194_17)) k194_17 (allc (q := (65, c194_65)) k194_65 (allc (q := (71, c194_71)) k194_71 (allc (q := (73, c194_73)) k194_73 (allc (q := (98, c194_98)) k194_98 (alln))))))) : b194.all (fun q => zOk 194 q.1 q.2) = true)
theorem k195_59 : zOk 195 59 c195_59 = true := by decide +kernel
theorem k195_53 : zOk 195 53 c195_53 = true := zOkN_app (n := 3) (fin := 59) (by decide +kernel) k195_59
theorem k195_47 : zOk 195 47 c195_47 = true := zOkN_app (n := 3) (fin := 53) (by decide +kernel) k195_53
theorem k195_44 : zOk 195 44 c195_44 = true := zOkN_app (n := 2) (fin := 47) (by decide +kernel) k195_47
theorem k195_37 : zOk 195 37 c195_37 = true := zOkN_app (n := 5) (fin := 44) (by decide +kernel) k195_44
theorem k195_22 : zOk 195 22 c195_22 = true := zOkN_app (n := 9) (fin := 37) (by decide +kernel) k195_37
theorem k195_17 : zOk 195 17 c195_17 = true := zOkN_app (n := 3) (fin := 22) (by decide +kernel) k195_22
theorem k195_0 : zOk 195 0 c195_0 = true := zOkN_app (n := 11) (fin := 17) (by decide +kernel) k195_17
theorem k195_106 : zOk 195 106 c195_106 = true := by decide +kernel
theorem k195_121 : zOk 195 121 c195_121 = true := by decide +kernel
theorem k195_114 : zOk 195 114 c195_114 = true := zOkN_app (n := 3) (fin := 121) (by decide +kernel) k195_121
theorem k195_112 : zOk 195 112 c195_112 = true := zOkN_app (n := 2) (fin := 114) (by decide +kernel) k195_114
theorem k195_139 : zOk 195 139 c195_139 = true := by decide +kernel
theorem k195_145 : zOk 195 145 c195_145 = true := by decide +kernel
theorem ok195 : zOkM 195 = true := (allc (q := (0, c195_0)) k195_0 (allc (q := (17, c195_17)) k195_17 (allc (q := (37, c195_37)) k195_37 (allc (q := (47, c195_47)) k195_47 (allc (q := (106, c195_106)) k195_106 (allc (q := (112, c195_112)) k195_112 (allc (q := (114, c195_114)) k195_114 (allc (q := (139, c195_139)) k195_139 (allc (q := (145, c195_145)) k195_145 (alln))))))))) : b195.all (fun q => zOk 195 q.1 q.2) = true)
theorem k196_48 : zOk 196 48 c196_48 = true := by decide +kernel
theorem k196_43 : zOk 196 43 c196_43 = true := zOkN_app (n := 2) (fin := 48) (by decide +kernel) k196_48
theorem k196_38 : zOk 196 38 c196_38 = true := zOkN_app (n := 2) (fin := 43) (by decide +kernel) k196_43
theorem k196_33 : zOk 196 33 c196_33 = true := zOkN_app (n := 2) (fin := 38) (by decide +kernel) k196_38
theorem k196_26 : zOk 196 26 c196_26 = true := zOkN_app (n := 3) (fin := 33) (by decide +kernel) k196_33
theorem k196_10 : zOk 196 10 c196_10 = true := zOkN_app (n := 12) (fin := 26) (by decide +kernel) k196_26
theorem k196_3 : zOk 196 3 c196_3 = true := zOkN_app (n := 3) (fin := 10) (by decide +kernel) k196_10
theorem k196_0 : zOk 196 0 c196_0 = true := zOkN_app (n := 2) (fin := 3) (by decide +kernel) k196_3
theorem k196_52 : zOk 196 52 c196_52 = true := by decide +kernel
theorem k196_69 : zOk 196 69 c196_69 = true := by decide +kernel
theorem k196_56 : zOk 196 56 c196_56 = true := zOkN_app (n := 8) (fin := 69) (by decide +kernel) k196_69
theorem k196_126 : zOk 196 126 c196_126 = true := by decide +kernel
theorem k196_132 : zOk 196 132 c196_132 = true := by decide +kernel
theorem ok196 : zOkM 196 = true := (allc (q := (0, c196_0)) k196_0 (allc (q := (3, c196_3)) k196_3 (allc (q := (26, c196_26)) k196_26 (allc (q := (52, c196_52)) k196_52 (allc (q := (56, c196_56)) k196_56 (allc (q := (69, c196_69)) k196_69 (allc (q := (126, c196_126)) k196_126 (allc (q := (132, c196_132)) k196_132 (alln)))))))) : b196.all (fun q => zOk 196 q.1 q.2) = true)
theorem k197_46 : zOk 197 46 c197_46 = true := by decide +kernel
theorem k197_40 : zOk 197 40 c197_40 = true := zOkN_app (n := 3) (fin := 46) (by decide +kernel) k197_46
theorem k197_34 : zOk 197 34 c197_34 = true := zOkN_app (n := 3) (fin := 40) (by decide +kernel) k197_40
theorem k197_31 : zOk 197 31 c197_31 = true := zOkN_app (n := 2) (fin := 34) (by decide +kernel) k197_34
theorem k197_22 : zOk 197 22 c197_22 = true := zOkN_app (n := 7) (fin := 31) (by decide +kernel) k197_31
theorem k197_0 : zOk 197 0 c197_0 = true := zOkN_app (n := 14) (fin := 22) (by decide +kernel) k197_22
theorem k197_81 : zOk 197 81 c197_81 = true := by decide +kernel
theorem k197_71 : zOk 197 71 c197_71 = true := zOkN_app (n := 8) (fin := 81) (by decide +kernel) k197_81
theorem k197_66 : zOk 197 66 c197_66 = true := zOkN_app (n := 3) (fin := 71) (by decide +kernel) k197_71
theorem k197_87 : zOk 197 87 c197_87 = true := by decide +kernel
theorem ok197 : zOkM 197 = true := (allc (q := (0, c197_0)) k197_0 (allc (q := (22, c197_22)) k197_22 (allc (q := (34, c197_34)) k197_34 (allc (q := (66, c197_66)) k197_66 (allc (q := (81, c197_81)) k197_81 (allc (q := (87, c197_87)) k197_87 (alln)))))) : b197.all (fun q => zOk 197 q.1 q.2) = true)
theorem k198_40 : zOk 198 40 c198_40 = true := by decide +kernel
theorem k198_33 : zOk 198 33 c198_33 = true := zOkN_app (n := 3) (fin := 40) (by decide +kernel) k198_40
theorem k198_30 : zOk 198 30 c198_30 = true := zOkN_app (n := 2) (fin := 33) (by decide +kernel) k198_33
theorem k198_24 : zOk 198 24 c198_24 = true := zOkN_app (n := 3) (fin := 30) (by decide +kernel) k198_30
theorem k198_21 : zOk 198 21 c198_21 = true := zOkN_app (n := 2) (fin := 24) (by decide +kernel) k198_24
theorem k198_16 : zOk 198 16 c198_16 = true := zOkN_app (n := 3) (fin := 21) (by decide +kernel) k198_21
theorem k198_0 : zOk 198 0 c198_0 = true := zOkN_app (n := 10) (fin := 16) (by decide +kernel) k198_16
theorem k198_76 : zOk 198 76 c198_76 = true := by decide +kernel
theorem k198_82 : zOk 198 82 c198_82 = true := by decide +kernel
theorem k198_146 : zOk 198 146 c198_146 = true := by decide +kernel
theorem k198_130 : zOk 198 130 c198_130 = true := zOkN_app (n := 9) (fin := 146) (by decide +kernel) k198_146
theorem k198_126 : zOk 198 126 c198_126 = true := zOkN_app (n := 2) (fin := 130) (by decide +kernel) k198_130
theorem k198_118 : zOk 198 118 c198_118 = true := zOkN_app (n := 3) (fin := 126) (by decide +kernel) k198_126
theorem k198_113 : zOk 198 113 c198_113 = true := zOkN_app (n := 4) (fin := 118) (by decide +kernel) k198_118
theorem k198_100 : zOk 198 100 c198_100 = true := zOkN_app (n := 7) (fin := 113) (by decide +kernel) k198_113
theorem k198_88 : zOk 198 88 c198_88 = true := zOkN_app (n := 8) (fin := 100) (by decide +kernel) k198_100
theorem k198_151 : zOk 198 151 c198_151 = true := by decide +kernel
theorem k198_150 : zOk 198 150 c198_150 = true := zOkN_app (n := 1) (fin := 151) (by decide +kernel) k198_151
theorem k198_158 : zOk 198 158 c198_158 = true := by decide +kernel
theorem ok198 : zOkM 198 = true := (allc (q := (0, c198_0)) k198_0 (allc (q := (16, c198_16)) k198_16 (allc (q := (24, c198_24)) k198_24 (allc (q := (33, c198_33)) k198_33 (allc (q := (76, c198_76)) k198_76 (allc (q := (82, c198_82)) k198_82 (allc (q := (88, c198_88)) k198_88 (allc (q := (113, c198_113)) k198_113 (allc (q := (118, c198_118)) k198_118 (allc (q := (146, c198_146)) k198_146 (allc (q := (150, c198_150)) k198_150 (allc (q := (151, c198_151)) k198_151 (allc (q := (158, c198_158)) k198_158 (alln))))))))))))) : b198.all (fun q => zOk 198 q.1 q.2) = true)
theorem k199_9 : zOk 199 9 c199_9 = true := by decide +kernel
theorem k199_0 : zOk 199 0 c199_0 = true := zOkN_app (n := 5) (fin := 9) (by decide +kernel) k199_9
theorem k199_21 : zOk 199 21 c199_21 = true := by decide +kernel
theorem k199_14 : zOk 199 14 c199_14 = true := zOkN_app (n := 3) (fin := 21) (by decide +kernel) k199_21
theorem k199_12 : zOk 199 12 c199_12 = true := zOkN_app (n := 2) (fin := 14) (by decide +kernel) k199_14
theorem k199_53 : zOk 199 53 c199_53 = true := by decide +kernel
theorem k199_47 : zOk 199 47 c199_47 = true := zOkN_app (n := 3) (fin := 53) (by decide +kernel) k199_53
theorem k199_45 : zOk 199 45 c199_45 = true := zOkN_app (n := 2) (fin := 47) (by decide +kernel) k199_47
theorem k199_68 : zOk 199 68 c199_68 = true := by decide +kernel
theorem ok199 : zOkM 199 = true := (allc (q := (0, c199_0)) k199_0 (allc (q := (12, c199_12)) k199_12 (allc (q := (14, c199_14)) k199_14 (allc (q := (45, c199_45)) k199_45 (allc (q := (47, c199_47)) k199_47 (allc (q := (68, c199_68)) k199_68 (alln)))))) : b199.all (fun q => zOk 199 q.1 q.2) = true)
theorem k200_9 : zOk 200 9 c200_9 = true := by decide +kernel
theorem k200_0 : zOk 200 0 c200_0 = true := zOkN_app (n := 5) (fin := 9) (by decide +kernel) k200_9
theorem k200_19 : zOk 200 19 c200_19 = true := by decide +kernel
theorem k200_13 : zOk 200 13 c200_13 = true := zOkN_app (n := 3) (fin := 19) (by decide +kernel) k200_19
theorem k200_11 : zOk 200 11 c200_11 = true := zOkN_app (n := 2) (fin := 13) (by decide +kernel) k200_13
theorem k200_50 : zOk 200 50 c200_50 = true := by decide +kernel
theorem k200_37 : zOk 200 37 c200_37 = true := zOkN_app (n := 7) (fin := 50) (by decide +kernel) k200_50
theorem k200_64 : zOk 200 64 c200_64 = true := by decide +kernel
theorem k200_55 : zOk 200 55 c200_55 = true := zOkN_app (n := 5) (fin := 64) (by decide +kernel) k200_64
theorem ok200 : zOkM 200 = true := (allc (q := (0, c200_0)) k200_0 (allc (q := (11, c200_11)) k200_11 (allc (q := (13, c200_13)) k200_13 (allc (q := (37, c200_37)) k200_37 (allc (q := (55, c200_55)) k200_55 (allc (q := (64, c200_64)) k200_64 (alln)))))) : b200.all (fun q => zOk 200 q.1 q.2) = true)
theorem k201_9 : zOk 201 9 c201_9 = true := by decide +kernel
theorem k201_0 : zOk 201 0 c201_0 = true := zOkN_app (n := 5) (fin := 9) (by decide +kernel) k201_9
theorem k201_54 : zOk 201 54 c201_54 = true := by decide +kernel
theorem k201_43 : zOk 201 43 c201_43 = true := zOkN_app (n := 7) (fin := 54) (by decide +kernel) k201_54
theorem k201_40 : zOk 201 40 c201_40 = true := zOkN_app (n := 2) (fin := 43) (by decide +kernel) k201_43
theorem k201_34 : zOk 201 34 c201_34 = true := zOkN_app (n := 3) (fin := 40) (by decide +kernel) k201_40
theorem k201_11 : zOk 201 11 c201_11 = true := zOkN_app (n := 15) (fin := 34) (by decide +kernel) k201_34
theorem k201_92 : zOk 201 92 c201_92 = true := by decide +kernel
theorem k201_98 : zOk 201 98 c201_98 = true := by decide +kernel
theorem ok201 : zOkM 201 = true := (allc (q := (0, c201_0)) k201_0 (allc (q := (11, c201_11)) k201_11 (allc (q := (34, c201_34)) k201_34 (allc (q := (43, c201_43)) k201_43 (allc (q := (92, c201_92)) k201_92 (allc (q := (98, c201_98)) k201_98 (alln)))))) : b201.all (fun q => zOk 201 q.1 q.2) = true)
theorem k202_7 : zOk 202 7 c202_7 = true := by decide +kernel
theorem k202_0 : zOk 202 0 c202_0 = true := zOkN_app (n := 3) (fin := 7) (by decide +kernel) k202_7
theorem k202_30 : zOk 202 30 c202_30 = true := by decide +kernel
theorem k202_20 : zOk 202 20 c202_20 = true := zOkN_app (n := 5) (fin := 30) (by decide +kernel) k202_30
theorem k202_10 : zOk 202 10 c202_10 = true := zOkN_app (n := 5) (fin := 20) (by decide +kernel) k202_20
theorem k202_45 : zOk 202 45 c202_45 = true := by decide +kernel
theorem k202_44 : zOk 202 44 c202_44 = true := zOkN_app (n := 1) (fin := 45) (by decide +kernel) k202_45
theorem ok202 : zOkM 202 = true := (allc (q := (0, c202_0)) k202_0 (allc (q := (10, c202_10)) k202_10 (allc (q := (44, c202_44)) k202_44 (allc (q := (45, c202_45)) k202_45 (alln)))) : b202.all (fun q => zOk 202 q.1 q.2) = true)
theorem k203_7 : zOk 203 7 c203_7 = true := by decide +kernel
theorem k203_0 : zOk 203 0 c203_0 = true := zOkN_app (n := 3) (fin := 7) (by decide +kernel) k203_7
theorem k203_20 : zOk 203 20 c203_20 = true := by decide +kernel
theorem k203_10 : zOk 203 10 c203_10 = true := zOkN_app (n := 5) (fin := 20) (by decide +kernel) k203_20
theorem k203_30 : zOk 203 30 c203_30 = true := by decide +kernel
theorem k203_29 : zOk 203 29 c203_29 = true := zOkN_app (n := 1) (fin := 30) (by decide +kernel) k203_30
theorem ok203 : zOkM 203 = true := (allc (q := (0, c203_0)) k203_0 (allc (q := (10, c203_10)) k203_10 (allc (q := (29, c203_29)) k203_29 (allc (q := (30, c203_30)) k203_30 (alln)))) : b203.all (fun q => zOk 203 q.1 q.2) = true)
theorem k204_13 : zOk 204 13 c204_13 = true := by decide +kernel
theorem k204_8 : zOk 204 8 c204_8 = true := zOkN_app (n := 2) (fin := 13) (by decide +kernel) k204_13
theorem k204_0 : zOk 204 0 c204_0 = true := zOkN_app (n := 6) (fin := 8) (by decide +kernel) k204_8
theorem k204_38 : zOk 204 38 c204_38 = true := by decide +kernel
theorem ok204 : zOkM 204 = true := (allc (q := (0, c204_0)) k204_0 (allc (q := (8, c204_8)) k204_8 (allc (q := (38, c204_38)) k204_38 (alln))) : b204.all (fun q => zOk 204 q.1 q.2) = true)
theorem k205_13 : zOk 205 13 c205_13 = true := by decide +kernel
theorem k205_8 : zOk 205 8 c205_8 = true := zOkN_app (n := 2) (fin := 13) (by decide +kernel) k205_13
theorem k205_0 : zOk 205 0 c205_0 = true := zOkN_app (n := 6) (fin := 8) (by decide +kernel) k205_8
theorem k205_50 : zOk 205 50 c205_50 = true := by decide +kernel
theorem ok205 : zOkM 205 = true := (allc (q := (0, c205_0)) k205_0 (allc (q := (8, c205_8)) k205_8 (allc (q := (50, c205_50)) k205_50 (alln))) : b205.all (fun q => zOk 205 q.1 q.2) = true)
theorem k206_7 : zOk 206 7 c206_7 = true := by decide +kernel
theorem k206_0 : zOk 206 0 c206_0 = true := zOkN_app (n := 3) (fin := 7) (by decide +kernel) k206_7
theorem k206_18 : zOk 206 18 c206_18 = true := by decide +kernel
theorem k206_10 : zOk 206 10 c206_10 = true := zOkN_app (n := 4) (fin := 18) (by decide +kernel) k206_18
theorem k206_29 : zOk 206 29 c206_29 = true := by decide +kernel
theorem k206_22 : zOk 206 22 c206_22 = true := zOkN_app (n := 3) (fin := 29) (by decide +kernel) k206_29
theorem k206_20 : zOk 206 20 c206_20 = true := zOkN_app (n := 2) (fin := 22) (by decide +kernel) k206_22
theorem k206_72 : zOk 206 72 c206_72 = true := by decide +kernel
theorem k206_56 : zOk 206 56 c206_56 = true := zOkN_app (n := 8) (fin := 72) (by decide +kernel) k206_72
theorem k206_49 : zOk 206 49 c206_49 = true := zOkN_app (n := 3) (fin := 56) (by decide +kernel) k206_56
theorem k206_47 : zOk 206 47 c206_47 = true := zOkN_app (n := 2) (fin := 49) (by decide +kernel) k206_49
theorem k206_91 : zOk 206 91 c206_91 = true := by decide +kernel
theorem ok206 : zOkM 206 = true := (allc (q := (0, c206_0)) k206_0 (allc (q := (10, c206_10)) k206_10 (allc (q := (20, c206_20)) k206_20 (allc (q := (22, c206_22)) k206_22 (allc (q := (47, c206_47)) k206_47 (allc (q := (49, c206_49)) k206_49 (allc (q := (91, c206_91)) k206_91 (alln))))))) : b206.all (fun q => zOk 206 q.1 q.2) = true)
theorem k207_23 : zOk 207 23 c207_23 = true := by decide +kernel
theorem k207_16 : zOk 207 16 c207_16 = true := zOkN_app (n := 3) (fin := 23) (by decide +kernel) k207_23
theorem k207_10 : zOk 207 10 c207_10 = true := zOkN_app (n := 4) (fin := 16) (by decide +kernel) k207_16
theorem k207_3 : zOk 207 3 c207_3 = true := zOkN_app (n := 3) (fin := 10) (by decide +kernel) k207_10
theorem k207_0 : zOk 207 0 c207_0 = true := zOkN_app (n := 2) (fin := 3) (by decide +kernel) k207_3
theorem k207_60 : zOk 207 60 c207_60 = true := by decide +kernel
theorem k207_66 : zOk 207 66 c207_66 = true := by decide +kernel
theorem ok207 : zOkM 207 = true := (allc (q := (0, c207_0)) k207_0 (allc (q := (3, c207_3)) k207_3 (allc (q := (16, c207_16)) k207_16 (allc (q := (60, c207_60)) k207_60 (allc (q := (66, c207_66)) k207_66 (alln))))) : b207.all (fun q => zOk 207 q.1 q.2) = true)
theorem k208_8 : zOk 208 8 c208_8 = true := by decide +kernel
theorem k208_2 : zOk 208 2 c208_2 = true := zOkN_app (n := 3) (fin := 8) (by decide +kernel) k208_8
theorem k208_0 : zOk 208 0 c208_0 = true := zOkN_app (n := 2) (fin := 2) (by decide +kernel) k208_2
theorem k208_34 : zOk 208 34 c208_34 = true := by decide +kernel
theorem k208_28 : zOk 208 28 c208_28 = true := zOkN_app (n := 3) (fin := 34) (by decide +kernel) k208_34
theorem k208_26 : zOk 208 26 c208_26 = true := zOkN_app (n := 2) (fin := 28) (by decide +kernel) k208_28
theorem k208_68 : zOk 208 68 c208_68 = true := by decide +kernel
theorem k208_64 : zOk 208 64 c208_64 = true := zOkN_app (n := 2) (fin := 68) (by decide +kernel) k208_68
theorem k208_58 : zOk 208 58 c208_58 = true := zOkN_app (n := 3) (fin := 64) (by decide +kernel) k208_64
theorem k208_56 : zOk 208 56 c208_56 = true := zOkN_app (n := 2) (fin := 58) (by decide +kernel) k208_58
theorem k208_88 : zOk 208 88 c208_88 = true := by decide +kernel
theorem ok208 : zOkM 208 = true := (allc (q := (0, c208_0)) k208_0 (allc (q := (2, c208_2)) k208_2 (allc (q := (26, c208_26)) k208_26 (allc (q := (28, c208_28)) k208_28 (allc (q := (56, c208_56)) k208_56 (allc (q := (58, c208_58)) k208_58 (allc (q := (88, c208_88)) k208_88 (alln))))))) : b208.all (fun q => zOk 208 q.1 q.2) = true)
theorem k209_54 : zOk 209 54 c209_54 = true := by decide +kernel
theorem k209_45 : zOk 209 45 c209_45 = true := zOkN_app (n := 5) (fin := 54) (by decide +kernel) k209_54
theorem k209_29 : zOk 209 29 c209_29 = true := zOkN_app (n := 9) (fin := 45) (by decide +kernel) k209_45
theorem k209_22 : zOk 209 22 c209_22 = true := zOkN_app (n := 3) (fin := 29) (by decide +kernel) k209_29
theorem k209_19 : zOk 209 19 c209_19 = true := zOkN_app (n := 2) (fin := 22) (by decide +kernel) k209_22
theorem k209_12 : zOk 209 12 c209_12 = true := zOkN_app (n := 3) (fin := 19) (by decide +kernel) k209_19
theorem k209_0 : zOk 209 0 c209_0 = true := zOkN_app (n := 8) (fin := 12) (by decide +kernel) k209_12
theorem k209_63 : zOk 209 63 c209_63 = true := by decide +kernel
theorem k209_62 : zOk 209 62 c209_62 = true := zOkN_app (n := 1) (fin := 63) (by decide +kernel) k209_63
theorem k209_70 : zOk 209 70 c209_70 = true := by decide +kernel
theorem k209_76 : zOk 209 76 c209_76 = true := by decide +kernel
theorem ok209 : zOkM 209 = true := (allc (q := (0, c209_0)) k209_0 (allc (q := (12, c209_12)) k209_12 (allc (q := (22, c209_22)) k209_22 (allc (q := (62, c209_62)) k209_62 (allc (q := (63, c209_63)) k209_63 (allc (q := (70, c209_70)) k209_70 (allc (q := (76, c209_76)) k209_76 (alln))))))) : b209.all (fun q => zOk 209 q.1 q.2) = true)
theorem k210_7 : zOk 210 7 c210_7 = true := by decide +kernel
theorem k210_0 : zOk 210 0 c210_0 = true := zOkN_app (n := 3) (fin := 7) (by decide +kernel) k210_7
theorem k210_26 : zOk 210 26 c210_26 = true := by decide +kernel
theorem k210_18 : zOk 210 18 c210_18 = true := zOkN_app (n := 4) (fin := 26) (by decide +kernel) k210_26
theorem k210_10 : zOk 210 10 c210_10 = true := zOkN_app (n := 4) (fin := 18) (by decide +kernel) k210_18
theorem k210_36 : zOk 210 36 c210_36 = true := by decide +kernel
theorem k210_35 : zOk 210 35 c210_35 = true := zOkN_app (n := 1) (fin := 36) (by decide +kernel) k210_36
theorem ok210 : zOkM 210 = true := (allc (q := (0, c210_0)) k210_0 (allc (q := (10, c210_10)) k210_10 (allc (q := (35, c210_35)) k210_35 (allc (q := (36, c210_36)) k210_36 (alln)))) : b210.all (fun q => zOk 210 q.1 q.2) = true)
theorem k211_7 : zOk 211 7 c211_7 = true := by decide +kernel
theorem k211_0 : zOk 211 0 c211_0 = true := zOkN_app (n := 3) (fin := 7) (by decide +kernel) k211_7
theorem k211_18 : zOk 211 18 c211_18 = true := by decide +kernel
theorem k211_10 : zOk 211 10 c211_10 = true := zOkN_app (n := 4) (fin := 18) (by decide +kernel) k211_18
theorem k211_43 : zOk 211 43 c211_43 = true := by decide +kernel
theorem k211_32 : zOk 211 32 c211_32 = true := zOkN_app (n := 7) (fin := 43) (by decide +kernel) k211_43
theorem k211_24 : zOk 211 24 c211_24 = true := zOkN_app (n := 4) (fin := 32) (by decide +kernel) k211_32
theorem k211_20 : zOk 211 20 c211_20 = true := zOkN_app (n := 4) (fin := 24) (by decide +kernel) k211_24
theorem k211_50 : zOk 211 50 c211_50 = true := by decide +kernel
theorem k211_49 : zOk 211 49 c211_49 = true := zOkN_app (n := 1) (fin := 50) (by decide +kernel) k211_50
theorem k211_58 : zOk 211 58 c211_58 = true := by decide +kernel
theorem ok211 : zOkM 211 = true := (allc (q := (0, c211_0)) k211_0 (allc (q := (10, c211_10)) k211_10 (allc (q := (20, c211_20)) k211_20 (allc (q := (24, c211_24)) k211_24 (allc (q := (49, c211_49)) k211_49 (allc (q := (50, c211_50)) k211_50 (allc (q := (58, c211_58)) k211_58 (alln))))))) : b211.all (fun q => zOk 211 q.1 q.2) = true)
theorem k212_0 : zOk 212 0 c212_0 = true := by decide +kernel
theorem ok212 : zOkM 212 = true := (allc (q := (0, c212_0)) k212_0 (alln) : b212.all (fun q => zOk 212 q.1 q.2) = true)
theorem k213_128 : zOk 213 128 c213_128 = true := by decide +kernel
theorem k213_98 : zOk 213 98 c213_98 = true := zOkN_app (n := 18) (fin := 128) (by decide +kernel) k213_128
theorem k213_63 : zOk 213 63 c213_63 = true := zOkN_app (n := 22) (fin := 98) (by decide +kernel) k213_98
theorem k213_58 : zOk 213 58 c213_58 = true := zOkN_app (n := 2) (fin := 63) (by decide +kernel) k213_63
theorem k213_46 : zOk 213 46 c213_46 = true := zOkN_app (n := 6) (fin := 58) (by decide +kernel) k213_58
theorem k213_18 : zOk 213 18 c213_18 = true := zOkN_app (n := 20) (fin := 46) (by decide +kernel) k213_46
theorem k213_12 : zOk 213 12 c213_12 = true := zOkN_app (n := 3) (fin := 18) (by decide +kernel) k213_18
theorem k213_10 : zOk 213 10 c213_10 = true := zOkN_app (n := 2) (fin := 12) (by decide +kernel) k213_12
theorem k213_2 : zOk 213 2 c213_2 = true := zOkN_app (n := 4) (fin := 10) (by decide +kernel) k213_10
theorem k213_0 : zOk 213 0 c213_0 = true := zOkN_app (n := 2) (fin := 2) (by decide +kernel) k213_2
theorem k213_134 : zOk 213 134 c213_134 = true := by decide +kernel
theorem k213_140 : zOk 213 140 c213_140 = true := by decide +kernel
theorem k213_146 : zOk 213 146 c213_146 = true := by decide +kernel
theorem ok213 : zOkM 213 = true := (allc (q := (0, c213_0)) k213_0 (allc (q := (2, c213_2)) k213_2 (allc (q := (12, c213_12)) k213_12 (allc (q := (46, c213_46)) k213_46 (allc (q := (128, c213_128)) k213_128 (allc (q := (134, c213_134)) k213_134 (allc (q := (140, c213_140)) k213_140 (allc (q := (146, c213_146)) k213_146 (alln)))))))) : b213.all (fun q => zOk 213 q.1 q.2) = true)
theorem k214_69 : zOk 214 69 c214_69 = true := by decide +kernel
theorem k214_54 : zOk 214 54 c214_54 = true := zOkN_app (n := 9) (fin := 69) (by decide +kernel) k214_69
theorem k214_50 : zOk 214 50 c214_50 = true := zOkN_app (n := 2) (fin := 54) (by decide +kernel) k214_54
theorem k214_43 : zOk 214 43 c214_43 = true := zOkN_app (n := 3) (fin := 50) (by decide +kernel) k214_50
theorem k214_25 : zOk 214 25 c214_25 = true := zOkN_app (n := 13) (fin := 43) (by decide +kernel) k214_43
theorem k214_21 : zOk 214 21 c214_21 = true := zOkN_app (n := 2) (fin := 25) (by decide +kernel) k214_25
theorem k214_17 : zOk 214 17 c214_17 = true := zOkN_app (n := 2) (fin := 21) (by decide +kernel) k214_21
theorem k214_0 : zOk 214 0 c214_0 = true := zOkN_app (n := 11) (fin := 17) (by decide +kernel) k214_17
theorem k214_74 : zOk 214 74 c214_74 = true := by decide +kernel
theorem k214_73 : zOk 214 73 c214_73 = true := zOkN_app (n := 1) (fin := 74) (by decide +kernel) k214_74
theorem k214_96 : zOk 214 96 c214_96 = true := by decide +kernel
theorem k214_92 : zOk 214 92 c214_92 = true := zOkN_app (n := 2) (fin := 96) (by decide +kernel) k214_96
theorem k214_85 : zOk 214 85 c214_85 = true := zOkN_app (n := 3) (fin := 92) (by decide +kernel) k214_92
theorem k214_81 : zOk 214 81 c214_81 = true := zOkN_app (n := 2) (fin := 85) (by decide +kernel) k214_85
theorem k214_125 : zOk 214 125 c214_125 = true := by decide +kernel
theorem k214_131 : zOk 214 131 c214_131 = true := by decide +kernel
theorem ok214 : zOkM 214 = true := (allc (q := (0, c214_0)) k214_0 (allc (q := (17, c214_17)) k214_17 (allc (q := (43, c214_43)) k214_43 (allc (q := (73, c214_73)) k214_73 (allc (q := (74, c214_74)) k214_74 (allc (q := (81, c214_81)) k214_81 (allc (q := (85, c214_85)) k214_85 (allc (q := (125, c214_125)) k214_125 (allc (q := (131, c214_131)) k214_131 (alln))))))))) : b214.all (fun q => zOk 214 q.1 q.2) = true)
theorem k215_5 : zOk 215 5 c215_5 = true := by decide +kernel
theorem k215_0 : zOk 215 0 c215_0 = true := zOkN_app (n := 2) (fin := 5) (by decide +kernel) k215_5
theorem k215_100 : zOk 215 100 c215_100 = true := by decide +kernel
theorem k215_75 : zOk 215 75 c215_75 = true := zOkN_app (n := 15) (fin := 100) (by decide +kernel) k215_100
theorem k215_38 : zOk 215 38 c215_38 = true := zOkN_app (n := 22) (fin := 75) (by decide +kernel) k215_75
theorem k215_31 : zOk 215 31 c215_31 = true := zOkN_app (n := 3) (fin := 38) (by decide +kernel) k215_38
theorem k215_28 : zOk 215 28 c215_28 = true := zOkN_app (n := 2) (fin := 31) (by decide +kernel) k215_31
theorem k215_22 : zOk 215 22 c215_22 = true := zOkN_app (n := 3) (fin := 28) (by decide +kernel) k215_28
theorem k215_6 : zOk 215 6 c215_6 = true := zOkN_app (n := 11) (fin := 22) (by decide +kernel) k215_22
theorem k215_106 : zOk 215 106 c215_106 = true := by decide +kernel
theorem k215_112 : zOk 215 112 c215_112 = true := by decide +kernel
theorem ok215 : zOkM 215 = true := (allc (q := (0, c215_0)) k215_0 (allc (q := (6, c215_6)) k215_6 (allc (q := (22, c215_22)) k215_22 (allc (q := (31, c215_31)) k215_31 (allc (q := (100, c215_100)) k215_100 (allc (q := (106, c215_106)) k215_106 (allc (q := (112, c215_112)) k215_112 (alln))))))) : b215.all (fun q => zOk 215 q.1 q.2) = true)
theorem k216_130 : zOk 216 130 c216_130 = true := by decide +kernel
theorem k216_105 : zOk 216 105 c216_105 = true := zOkN_app (n := 15) (fin := 130) (by decide +kernel) k216_130
theorem k216_51 : zOk 216 51 c216_51 = true := zOkN_app (n := 35) (fin := 105) (by decide +kernel) k216_105
theorem k216_46 : zOk 216 46 c216_46 = true := zOkN_app (n := 2) (fin := 51) (by decide +kernel) k216_51
theorem k216_39 : zOk 216 39 c216_39 = true := zOkN_app (n := 3) (fin := 46) (by decide +kernel) k216_46
theorem k216_18 : zOk 216 18 c216_18 = true := zOkN_app (n := 15) (fin := 39) (by decide +kernel) k216_39
theorem k216_11 : zOk 216 11 c216_11 = true := zOkN_app (n := 3) (fin := 18) (by decide +kernel) k216_18
theorem k216_0 : zOk 216 0 c216_0 = true := zOkN_app (n := 6) (fin := 11) (by decide +kernel) k216_11
theorem k216_136 : zOk 216 136 c216_136 = true := by decide +kernel
theorem k216_142 : zOk 216 142 c216_142 = true := by decide +kernel
theorem ok216 : zOkM 216 = true := (allc (q := (0, c216_0)) k216_0 (allc (q := (11, c216_11)) k216_11 (allc (q := (39, c216_39)) k216_39 (allc (q := (130, c216_130)) k216_130 (allc (q := (136, c216_136)) k216_136 (allc (q := (142, c216_142)) k216_142 (alln)))))) : b216.all (fun q => zOk 216 q.1 q.2) = true)
theorem k217_45 : zOk 217 45 c217_45 = true := by decide +kernel
theorem k217_36 : zOk 217 36 c217_36 = true := zOkN_app (n := 4) (fin := 45) (by decide +kernel) k217_45
theorem k217_20 : zOk 217 20 c217_20 = true := zOkN_app (n := 11) (fin := 36) (by decide +kernel) k217_36
theorem k217_12 : zOk 217 12 c217_12 = true := zOkN_app (n := 4) (fin := 20) (by decide +kernel) k217_20
theorem k217_10 : zOk 217 10 c217_10 = true := zOkN_app (n := 2) (fin := 12) (by decide +kernel) k217_12
theorem k217_2 : zOk 217 2 c217_2 = true := zOkN_app (n := 4) (fin := 10) (by decide +kernel) k217_10
theorem k217_0 : zOk 217 0 c217_0 = true := zOkN_app (n := 2) (fin := 2) (by decide +kernel) k217_2
theorem k217_105 : zOk 217 105 c217_105 = true := by decide +kernel
theorem k217_111 : zOk 217 111 c217_111 = true := by decide +kernel
theorem k217_132 : zOk 217 132 c217_132 = true := by decide +kernel
theorem k217_124 : zOk 217 124 c217_124 = true := zOkN_app (n := 4) (fin := 132) (by decide +kernel) k217_132
theorem k217_117 : zOk 217 117 c217_117 = true := zOkN_app (n := 5) (fin := 124) (by decide +kernel) k217_124
theorem k217_151 : zOk 217 151 c217_151 = true := by decide +kernel
theorem ok217 : zOkM 217 = true := (allc (q := (0, c217_0)) k217_0 (allc (q := (2, c217_2)) k217_2 (allc (q := (12, c217_12)) k217_12 (allc (q := (36, c217_36)) k217_36 (allc (q := (105, c217_105)) k217_105 (allc (q := (111, c217_111)) k217_111 (allc (q := (117, c217_117)) k217_117 (allc (q := (124, c217_124)) k217_124 (allc (q := (151, c217_151)) k217_151 (alln))))))))) : b217.all (fun q => zOk 217 q.1 q.2) = true)
theorem k218_11 : zOk 218 11 c218_11 = true := by decide +kernel
theorem k218_5 : zOk 218 5 c218_5 = true := zOkN_app (n := 3) (fin := 11) (by decide +kernel) k218_11
theorem k218_0 : zOk 218 0 c218_0 = true := zOkN_app (n := 4) (fin := 5) (by decide +kernel) k218_5
theorem k218_21 : zOk 218 21 c218_21 = true := by decide +kernel
theorem ok218 : zOkM 218 = true := (allc (q := (0, c218_0)) k218_0 (allc (q := (5, c218_5)) k218_5 (allc (q := (21, c218_21)) k218_21 (alln))) : b218.all (fun q => zOk 218 q.1 q.2) = true)
theorem k219_60 : zOk 219 60 c219_60 = true := by decide +kernel
theorem k219_55 : zOk 219 55 c219_55 = true := zOkN_app (n := 2) (fin := 60) (by decide +kernel) k219_60
theorem k219_46 : zOk 219 46 c219_46 = true := zOkN_app (n := 4) (fin := 55) (by decide +kernel) k219_55
theorem k219_31 : zOk 219 31 c219_31 = true := zOkN_app (n := 8) (fin := 46) (by decide +kernel) k219_46
theorem k219_22 : zOk 219 22 c219_22 = true := zOkN_app (n := 4) (fin := 31) (by decide +kernel) k219_31
theorem k219_16 : zOk 219 16 c219_16 = true := zOkN_app (n := 4) (fin := 22) (by decide +kernel) k219_22
theorem k219_11 : zOk 219 11 c219_11 = true := zOkN_app (n := 2) (fin := 16) (by decide +kernel) k219_16
theorem k219_0 : zOk 219 0 c219_0 = true := zOkN_app (n := 7) (fin := 11) (by decide +kernel) k219_11
theorem k219_100 : zOk 219 100 c219_100 = true := by decide +kernel
theorem k219_106 : zOk 219 106 c219_106 = true := by decide +kernel
theorem k219_129 : zOk 219 129 c219_129 = true := by decide +kernel
theorem ok219 : zOkM 219 = true := (allc (q := (0, c219_0)) k219_0 (allc (q := (11, c219_11)) k219_11 (allc (q := (22, c219_22)) k219_22 (allc (q := (46, c219_46)) k219_46 (allc (q := (100, c219_100)) k219_100 (allc (q := (106, c219_106)) k219_106 (allc (q := (129, c219_129)) k219_129 (alln))))))) : b219.all (fun q => zOk 219 q.1 q.2) = true)
theorem k220_24 : zOk 220 24 c220_24 = true := by decide +kernel
theorem k220_0 : zOk 220 0 c220_0 = true := zOkN_app (n := 14) (fin := 24) (by decide +kernel) k220_24
theorem k220_29 : zOk 220 29 c220_29 = true := by decide +kernel
theorem k220_28 : zOk 220 28 c220_28 = true := zOkN_app (n := 1) (fin := 29) (by decide +kernel) k220_29
theorem ok220 : zOkM 220 = true := (allc (q := (0, c220_0)) k220_0 (allc (q := (28, c220_28)) k220_28 (allc (q := (29, c220_29)) k220_29 (alln))) : b220.all (fun q => zOk 220 q.1 q.2) = true)
theorem k221_10 : zOk 221 10 c221_10 = true := by decide +kernel
theorem k221_2 : zOk 221 2 c221_2 = true := zOkN_app (n := 4) (fin := 10) (by decide +kernel) k221_10
theorem k221_0 : zOk 221 0 c221_0 = true := zOkN_app (n := 2) (fin := 2) (by decide +kernel) k221_2
theorem k221_27 : zOk 221 27 c221_27 = true := by decide +kernel
theorem ok221 : zOkM 221 = true := (allc (q := (0, c221_0)) k221_0 (allc (q := (2, c221_2)) k221_2 (allc (q := (27, c221_27)) k221_27 (alln))) : b221.all (fun q => zOk 221 q.1 q.2) = true)
theorem k222_9 : zOk 222 9 c222_9 = true := by decide +kernel
theorem k222_4 : zOk 222 4 c222_4 = true := zOkN_app (n := 3) (fin := 9) (by decide +kernel) k222_9
theorem k222_0 : zOk 222 0 c222_0 = true := zOkN_app (n := 4) (fin := 4) (by decide +kernel) k222_4
theorem k222_22 : zOk 222 22 c222_22 = true := by decide +kernel
theorem ok222 : zOkM 222 = true := (allc (q := (0, c222_0)) k222_0 (allc (q := (4, c222_4)) k222_4 (allc (q := (22, c222_22)) k222_22 (alln))) : b222.all (fun q => zOk 222 q.1 q.2) = true)
theorem k223_55 : zOk 223 55 c223_55 = true := by decide +kernel
theorem k223_41 : zOk 223 41 c223_41 = true := zOkN_app (n := 8) (fin := 55) (by decide +kernel) k223_55
theorem k223_32 : zOk 223 32 c223_32 = true := zOkN_app (n := 5) (fin := 41) (by decide +kernel) k223_41
theorem k223_25 : zOk 223 25 c223_25 = true := zOkN_app (n := 5) (fin := 32) (by decide +kernel) k223_32
theorem k223_10 : zOk 223 10 c223_10 = true := zOkN_app (n := 11) (fin := 25) (by decide +kernel) k223_25
theorem k223_2 : zOk 223 2 c223_2 = true := zOkN_app (n := 4) (fin := 10) (by decide +kernel) k223_10
theorem k223_0 : zOk 223 0 c223_0 = true := zOkN_app (n := 2) (fin := 2) (by decide +kernel) k223_2
theorem k223_60 : zOk 223 60 c223_60 = true := by decide +kernel
theorem k223_59 : zOk 223 59 c223_59 = true := zOkN_app (n := 1) (fin := 60) (by decide +kernel) k223_60
theorem k223_67 : zOk 223 67 c223_67 = true := by decide +kernel
theorem k223_73 : zOk 223 73 c223_73 = true := by decide +kernel
theorem ok223 : zOkM 223 = true := (allc (q := (0, c223_0)) k223_0 (allc (q := (2, c223_2)) k223_2 (allc (q := (25, c223_25)) k223_25 (allc (q := (59, c223_59)) k223_59 (allc (q := (60, c223_60)) k223_60 (allc (q := (67, c223_67)) k223_67 (allc (q := (73, c223_73)) k223_73 (alln))))))) : b223.all (fun q => zOk 223 q.1 q.2) = true)
theorem k224_67 : zOk 224 67 c224_67 = true := by decide +kernel
theorem k224_48 : zOk 224 48 c224_48 = true := zOkN_app (n := 10) (fin := 67) (by decide +kernel) k224_67
theorem k224_34 : zOk 224 34 c224_34 = true := zOkN_app (n := 7) (fin := 48) (by decide +kernel) k224_48
theorem k224_21 : zOk 224 21 c224_21 = true := zOkN_app (n := 7) (fin := 34) (by decide +kernel) k224_34
theorem k224_17 : zOk 224 17 c224_17 = true := zOkN_app (n := 2) (fin := 21) (by decide +kernel) k224_21
theorem k224_9 : zOk 224 9 c224_9 = true := zOkN_app (n := 4) (fin := 17) (by decide +kernel) k224_17
theorem k224_0 : zOk 224 0 c224_0 = true := zOkN_app (n := 7) (fin := 9) (by decide +kernel) k224_9
theorem k224_72 : zOk 224 72 c224_72 = true := by decide +kernel
theorem k224_71 : zOk 224 71 c224_71 = true := zOkN_app (n := 1) (fin := 72) (by decide +kernel) k224_72
theorem k224_79 : zOk 224 79 c224_79 = true := by decide +kernel
theorem ok224 : zOkM 224 = true := (allc (q := (0, c224_0)) k224_0 (allc (q := (9, c224_9)) k224_9 (allc (q := (67, c224_67)) k224_67 (allc (q := (71, c224_71)) k224_71 (allc (q := (72, c224_72)) k224_72 (allc (q := (79, c224_79)) k224_79 (alln)))))) : b224.all (fun q => zOk 224 q.1 q.2) = true)
theorem k225_59 : zOk 225 59 c225_59 = true := by decide +kernel
theorem k225_45 : zOk 225 45 c225_45 = true := zOkN_app (n := 7) (fin := 59) (by decide +kernel) k225_59
theorem k225_36 : zOk 225 36 c225_36 = true := zOkN_app (n := 5) (fin := 45) (by decide +kernel) k225_45
theorem k225_28 : zOk 225 28 c225_28 = true := zOkN_app (n := 5) (fin := 36) (by decide +kernel) k225_36
theorem k225_12 : zOk 225 12 c225_12 = true := zOkN_app (n := 11) (fin := 28) (by decide +kernel) k225_28
theorem k225_4 : zOk 225 4 c225_4 = true := zOkN_app (n := 4) (fin := 12) (by decide +kernel) k225_12
theorem k225_0 : zOk 225 0 c225_0 = true := zOkN_app (n := 4) (fin := 4) (by decide +kernel) k225_4
theorem k225_65 : zOk 225 65 c225_65 = true := by decide +kernel
theorem k225_64 : zOk 225 64 c225_64 = true := zOkN_app (n := 1) (fin := 65) (by decide +kernel) k225_65
theorem k225_85 : zOk 225 85 c225_85 = true := by decide +kernel
theorem k225_76 : zOk 225 76 c225_76 = true := zOkN_app (n := 5) (fin := 85) (by decide +kernel) k225_85
theorem k225_72 : zOk 225 72 c225_72 = true := zOkN_app (n := 2) (fin := 76) (by decide +kernel) k225_76
theorem k225_90 : zOk 225 90 c225_90 = true := by decide +kernel
theorem k225_89 : zOk 225 89 c225_89 = true := zOkN_app (n := 1) (fin := 90) (by decide +kernel) k225_90
theorem k225_97 : zOk 225 97 c225_97 = true := by decide +kernel
theorem ok225 : zOkM 225 = true := (allc (q := (0, c225_0)) k225_0 (allc (q := (4, c225_4)) k225_4 (allc (q := (28, c225_28)) k225_28 (allc (q := (64, c225_64)) k225_64 (allc (q := (65, c225_65)) k225_65 (allc (q := (72, c225_72)) k225_72 (allc (q := (85, c225_85)) k225_85 (allc (q := (89, c225_89)) k225_89 (allc (q := (90, c225_90)) k225_90 (allc (q := (97, c225_97)) k225_97 (alln)))))))))) : b225.all (fun q => zOk 225 q.1 q.2) = true)
theorem k226_9 : zOk 226 9 c226_9 = true := by decide +kernel
theorem k226_0 : zOk 226 0 c226_0 = true := zOkN_app (n := 5) (fin := 9) (by decide +kernel) k226_9
theorem k226_61 : zOk 226 61 c226_61 = true := by decide +kernel
theorem k226_54 : zOk 226 54 c226_54 = true := zOkN_app (n := 3) (fin := 61) (by decide +kernel) k226_61
theorem k226_51 : zOk 226 51 c226_51 = true := zOkN_app (n := 2) (fin := 54) (by decide +kernel) k226_54
theorem k226_42 : zOk 226 42 c226_42 = true := zOkN_app (n := 4) (fin := 51) (by decide +kernel) k226_51
theorem k226_14 : zOk 226 14 c226_14 = true := zOkN_app (n := 23) (fin := 42) (by decide +kernel) k226_42
theorem k226_13 : zOk 226 13 c226_13 = true := zOkN_app (n := 1) (fin := 14) (by decide +kernel) k226_14
theorem k226_85 : zOk 226 85 c226_85 = true := by decide +kernel
theorem k226_110 : zOk 226 110 c226_110 = true := by decide +kernel
theorem k226_104 : zOk 226 104 c226_104 = true := zOkN_app (n := 3) (fin := 110) (by decide +kernel) k226_110
theorem k226_100 : zOk 226 100 c226_100 = true := zOkN_app (n := 2) (fin := 104) (by decide +kernel) k226_104
theorem k226_94 : zOk 226 94 c226_94 = true := zOkN_app (n := 3) (fin := 100) (by decide +kernel) k226_100
theorem k226_91 : zOk 226 91 c226_91 = true := zOkN_app (n := 2) (fin := 94) (by decide +kernel) k226_94
theorem k226_114 : zOk 226 114 c226_114 = true := by decide +kernel
theorem k226_162 : zOk 226 162 c226_162 = true := by decide +kernel
theorem k226_153 : zOk 226 153 c226_153 = true := zOkN_app (n := 5) (fin := 162) (by decide +kernel) k226_162
theorem k226_150 : zOk 226 150 c226_150 = true := zOkN_app (n := 2) (fin := 153) (by decide +kernel) k226_153
theorem k226_145 : zOk 226 145 c226_145 = true := zOkN_app (n := 2) (fin := 150) (by decide +kernel) k226_150
theorem k226_138 : zOk 226 138 c226_138 = true := zOkN_app (n := 3) (fin := 145) (by decide +kernel) k226_145
theorem k226_133 : zOk 226 133 c226_133 = true := zOkN_app (n := 3) (fin := 138) (by decide +kernel) k226_138
theorem k226_118 : zOk 226 118 c226_118 = true := zOkN_app (n := 8) (fin := 133) (by decide +kernel) k226_133
theorem k226_223 : zOk 226 223 c226_223 = true := by decide +kernel
theorem k226_229 : zOk 226 229 c226_229 = true := by decide +kernel
theorem k226_235 : zOk 226 235 c226_235 = true := by decide +kernel
theorem ok226 : zOkM 226 = true := (allc (q := (0, c226_0)) k226_0 (allc (q := (13, c226_13)) k226_13 (allc (q := (14, c226_14)) k226_14 (allc (q := (42, c226_42)) k226_42 (allc (q := (54, c226_54)) k226_54 (allc (q := (85, c226_85)) k226_85 (allc (q := (91, c226_91)) k226_91 (allc (q := (94, c226_94)) k226_94 (allc (q := (114, c226_114)) k226_114 (allc (q := (118, c226_118)) k226_118 (allc (q := (133, c226_133)) k226_133 (allc (q := (138, c226_138)) k226_138 (allc (q := (153, c226_153)) k226_153 (allc (q := (223, c226_223)) k226_223 (allc (q := (229, c226_229)) k226_229 (allc (q := (235, c226_235)) k226_235 (alln)))))))))))))))) : b226.all (fun q => zOk 226 q.1 q.2) = true)
theorem k227_59 : zOk 227 59 c227_59 = true := by decide +kernel
theorem k227_54 : zOk 227 54 c227_54 = true := zOkN_app (n := 2) (fin := 59) (by decide +kernel) k227_59
theorem k227_48 : zOk 227 48 c227_48 = true := zOkN_app (n := 3) (fin := 54) (by decide +kernel) k227_54
theorem k227_29 : zOk 227 29 c227_29 = true := zOkN_app (n := 12) (fin := 48) (by decide +kernel) k227_48
theorem k227_24 : zOk 227 24 c227_24 = true := zOkN_app (n := 2) (fin := 29) (by decide +kernel) k227_29
theorem k227_8 : zOk 227 8 c227_8 = true := zOkN_app (n := 11) (fin := 24) (by decide +kernel) k227_24
theorem k227_4 : zOk 227 4 c227_4 = true := zOkN_app (n := 2) (fin := 8) (by decide +kernel) k227_8
theorem k227_0 : zOk 227 0 c227_0 = true := zOkN_app (n := 4) (fin := 4) (by decide +kernel) k227_4
theorem k227_81 : zOk 227 81 c227_81 = true := by decide +kernel
theorem k227_87 : zOk 227 87 c227_87 = true := by decide +kernel
theorem k227_93 : zOk 227 93 c227_93 = true := by decide +kernel
theorem ok227 : zOkM 227 = true := (allc (q := (0, c227_0)) k227_0 (allc (q := (4, c227_4)) k227_4 (allc (q := (24, c227_24)) k227_24 (allc (q := (48, c227_48)) k227_48 (allc (q := (81, c227_81)) k227_81 (allc (q := (87, c227_87)) k227_87 (allc (q := (93, c227_93)) k227_93 (alln))))))) : b227.all (fun q => zOk 227 q.1 q.2) = true)
theorem k228_13 : zOk 228 13 c228_13 = true := by decide +kernel
theorem k228_3 : zOk 228 3 c228_3 = true := zOkN_app (n := 5) (fin := 13) (by decide +kernel) k228_13
theorem k228_0 : zOk 228 0 c228_0 = true := zOkN_app (n := 2) (fin := 3) (by decide +kernel) k228_3
theorem k228_72 : zOk 228 72 c228_72 = true := by decide +kernel
theorem ok228 : zOkM 228 = true := (allc (q := (0, c228_0)) k228_0 (allc (q := (3, c228_3)) k228_3 (allc (q := (72, c228_72)) k228_72 (alln))) : b228.all (fun q => zOk 228 q.1 q.2) = true)
theorem k229_10 : zOk 229 10 c229_10 = true := by decide +kernel
theorem k229_2 : zOk 229 2 c229_2 = true := zOkN_app (n := 4) (fin := 10) (by decide +kernel) k229_10
theorem k229_0 : zOk 229 0 c229_0 = true := zOkN_app (n := 2) (fin := 2) (by decide +kernel) k229_2
theorem k229_30 : zOk 229 30 c229_30 = true := by decide +kernel
theorem ok229 : zOkM 229 = true := (allc (q := (0, c229_0)) k229_0 (allc (q := (2, c229_2)) k229_2 (allc (q := (30, c229_30)) k229_30 (alln))) : b229.all (fun q => zOk 229 q.1 q.2) = true)
theorem k230_15 : zOk 230 15 c230_15 = true := by decide +kernel
theorem k230_8 : zOk 230 8 c230_8 = true := zOkN_app (n := 3) (fin := 15) (by decide +kernel) k230_15
theorem k230_0 : zOk 230 0 c230_0 = true := zOkN_app (n := 6) (fin := 8) (by decide +kernel) k230_8
theorem k230_38 : zOk 230 38 c230_38 = true := by decide +kernel
theorem k230_30 : zOk 230 30 c230_30 = true := zOkN_app (n := 4) (fin := 38) (by decide +kernel) k230_38
theorem k230_28 : zOk 230 28 c230_28 = true := zOkN_app (n := 2) (fin := 30) (by decide +kernel) k230_30
theorem k230_65 : zOk 230 65 c230_65 = true := by decide +kernel
theorem ok230 : zOkM 230 = true := (allc (q := (0, c230_0)) k230_0 (allc (q := (8, c230_8)) k230_8 (allc (q := (28, c230_28)) k230_28 (allc (q := (30, c230_30)) k230_30 (allc (q := (65, c230_65)) k230_65 (alln))))) : b230.all (fun q => zOk 230 q.1 q.2) = true)
theorem k231_8 : zOk 231 8 c231_8 = true := by decide +kernel
theorem k231_0 : zOk 231 0 c231_0 = true := zOkN_app (n := 4) (fin := 8) (by decide +kernel) k231_8
theorem k231_60 : zOk 231 60 c231_60 = true := by decide +kernel
theorem k231_35 : zOk 231 35 c231_35 = true := zOkN_app (n := 13) (fin := 60) (by decide +kernel) k231_60
theorem k231_26 : zOk 231 26 c231_26 = true := zOkN_app (n := 4) (fin := 35) (by decide +kernel) k231_35
theorem k231_22 : zOk 231 22 c231_22 = true := zOkN_app (n := 2) (fin := 26) (by decide +kernel) k231_26
theorem k231_15 : zOk 231 15 c231_15 = true := zOkN_app (n := 5) (fin := 22) (by decide +kernel) k231_22
theorem k231_81 : zOk 231 81 c231_81 = true := by decide +kernel
theorem ok231 : zOkM 231 = true := (allc (q := (0, c231_0)) k231_0 (allc (q := (15, c231_15)) k231_15 (allc (q := (22, c231_22)) k231_22 (allc (q := (81, c231_81)) k231_81 (alln)))) : b231.all (fun q => zOk 231 q.1 q.2) = true)
theorem k232_7 : zOk 232 7 c232_7 = true := by decide +kernel
theorem k232_0 : zOk 232 0 c232_0 = true := zOkN_app (n := 3) (fin := 7) (by decide +kernel) k232_7
theorem k232_18 : zOk 232 18 c232_18 = true := by decide +kernel
theorem k232_10 : zOk 232 10 c232_10 = true := zOkN_app (n := 4) (fin := 18) (by decide +kernel) k232_18
theorem k232_37 : zOk 232 37 c232_37 = true := by decide +kernel
theorem k232_20 : zOk 232 20 c232_20 = true := zOkN_app (n := 9) (fin := 37) (by decide +kernel) k232_37
theorem k232_42 : zOk 232 42 c232_42 = true := by decide +kernel
theorem k232_41 : zOk 232 41 c232_41 = true := zOkN_app (n := 1) (fin := 42) (by decide +kernel) k232_42
theorem ok232 : zOkM 232 = true := (allc (q := (0, c232_0)) k232_0 (allc (q := (10, c232_10)) k232_10 (allc (q := (20, c232_20)) k232_20 (allc (q := (41, c232_41)) k232_41 (allc (q := (42, c232_42)) k232_42 (alln))))) : b232.all (fun q => zOk 232 q.1 q.2) = true)
theorem k233_12 : zOk 233 12 c233_12 = true := by decide +kernel
theorem k233_4 : zOk 233 4 c233_4 = true := zOkN_app (n := 4) (fin := 12) (by decide +kernel) k233_12
theorem k233_0 : zOk 233 0 c233_0 = true := zOkN_app (n := 4) (fin := 4) (by decide +kernel) k233_4
theorem k233_31 : zOk 233 31 c233_31 = true := by decide +kernel
theorem ok233 : zOkM 233 = true := (allc (q := (0, c233_0)) k233_0 (allc (q := (4, c233_4)) k233_4 (allc (q := (31, c233_31)) k233_31 (alln))) : b233.all (fun q => zOk 233 q.1 q.2) = true)
theorem k234_11 : zOk 234 11 c234_11 = true := by decide +kernel
theorem k234_0 : zOk 234 0 c234_0 = true := zOkN_app (n := 7) (fin := 11) (by decide +kernel) k234_11
theorem k234_19 : zOk 234 19 c234_19 = true := by decide +kernel
theorem k234_15 : zOk 234 15 c234_15 = true := zOkN_app (n := 2) (fin := 19) (by decide +kernel) k234_19
theorem ok234 : zOkM 234 = true := (allc (q := (0, c234_0)) k234_0 (allc (q := (15, c234_15)) k234_15 (allc (q := (19, c234_19)) k234_19 (alln))) : b234.all (fun q => zOk 234 q.1 q.2) = true)
theorem k235_7 : zOk 235 7 c235_7 = true := by decide +kernel
theorem k235_0 : zOk 235 0 c235_0 = true := zOkN_app (n := 3) (fin := 7) (by decide +kernel) k235_7
theorem k235_35 : zOk 235 35 c235_35 = true := by decide +kernel
theorem k235_22 : zOk 235 22 c235_22 = true := zOkN_app (n := 7) (fin := 35) (by decide +kernel) k235_35
theorem k235_14 : zOk 235 14 c235_14 = true := zOkN_app (n := 4) (fin := 22) (by decide +kernel) k235_22
theorem k235_10 : zOk 235 10 c235_10 = true := zOkN_app (n := 4) (fin := 14) (by decide +kernel) k235_14
theorem k235_42 : zOk 235 42 c235_42 = true := by decide +kernel
theorem k235_41 : zOk 235 41 c235_41 = true := zOkN_app (n := 1) (fin := 42) (by decide +kernel) k235_42
theorem k235_50 : zOk 235 50 c235_50 = true := by decide +kernel
theorem ok235 : zOkM 235 = true := (allc (q := (0, c235_0)) k235_0 (allc (q := (10, c235_10)) k235_10 (allc (q := (14, c235_14)) k235_14 (allc (q := (41, c235_41)) k235_41 (allc (q := (42, c235_42)) k235_42 (allc (q := (50, c235_50)) k235_50 (alln)))))) : b235.all (fun q => zOk 235 q.1 q.2) = true)
theorem k236_13 : zOk 236 13 c236_13 = true := by decide +kernel
theorem k236_0 : zOk 236 0 c236_0 = true := zOkN_app (n := 7) (fin := 13) (by decide +kernel) k236_13
theorem k236_32 : zOk 236 32 c236_32 = true := by decide +kernel
theorem k236_18 : zOk 236 18 c236_18 = true := zOkN_app (n := 8) (fin := 32) (by decide +kernel) k236_32
theorem k236_46 : zOk 236 46 c236_46 = true := by decide +kernel
theorem k236_45 : zOk 236 45 c236_45 = true := zOkN_app (n := 1) (fin := 46) (by decide +kernel) k236_46
theorem ok236 : zOkM 236 = true := (allc (q := (0, c236_0)) k236_0 (allc (q := (18, c236_18)) k236_18 (allc (q := (45, c236_45)) k236_45 (allc (q := (46, c236_46)) k236_46 (alln)))) : b236.all (fun q => zOk 236 q.1 q.2) = true)
theorem k237_13 : zOk 237 13 c237_13 = true := by decide +kernel
theorem k237_0 : zOk 237 0 c237_0 = true := zOkN_app (n := 7) (fin := 13) (by decide +kernel) k237_13
theorem k237_56 : zOk 237 56 c237_56 = true := by decide +kernel
theorem k237_45 : zOk 237 45 c237_45 = true := zOkN_app (n := 5) (fin := 56) (by decide +kernel) k237_56
theorem k237_30 : zOk 237 30 c237_30 = true := zOkN_app (n := 8) (fin := 45) (by decide +kernel) k237_45
theorem k237_16 : zOk 237 16 c237_16 = true := zOkN_app (n := 8) (fin := 30) (by decide +kernel) k237_30
theorem k237_75 : zOk 237 75 c237_75 = true := by decide +kernel
theorem k237_74 : zOk 237 74 c237_74 = true := zOkN_app (n := 1) (fin := 75) (by decide +kernel) k237_75
theorem ok237 : zOkM 237 = true := (allc (q := (0, c237_0)) k237_0 (allc (q := (16, c237_16)) k237_16 (allc (q := (74, c237_74)) k237_74 (allc (q := (75, c237_75)) k237_75 (alln)))) : b237.all (fun q => zOk 237 q.1 q.2) = true)
theorem k238_11 : zOk 238 11 c238_11 = true := by decide +kernel
theorem k238_0 : zOk 238 0 c238_0 = true := zOkN_app (n := 7) (fin := 11) (by decide +kernel) k238_11
theorem k238_20 : zOk 238 20 c238_20 = true := by decide +kernel
theorem k238_15 : zOk 238 15 c238_15 = true := zOkN_app (n := 3) (fin := 20) (by decide +kernel) k238_20
theorem ok238 : zOkM 238 = true := (allc (q := (0, c238_0)) k238_0 (allc (q := (15, c238_15)) k238_15 (allc (q := (20, c238_20)) k238_20 (alln))) : b238.all (fun q => zOk 238 q.1 q.2) = true)
theorem k239_19 : zOk 239 19 c239_19 = true := by decide +kernel
theorem k239_0 : zOk 239 0 c239_0 = true := zOkN_app (n := 11) (fin := 19) (by decide +kernel) k239_19
theorem k239_29 : zOk 239 29 c239_29 = true := by decide +kernel
theorem k239_21 : zOk 239 21 c239_21 = true := zOkN_app (n := 4) (fin := 29) (by decide +kernel) k239_29
theorem k239_59 : zOk 239 59 c239_59 = true := by decide +kernel
theorem k239_40 : zOk 239 40 c239_40 = true := zOkN_app (n := 11) (fin := 59) (by decide +kernel) k239_59
theorem k239_91 : zOk 239 91 c239_91 = true := by decide +kernel
theorem k239_72 : zOk 239 72 c239_72 = true := zOkN_app (n := 11) (fin := 91) (by decide +kernel) k239_91
theorem ok239 : zOkM 239 = true := (allc (q := (0, c239_0)) k239_0 (allc (q := (21, c239_21)) k239_21 (allc (q := (40, c239_40)) k239_40 (allc (q := (72, c239_72)) k239_72 (allc (q := (91, c239_91)) k239_91 (alln))))) : b239.all (fun q => zOk 239 q.1 q.2) = true)
theorem k240_9 : zOk 240 9 c240_9 = true := by decide +kernel
theorem k240_4 : zOk 240 4 c240_4 = true := zOkN_app (n := 3) (fin := 9) (by decide +kernel) k240_9
theorem k240_0 : zOk 240 0 c240_0 = true := zOkN_app (n := 4) (fin := 4) (by decide +kernel) k240_4
theorem k240_22 : zOk 240 22 c240_22 = true := by decide +kernel
theorem ok240 : zOkM 240 = true := (allc (q := (0, c240_0)) k240_0 (allc (q := (4, c240_4)) k240_4 (allc (q := (22, c240_22)) k240_22 (alln))) : b240.all (fun q => zOk 240 q.1 q.2) = true)
theorem k241_13 : zOk 241 13 c241_13 = true := by decide +kernel
theorem k241_0 : zOk 241 0 c241_0 = true := zOkN_app (n := 7) (fin := 13) (by decide +kernel) k241_13
theorem k241_25 : zOk 241 25 c241_25 = true := by decide +kernel
theorem k241_16 : zOk 241 16 c241_16 = true := zOkN_app (n := 5) (fin := 25) (by decide +kernel) k241_25
theorem k241_62 : zOk 241 62 c241_62 = true := by decide +kernel
theorem k241_53 : zOk 241 53 c241_53 = true := zOkN_app (n := 4) (fin := 62) (by decide +kernel) k241_62
theorem k241_47 : zOk 241 47 c241_47 = true := zOkN_app (n := 3) (fin := 53) (by decide +kernel) k241_53
theorem k241_38 : zOk 241 38 c241_38 = true := zOkN_app (n := 4) (fin := 47) (by decide +kernel) k241_47
theorem k241_27 : zOk 241 27 c241_27 = true := zOkN_app (n := 7) (fin := 38) (by decide +kernel) k241_38
theorem k241_76 : zOk 241 76 c241_76 = true := by decide +kernel
theorem k241_65 : zOk 241 65 c241_65 = true := zOkN_app (n := 5) (fin := 76) (by decide +kernel) k241_76
theorem k241_81 : zOk 241 81 c241_81 = true := by decide +kernel
theorem k241_80 : zOk 241 80 c241_80 = true := zOkN_app (n := 1) (fin := 81) (by decide +kernel) k241_81
theorem k241_90 : zOk 241 90 c241_90 = true := by decide +kernel
theorem ok241 : zOkM 241 = true := (allc (q := (0, c241_0)) k241_0 (allc (q := (16, c241_16)) k241_16 (allc (q := (27, c241_27)) k241_27 (allc (q := (38, c241_38)) k241_38 (allc (q := (65, c241_65)) k241_65 (allc (q := (76, c241_76)) k241_76 (allc (q := (80, c241_80)) k241_80 (allc (q := (81, c241_81)) k241_81 (allc (q := (90, c241_90)) k241_90 (alln))))))))) : b241.all (fun q => zOk 241 q.1 q.2) = true)
theorem k242_13 : zOk 242 13 c242_13 = true := by decide +kernel
theorem k242_0 : zOk 242 0 c242_0 = true := zOkN_app (n := 7) (fin := 13) (by decide +kernel) k242_13
theorem k242_68 : zOk 242 68 c242_68 = true := by decide +kernel
theorem k242_57 : zOk 242 57 c242_57 = true := zOkN_app (n := 5) (fin := 68) (by decide +kernel) k242_68
theorem k242_42 : zOk 242 42 c242_42 = true := zOkN_app (n := 8) (fin := 57) (by decide +kernel) k242_57
theorem k242_32 : zOk 242 32 c242_32 = true := zOkN_app (n := 6) (fin := 42) (by decide +kernel) k242_42
theorem k242_16 : zOk 242 16 c242_16 = true := zOkN_app (n := 10) (fin := 32) (by decide +kernel) k242_32
theorem k242_70 : zOk 242 70 c242_70 = true := by decide +kernel
theorem ok242 : zOkM 242 = true := (allc (q := (0, c242_0)) k242_0 (allc (q := (16, c242_16)) k242_16 (allc (q := (68, c242_68)) k242_68 (allc (q := (70, c242_70)) k242_70 (alln)))) : b242.all (fun q => zOk 242 q.1 q.2) = true)
theorem k243_27 : zOk 243 27 c243_27 = true := by decide +kernel
theorem k243_0 : zOk 243 0 c243_0 = true := zOkN_app (n := 14) (fin := 27) (by decide +kernel) k243_27
theorem k243_60 : zOk 243 60 c243_60 = true := by decide +kernel
theorem k243_56 : zOk 243 56 c243_56 = true := zOkN_app (n := 2) (fin := 60) (by decide +kernel) k243_60
theorem k243_37 : zOk 243 37 c243_37 = true := zOkN_app (n := 13) (fin := 56) (by decide +kernel) k243_56
theorem k243_31 : zOk 243 31 c243_31 = true := zOkN_app (n := 4) (fin := 37) (by decide +kernel) k243_37
theorem k243_83 : zOk 243 83 c243_83 = true := by decide +kernel
theorem ok243 : zOkM 243 = true := (allc (q := (0, c243_0)) k243_0 (allc (q := (31, c243_31)) k243_31 (allc (q := (37, c243_37)) k243_37 (allc (q := (56, c243_56)) k243_56 (allc (q := (83, c243_83)) k243_83 (alln))))) : b243.all (fun q => zOk 243 q.1 q.2) = true)
theorem k244_11 : zOk 244 11 c244_11 = true := by decide +kernel
theorem k244_0 : zOk 244 0 c244_0 = true := zOkN_app (n := 7) (fin := 11) (by decide +kernel) k244_11
theorem k244_21 : zOk 244 21 c244_21 = true := by decide +kernel
theorem k244_13 : zOk 244 13 c244_13 = true := zOkN_app (n := 4) (fin := 21) (by decide +kernel) k244_21
theorem k244_69 : zOk 244 69 c244_69 = true := by decide +kernel
theorem k244_60 : zOk 244 60 c244_60 = true := zOkN_app (n := 4) (fin := 69) (by decide +kernel) k244_69
theorem k244_53 : zOk 244 53 c244_53 = true := zOkN_app (n := 4) (fin := 60) (by decide +kernel) k244_60
theorem k244_44 : zOk 244 44 c244_44 = true := zOkN_app (n := 4) (fin := 53) (by decide +kernel) k244_53
theorem k244_23 : zOk 244 23 c244_23 = true := zOkN_app (n := 12) (fin := 44) (by decide +kernel) k244_44
theorem k244_107 : zOk 244 107 c244_107 = true := by decide +kernel
theorem k244_96 : zOk 244 96 c244_96 = true := zOkN_app (n := 5) (fin := 107) (by decide +kernel) k244_107
theorem k244_89 : zOk 244 89 c244_89 = true := zOkN_app (n := 3) (fin := 96) (by decide +kernel) k244_96
theorem k244_112 : zOk 244 112 c244_112 = true := by decide +kernel
theorem k244_111 : zOk 244 111 c244_111 = true := zOkN_app (n := 1) (fin := 112) (by decide +kernel) k244_112
theorem k244_121 : zOk 244 121 c244_121 = true := by decide +kernel
theorem ok244 : zOkM 244 = true := (allc (q := (0, c244_0)) k244_0 (allc (q := (13, c244_13)) k244_13 (allc (q := (23, c244_23)) k244_23 (allc (q := (44, c244_44)) k244_44 (allc (q := (60, c244_60)) k244_60 (allc (q := (89, c244_89)) k244_89 (allc (q := (111, c244_111)) k244_111 (allc (q := (112, c244_112)) k244_112 (allc (q := (121, c244_121)) k244_121 (alln))))))))) : b244.all (fun q => zOk 244 q.1 q.2) = true)
theorem k245_11 : zOk 245 11 c245_11 = true := by decide +kernel
theorem k245_0 : zOk 245 0 c245_0 = true := zOkN_app (n := 7) (fin := 11) (by decide +kernel) k245_11
theorem k245_22 : zOk 245 22 c245_22 = true := by decide +kernel
theorem k245_13 : zOk 245 13 c245_13 = true := zOkN_app (n := 5) (fin := 22) (by decide +kernel) k245_22
theorem k245_29 : zOk 245 29 c245_29 = true := by decide +kernel
theorem k245_24 : zOk 245 24 c245_24 = true := zOkN_app (n := 3) (fin := 29) (by decide +kernel) k245_29
theorem k245_92 : zOk 245 92 c245_92 = true := by decide +kernel
theorem k245_85 : zOk 245 85 c245_85 = true := zOkN_app (n := 3) (fin := 92) (by decide +kernel) k245_92
theorem k245_56 : zOk 245 56 c245_56 = true := zOkN_app (n := 16) (fin := 85) (by decide +kernel) k245_85
theorem k245_44 : zOk 245 44 c245_44 = true := zOkN_app (n := 6) (fin := 56) (by decide +kernel) k245_56
theorem k245_38 : zOk 245 38 c245_38 = true := zOkN_app (n := 4) (fin := 44) (by decide +kernel) k245_44
theorem k245_99 : zOk 245 99 c245_99 = true := by decide +kernel
theorem k245_97 : zOk 245 97 c245_97 = true := zOkN_app (n := 1) (fin := 99) (by decide +kernel) k245_99
theorem k245_107 : zOk 245 107 c245_107 = true := by decide +kernel
theorem ok245 : zOkM 245 = true := (allc (q := (0, c245_0)) k245_0 (allc (q := (13, c245_13)) k245_13 (allc (q := (24, c245_24)) k245_24 (allc (q := (38, c245_38)) k245_38 (allc (q := (44, c245_44)) k245_44 (allc (q := (97, c245_97)) k245_97 (allc (q := (99, c245_99)) k245_99 (allc (q := (107, c245_107)) k245_107 (alln)))))))) : b245.all (fun q => zOk 245 q.1 q.2) = true)
theorem k246_7 : zOk 246 7 c246_7 = true := by decide +kernel
theorem k246_0 : zOk 246 0 c246_0 = true := zOkN_app (n := 3) (fin := 7) (by decide +kernel) k246_7
theorem k246_19 : zOk 246 19 c246_19 = true := by decide +kernel
theorem k246_10 : zOk 246 10 c246_10 = true := zOkN_app (n := 5) (fin := 19) (by decide +kernel) k246_19
theorem k246_37 : zOk 246 37 c246_37 = true := by decide +kernel
theorem k246_33 : zOk 246 33 c246_33 = true := zOkN_app (n := 2) (fin := 37) (by decide +kernel) k246_37
theorem k246_25 : zOk 246 25 c246_25 = true := zOkN_app (n := 4) (fin := 33) (by decide +kernel) k246_33
theorem k246_21 : zOk 246 21 c246_21 = true := zOkN_app (n := 4) (fin := 25) (by decide +kernel) k246_25
theorem k246_79 : zOk 246 79 c246_79 = true := by decide +kernel
theorem k246_59 : zOk 246 59 c246_59 = true := zOkN_app (n := 14) (fin := 79) (by decide +kernel) k246_79
theorem k246_88 : zOk 246 88 c246_88 = true := by decide +kernel
theorem k246_83 : zOk 246 83 c246_83 = true := zOkN_app (n := 3) (fin := 88) (by decide +kernel) k246_88
theorem k246_95 : zOk 246 95 c246_95 = true := by decide +kernel
theorem k246_92 : zOk 246 92 c246_92 = true := zOkN_app (n := 3) (fin := 95) (by decide +kernel) k246_95
theorem ok246 : zOkM 246 = true := (allc (q := (0, c246_0)) k246_0 (allc (q := (10, c246_10)) k246_10 (allc (q := (21, c246_21)) k246_21 (allc (q := (25, c246_25)) k246_25 (allc (q := (59, c246_59)) k246_59 (allc (q := (83, c246_83)) k246_83 (allc (q := (92, c246_92)) k246_92 (allc (q := (95, c246_95)) k246_95 (alln)))))))) : b246.all (fun q => zOk 246 q.1 q.2) = true)
theorem k247_126 : zOk 247 126 c247_126 = true := by decide +kernel
theorem k247_97 : zOk 247 97 c247_97 = true := zOkN_app (n := 18) (fin := 126) (by decide +kernel) k247_126
theorem k247_62 : zOk 247 62 c247_62 = true := zOkN_app (n := 22) (fin := 97) (by decide +kernel) k247_97
theorem k247_58 : zOk 247 58 c247_58 = true := zOkN_app (n := 2) (fin := 62) (by decide +kernel) k247_62
theorem k247_46 : zOk 247 46 c247_46 = true := zOkN_app (n := 6) (fin := 58) (by decide +kernel) k247_58
theorem k247_19 : zOk 247 19 c247_19 = true := zOkN_app (n := 20) (fin := 46) (by decide +kernel) k247_46
theorem k247_13 : zOk 247 13 c247_13 = true := zOkN_app (n := 3) (fin := 19) (by decide +kernel) k247_19
theorem k247_11 : zOk 247 11 c247_11 = true := zOkN_app (n := 2) (fin := 13) (by decide +kernel) k247_13
theorem k247_3 : zOk 247 3 c247_3 = true := zOkN_app (n := 4) (fin := 11) (by decide +kernel) k247_11
theorem k247_0 : zOk 247 0 c247_0 = true := zOkN_app (n := 2) (fin := 3) (by decide +kernel) k247_3
theorem k247_132 : zOk 247 132 c247_132 = true := by decide +kernel
theorem k247_138 : zOk 247 138 c247_138 = true := by decide +kernel
theorem k247_144 : zOk 247 144 c247_144 = true := by decide +kernel
theorem ok247 : zOkM 247 = true := (allc (q := (0, c247_0)) k247_0 (allc (q := (3, c247_3)) k247_3 (allc (q := (13, c247_13)) k247_13 (allc (q := (46, c247_46)) k247_46 (allc (q := (126, c247_126)) k247_126 (allc (q := (132, c247_132)) k247_132 (allc (q := (138, c247_138)) k247_138 (allc (q := (144, c247_144)) k247_144 (alln)))))))) : b247.all (fun q => zOk 247 q.1 q.2) = true)
theorem k248_37 : zOk 248 37 c248_37 = true := by decide +kernel
theorem k248_16 : zOk 248 16 c248_16 = true := zOkN_app (n := 11) (fin := 37) (by decide +kernel) k248_37
theorem k248_12 : zOk 248 12 c248_12 = true := zOkN_app (n := 2) (fin := 16) (by decide +kernel) k248_16
theorem k248_4 : zOk 248 4 c248_4 = true := zOkN_app (n := 4) (fin := 12) (by decide +kernel) k248_12
theorem k248_0 : zOk 248 0 c248_0 = true := zOkN_app (n := 4) (fin := 4) (by decide +kernel) k248_4
theorem k248_42 : zOk 248 42 c248_42 = true := by decide +kernel
theorem k248_41 : zOk 248 41 c248_41 = true := zOkN_app (n := 1) (fin := 42) (by decide +kernel) k248_42
theorem k248_49 : zOk 248 49 c248_49 = true := by decide +kernel
theorem ok248 : zOkM 248 = true := (allc (q := (0, c248_0)) k248_0 (allc (q := (4, c248_4)) k248_4 (allc (q := (41, c248_41)) k248_41 (allc (q := (42, c248_42)) k248_42 (allc (q := (49, c248_49)) k248_49 (alln))))) : b248.all (fun q => zOk 248 q.1 q.2) = true)
theorem k249_24 : zOk 249 24 c249_24 = true := by decide +kernel
theorem k249_16 : zOk 249 16 c249_16 = true := zOkN_app (n := 4) (fin := 24) (by decide +kernel) k249_24
theorem k249_14 : zOk 249 14 c249_14 = true := zOkN_app (n := 2) (fin := 16) (by decide +kernel) k249_16
theorem k249_7 : zOk 249 7 c249_7 = true := zOkN_app (n := 3) (fin := 14) (by decide +kernel) k249_14
theorem k249_0 : zOk 249 0 c249_0 = true := zOkN_app (n := 3) (fin := 7) (by decide +kernel) k249_7
theorem k249_48 : zOk 249 48 c249_48 = true := by decide +kernel
theorem k249_70 : zOk 249 70 c249_70 = true := by decide +kernel
theorem k249_61 : zOk 249 61 c249_61 = true := zOkN_app (n := 4) (fin := 70) (by decide +kernel) k249_70
theorem k249_116 : zOk 249 116 c249_116 = true := by decide +kernel
theorem k249_101 : zOk 249 101 c249_101 = true := zOkN_app (n := 9) (fin := 116) (by decide +kernel) k249_116
theorem k249_97 : zOk 249 97 c249_97 = true := zOkN_app (n := 2) (fin := 101) (by decide +kernel) k249_101
theorem k249_90 : zOk 249 90 c249_90 = true := zOkN_app (n := 3) (fin := 97) (by decide +kernel) k249_97
theorem k249_86 : zOk 249 86 c249_86 = true := zOkN_app (n := 2) (fin := 90) (by decide +kernel) k249_90
theorem k249_78 : zOk 249 78 c249_78 = true := zOkN_app (n := 4) (fin := 86) (by decide +kernel) k249_86
theorem k249_75 : zOk 249 75 c249_75 = true := zOkN_app (n := 3) (fin := 78) (by decide +kernel) k249_78
theorem k249_74 : zOk 249 74 c249_74 = true := zOkN_app (n := 1) (fin := 75) (by decide +kernel) k249_75
theorem k249_121 : zOk 249 121 c249_121 = true := by decide +kernel
theorem k249_120 : zOk 249 120 c249_120 = true := zOkN_app (n := 1) (fin := 121) (by decide +kernel) k249_121
theorem k249_128 : zOk 249 128 c249_128 = true := by decide +kernel
theorem k249_138 : zOk 249 138 c249_138 = true := by decide +kernel
theorem k249_134 : zOk 249 134 c249_134 = true := zOkN_app (n := 2) (fin := 138) (by decide +kernel) k249_138
theorem k249_182 : zOk 249 182 c249_182 = true := by decide +kernel
theorem k249_158 : zOk 249 158 c249_158 = true := zOkN_app (n := 15) (fin := 182) (by decide +kernel) k249_182
theorem k249_151 : zOk 249 151 c249_151 = true := zOkN_app (n := 3) (fin := 158) (by decide +kernel) k249_158
theorem k249_148 : zOk 249 148 c249_148 = true := zOkN_app (n := 2) (fin := 151) (by decide +kernel) k249_151
theorem k249_143 : zOk 249 143 c249_143 = true := zOkN_app (n := 3) (fin := 148) (by decide +kernel) k249_148
theorem k249_141 : zOk 249 141 c249_141 = true := zOkN_app (n := 2) (fin := 143) (by decide +kernel) k249_143
theorem k249_198 : zOk 249 198 c249_198 = true := by decide +kernel
theorem k249_197 : zOk 249 197 c249_197 = true := zOkN_app (n := 1) (fin := 198) (by decide +kernel) k249_198
theorem k249_205 : zOk 249 205 c249_205 = true := by decide +kernel
theorem k249_233 : zOk 249 233 c249_233 = true := by decide +kernel
theorem k249_211 : zOk 249 211 c249_211 = true := zOkN_app (n := 12) (fin := 233) (by decide +kernel) k249_233
theorem k249_241 : zOk 249 241 c249_241 = true := by decide +kernel
theorem k249_240 : zOk 249 240 c249_240 = true := zOkN_app (n := 1) (fin := 241) (by decide +kernel) k249_241
theorem ok249 : zOkM 249 = true := (allc (q := (0, c249_0)) k249_0 (allc (q := (16, c249_16)) k249_16 (allc (q := (48, c249_48)) k249_48 (allc (q := (61, c249_61)) k249_61 (allc (q := (74, c249_74)) k249_74 (allc (q := (75, c249_75)) k249_75 (allc (q := (78, c249_78)) k249_78 (allc (q := (90, c249_90)) k249_90 (allc (q := (120, c249_120)) k249_120 (allc (q := (121, c249_121)) k249_121 (allc (q := (128, c249_128)) k249_128 (allc (q := (134, c249_134)) k249_134 (allc (q := (141, c249_141)) k249_141 (allc (q := (143, c249_143)) k249_143 (allc (q := (151, c249_151)) k249_151 (allc (q := (197, c249_197)) k249_197 (allc (q := (198, c249_198)) k249_198 (allc (q := (205, c249_205)) k249_205 (allc (q := (211, c249_211)) k249_211 (allc (q := (240, c249_240)) k249_240 (allc (q := (241, c249_241)) k249_241 (alln))))))))))))))))))))) : b249.all (fun q => zOk 249 q.1 q.2) = true)
