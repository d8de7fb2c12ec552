set_option maxRecDepth 100000
theorem k250_26 : zOk 250 26 c250_26 = true := by decide +kernel
theorem k250_20 : zOk 250 20 c250_20 = true := zOkN_app (n := 3) (fin := 26) (by decide +kernel) k250_26
theorem k250_18 : zOk 250 18 c250_18 = true := zOkN_app (n := 2) (fin := 20) (by decide +kernel) k250_20
theorem k250_10 : zOk 250 10 c250_10 = true := zOkN_app (n := 4) (fin := 18) (by decide +kernel) k250_18
theorem k250_0 : zOk 250 0 c250_0 = true := zOkN_app (n := 6) (fin := 10) (by decide +kernel) k250_10
theorem k250_59 : zOk 250 59 c250_59 = true := by decide +kernel
theorem k250_65 : zOk 250 65 c250_65 = true := by decide +kernel
theorem ok250 : zOkM 250 = true := (allc (q := (0, c250_0)) k250_0 (allc (q := (10, c250_10)) k250_10 (allc (q := (20, c250_20)) k250_20 (allc (q := (59, c250_59)) k250_59 (allc (q := (65, c250_65)) k250_65 (alln))))) : b250.all (fun q => zOk 250 q.1 q.2) = true)
theorem k251_9 : zOk 251 9 c251_9 = true := by decide +kernel
theorem k251_0 : zOk 251 0 c251_0 = true := zOkN_app (n := 5) (fin := 9) (by decide +kernel) k251_9
theorem k251_24 : zOk 251 24 c251_24 = true := by decide +kernel
theorem k251_14 : zOk 251 14 c251_14 = true := zOkN_app (n := 6) (fin := 24) (by decide +kernel) k251_24
theorem k251_30 : zOk 251 30 c251_30 = true := by decide +kernel
theorem k251_29 : zOk 251 29 c251_29 = true := zOkN_app (n := 1) (fin := 30) (by decide +kernel) k251_30
theorem ok251 : zOkM 251 = true := (allc (q := (0, c251_0)) k251_0 (allc (q := (14, c251_14)) k251_14 (allc (q := (29, c251_29)) k251_29 (allc (q := (30, c251_30)) k251_30 (alln)))) : b251.all (fun q => zOk 251 q.1 q.2) = true)
theorem k252_7 : zOk 252 7 c252_7 = true := by decide +kernel
theorem k252_0 : zOk 252 0 c252_0 = true := zOkN_app (n := 3) (fin := 7) (by decide +kernel) k252_7
theorem k252_17 : zOk 252 17 c252_17 = true := by decide +kernel
theorem k252_10 : zOk 252 10 c252_10 = true := zOkN_app (n := 3) (fin := 17) (by decide +kernel) k252_17
theorem k252_28 : zOk 252 28 c252_28 = true := by decide +kernel
theorem k252_19 : zOk 252 19 c252_19 = true := zOkN_app (n := 5) (fin := 28) (by decide +kernel) k252_28
theorem k252_56 : zOk 252 56 c252_56 = true := by decide +kernel
theorem k252_49 : zOk 252 49 c252_49 = true := zOkN_app (n := 3) (fin := 56) (by decide +kernel) k252_56
theorem k252_46 : zOk 252 46 c252_46 = true := zOkN_app (n := 2) (fin := 49) (by decide +kernel) k252_49
theorem k252_40 : zOk 252 40 c252_40 = true := zOkN_app (n := 3) (fin := 46) (by decide +kernel) k252_46
theorem k252_30 : zOk 252 30 c252_30 = true := zOkN_app (n := 6) (fin := 40) (by decide +kernel) k252_40
theorem k252_86 : zOk 252 86 c252_86 = true := by decide +kernel
theorem k252_92 : zOk 252 92 c252_92 = true := by decide +kernel
theorem ok252 : zOkM 252 = true := (allc (q := (0, c252_0)) k252_0 (allc (q := (10, c252_10)) k252_10 (allc (q := (19, c252_19)) k252_19 (allc (q := (30, c252_30)) k252_30 (allc (q := (40, c252_40)) k252_40 (allc (q := (49, c252_49)) k252_49 (allc (q := (86, c252_86)) k252_86 (allc (q := (92, c252_92)) k252_92 (alln)))))))) : b252.all (fun q => zOk 252 q.1 q.2) = true)
theorem k253_7 : zOk 253 7 c253_7 = true := by decide +kernel
theorem k253_0 : zOk 253 0 c253_0 = true := zOkN_app (n := 3) (fin := 7) (by decide +kernel) k253_7
theorem k253_25 : zOk 253 25 c253_25 = true := by decide +kernel
theorem k253_17 : zOk 253 17 c253_17 = true := zOkN_app (n := 4) (fin := 25) (by decide +kernel) k253_25
theorem k253_10 : zOk 253 10 c253_10 = true := zOkN_app (n := 3) (fin := 17) (by decide +kernel) k253_17
theorem k253_59 : zOk 253 59 c253_59 = true := by decide +kernel
theorem k253_44 : zOk 253 44 c253_44 = true := zOkN_app (n := 8) (fin := 59) (by decide +kernel) k253_59
theorem k253_27 : zOk 253 27 c253_27 = true := zOkN_app (n := 9) (fin := 44) (by decide +kernel) k253_44
theorem k253_125 : zOk 253 125 c253_125 = true := by decide +kernel
theorem k253_116 : zOk 253 116 c253_116 = true := zOkN_app (n := 4) (fin := 125) (by decide +kernel) k253_125
theorem k253_96 : zOk 253 96 c253_96 = true := zOkN_app (n := 11) (fin := 116) (by decide +kernel) k253_116
theorem k253_89 : zOk 253 89 c253_89 = true := zOkN_app (n := 3) (fin := 96) (by decide +kernel) k253_96
theorem k253_86 : zOk 253 86 c253_86 = true := zOkN_app (n := 2) (fin := 89) (by decide +kernel) k253_89
theorem k253_77 : zOk 253 77 c253_77 = true := zOkN_app (n := 4) (fin := 86) (by decide +kernel) k253_86
theorem k253_61 : zOk 253 61 c253_61 = true := zOkN_app (n := 9) (fin := 77) (by decide +kernel) k253_77
theorem k253_134 : zOk 253 134 c253_134 = true := by decide +kernel
theorem k253_130 : zOk 253 130 c253_130 = true := zOkN_app (n := 2) (fin := 134) (by decide +kernel) k253_134
theorem k253_143 : zOk 253 143 c253_143 = true := by decide +kernel
theorem k253_173 : zOk 253 173 c253_173 = true := by decide +kernel
theorem k253_164 : zOk 253 164 c253_164 = true := zOkN_app (n := 4) (fin := 173) (by decide +kernel) k253_173
theorem k253_161 : zOk 253 161 c253_161 = true := zOkN_app (n := 2) (fin := 164) (by decide +kernel) k253_164
theorem k253_152 : zOk 253 152 c253_152 = true := zOkN_app (n := 4) (fin := 161) (by decide +kernel) k253_161
theorem k253_149 : zOk 253 149 c253_149 = true := zOkN_app (n := 2) (fin := 152) (by decide +kernel) k253_152
theorem k253_231 : zOk 253 231 c253_231 = true := by decide +kernel
theorem k253_237 : zOk 253 237 c253_237 = true := by decide +kernel
theorem ok253 : zOkM 253 = true := (allc (q := (0, c253_0)) k253_0 (allc (q := (10, c253_10)) k253_10 (allc (q := (25, c253_25)) k253_25 (allc (q := (27, c253_27)) k253_27 (allc (q := (59, c253_59)) k253_59 (allc (q := (61, c253_61)) k253_61 (allc (q := (77, c253_77)) k253_77 (allc (q := (89, c253_89)) k253_89 (allc (q := (130, c253_130)) k253_130 (allc (q := (134, c253_134)) k253_134 (allc (q := (143, c253_143)) k253_143 (allc (q := (149, c253_149)) k253_149 (allc (q := (152, c253_152)) k253_152 (allc (q := (164, c253_164)) k253_164 (allc (q := (231, c253_231)) k253_231 (allc (q := (237, c253_237)) k253_237 (alln)))))))))))))))) : b253.all (fun q => zOk 253 q.1 q.2) = true)
theorem k254_11 : zOk 254 11 c254_11 = true := by decide +kernel
theorem k254_7 : zOk 254 7 c254_7 = true := zOkN_app (n := 2) (fin := 11) (by decide +kernel) k254_11
theorem k254_3 : zOk 254 3 c254_3 = true := zOkN_app (n := 2) (fin := 7) (by decide +kernel) k254_7
theorem k254_0 : zOk 254 0 c254_0 = true := zOkN_app (n := 2) (fin := 3) (by decide +kernel) k254_3
theorem k254_25 : zOk 254 25 c254_25 = true := by decide +kernel
theorem k254_24 : zOk 254 24 c254_24 = true := zOkN_app (n := 1) (fin := 25) (by decide +kernel) k254_25
theorem k254_59 : zOk 254 59 c254_59 = true := by decide +kernel
theorem ok254 : zOkM 254 = true := (allc (q := (0, c254_0)) k254_0 (allc (q := (3, c254_3)) k254_3 (allc (q := (24, c254_24)) k254_24 (allc (q := (25, c254_25)) k254_25 (allc (q := (59, c254_59)) k254_59 (alln))))) : b254.all (fun q => zOk 254 q.1 q.2) = true)
theorem k255_7 : zOk 255 7 c255_7 = true := by decide +kernel
theorem k255_0 : zOk 255 0 c255_0 = true := zOkN_app (n := 3) (fin := 7) (by decide +kernel) k255_7
theorem k255_35 : zOk 255 35 c255_35 = true := by decide +kernel
theorem k255_25 : zOk 255 25 c255_25 = true := zOkN_app (n := 5) (fin := 35) (by decide +kernel) k255_35
theorem k255_17 : zOk 255 17 c255_17 = true := zOkN_app (n := 4) (fin := 25) (by decide +kernel) k255_25
theorem k255_10 : zOk 255 10 c255_10 = true := zOkN_app (n := 3) (fin := 17) (by decide +kernel) k255_17
theorem k255_77 : zOk 255 77 c255_77 = true := by decide +kernel
theorem k255_72 : zOk 255 72 c255_72 = true := zOkN_app (n := 2) (fin := 77) (by decide +kernel) k255_77
theorem k255_68 : zOk 255 68 c255_68 = true := zOkN_app (n := 2) (fin := 72) (by decide +kernel) k255_72
theorem k255_58 : zOk 255 58 c255_58 = true := zOkN_app (n := 6) (fin := 68) (by decide +kernel) k255_68
theorem k255_49 : zOk 255 49 c255_49 = true := zOkN_app (n := 5) (fin := 58) (by decide +kernel) k255_58
theorem k255_37 : zOk 255 37 c255_37 = true := zOkN_app (n := 6) (fin := 49) (by decide +kernel) k255_49
theorem k255_80 : zOk 255 80 c255_80 = true := by decide +kernel
theorem ok255 : zOkM 255 = true := (allc (q := (0, c255_0)) k255_0 (allc (q := (10, c255_10)) k255_10 (allc (q := (35, c255_35)) k255_35 (allc (q := (37, c255_37)) k255_37 (allc (q := (72, c255_72)) k255_72 (allc (q := (80, c255_80)) k255_80 (alln)))))) : b255.all (fun q => zOk 255 q.1 q.2) = true)
theorem k256_7 : zOk 256 7 c256_7 = true := by decide +kernel
theorem k256_0 : zOk 256 0 c256_0 = true := zOkN_app (n := 3) (fin := 7) (by decide +kernel) k256_7
theorem k256_31 : zOk 256 31 c256_31 = true := by decide +kernel
theorem k256_24 : zOk 256 24 c256_24 = true := zOkN_app (n := 3) (fin := 31) (by decide +kernel) k256_31
theorem k256_17 : zOk 256 17 c256_17 = true := zOkN_app (n := 3) (fin := 24) (by decide +kernel) k256_24
theorem k256_10 : zOk 256 10 c256_10 = true := zOkN_app (n := 3) (fin := 17) (by decide +kernel) k256_17
theorem k256_51 : zOk 256 51 c256_51 = true := by decide +kernel
theorem k256_42 : zOk 256 42 c256_42 = true := zOkN_app (n := 5) (fin := 51) (by decide +kernel) k256_51
theorem k256_33 : zOk 256 33 c256_33 = true := zOkN_app (n := 5) (fin := 42) (by decide +kernel) k256_42
theorem k256_107 : zOk 256 107 c256_107 = true := by decide +kernel
theorem k256_92 : zOk 256 92 c256_92 = true := zOkN_app (n := 9) (fin := 107) (by decide +kernel) k256_107
theorem k256_83 : zOk 256 83 c256_83 = true := zOkN_app (n := 5) (fin := 92) (by decide +kernel) k256_92
theorem k256_74 : zOk 256 74 c256_74 = true := zOkN_app (n := 5) (fin := 83) (by decide +kernel) k256_83
theorem k256_64 : zOk 256 64 c256_64 = true := zOkN_app (n := 6) (fin := 74) (by decide +kernel) k256_74
theorem k256_54 : zOk 256 54 c256_54 = true := zOkN_app (n := 6) (fin := 64) (by decide +kernel) k256_64
theorem k256_119 : zOk 256 119 c256_119 = true := by decide +kernel
theorem k256_112 : zOk 256 112 c256_112 = true := zOkN_app (n := 3) (fin := 119) (by decide +kernel) k256_119
theorem k256_111 : zOk 256 111 c256_111 = true := zOkN_app (n := 1) (fin := 112) (by decide +kernel) k256_112
theorem k256_125 : zOk 256 125 c256_125 = true := by decide +kernel
theorem k256_124 : zOk 256 124 c256_124 = true := zOkN_app (n := 1) (fin := 125) (by decide +kernel) k256_125
theorem ok256 : zOkM 256 = true := (allc (q := (0, c256_0)) k256_0 (allc (q := (10, c256_10)) k256_10 (allc (q := (31, c256_31)) k256_31 (allc (q := (33, c256_33)) k256_33 (allc (q := (51, c256_51)) k256_51 (allc (q := (54, c256_54)) k256_54 (allc (q := (107, c256_107)) k256_107 (allc (q := (111, c256_111)) k256_111 (allc (q := (112, c256_112)) k256_112 (allc (q := (124, c256_124)) k256_124 (allc (q := (125, c256_125)) k256_125 (alln))))))))))) : b256.all (fun q => zOk 256 q.1 q.2) = true)
theorem k257_14 : zOk 257 14 c257_14 = true := by decide +kernel
theorem k257_0 : zOk 257 0 c257_0 = true := zOkN_app (n := 8) (fin := 14) (by decide +kernel) k257_14
theorem k257_32 : zOk 257 32 c257_32 = true := by decide +kernel
theorem k257_17 : zOk 257 17 c257_17 = true := zOkN_app (n := 9) (fin := 32) (by decide +kernel) k257_32
theorem k257_45 : zOk 257 45 c257_45 = true := by decide +kernel
theorem k257_37 : zOk 257 37 c257_37 = true := zOkN_app (n := 4) (fin := 45) (by decide +kernel) k257_45
theorem k257_36 : zOk 257 36 c257_36 = true := zOkN_app (n := 1) (fin := 37) (by decide +kernel) k257_37
theorem k257_102 : zOk 257 102 c257_102 = true := by decide +kernel
theorem k257_93 : zOk 257 93 c257_93 = true := zOkN_app (n := 4) (fin := 102) (by decide +kernel) k257_102
theorem k257_90 : zOk 257 90 c257_90 = true := zOkN_app (n := 2) (fin := 93) (by decide +kernel) k257_93
theorem k257_78 : zOk 257 78 c257_78 = true := zOkN_app (n := 6) (fin := 90) (by decide +kernel) k257_90
theorem k257_50 : zOk 257 50 c257_50 = true := zOkN_app (n := 15) (fin := 78) (by decide +kernel) k257_78
theorem k257_49 : zOk 257 49 c257_49 = true := zOkN_app (n := 1) (fin := 50) (by decide +kernel) k257_50
theorem k257_121 : zOk 257 121 c257_121 = true := by decide +kernel
theorem k257_160 : zOk 257 160 c257_160 = true := by decide +kernel
theorem k257_153 : zOk 257 153 c257_153 = true := zOkN_app (n := 3) (fin := 160) (by decide +kernel) k257_160
theorem k257_150 : zOk 257 150 c257_150 = true := zOkN_app (n := 2) (fin := 153) (by decide +kernel) k257_153
theorem k257_141 : zOk 257 141 c257_141 = true := zOkN_app (n := 4) (fin := 150) (by decide +kernel) k257_150
theorem k257_127 : zOk 257 127 c257_127 = true := zOkN_app (n := 8) (fin := 141) (by decide +kernel) k257_141
theorem k257_215 : zOk 257 215 c257_215 = true := by decide +kernel
theorem k257_221 : zOk 257 221 c257_221 = true := by decide +kernel
theorem ok257 : zOkM 257 = true := (allc (q := (0, c257_0)) k257_0 (allc (q := (17, c257_17)) k257_17 (allc (q := (36, c257_36)) k257_36 (allc (q := (37, c257_37)) k257_37 (allc (q := (49, c257_49)) k257_49 (allc (q := (50, c257_50)) k257_50 (allc (q := (78, c257_78)) k257_78 (allc (q := (93, c257_93)) k257_93 (allc (q := (121, c257_121)) k257_121 (allc (q := (127, c257_127)) k257_127 (allc (q := (141, c257_141)) k257_141 (allc (q := (153, c257_153)) k257_153 (allc (q := (215, c257_215)) k257_215 (allc (q := (221, c257_221)) k257_221 (alln)))))))))))))) : b257.all (fun q => zOk 257 q.1 q.2) = true)
theorem k258_14 : zOk 258 14 c258_14 = true := by decide +kernel
theorem k258_0 : zOk 258 0 c258_0 = true := zOkN_app (n := 8) (fin := 14) (by decide +kernel) k258_14
theorem k258_49 : zOk 258 49 c258_49 = true := by decide +kernel
theorem k258_40 : zOk 258 40 c258_40 = true := zOkN_app (n := 4) (fin := 49) (by decide +kernel) k258_49
theorem k258_37 : zOk 258 37 c258_37 = true := zOkN_app (n := 2) (fin := 40) (by decide +kernel) k258_40
theorem k258_28 : zOk 258 28 c258_28 = true := zOkN_app (n := 4) (fin := 37) (by decide +kernel) k258_37
theorem k258_17 : zOk 258 17 c258_17 = true := zOkN_app (n := 6) (fin := 28) (by decide +kernel) k258_28
theorem k258_103 : zOk 258 103 c258_103 = true := by decide +kernel
theorem k258_136 : zOk 258 136 c258_136 = true := by decide +kernel
theorem k258_109 : zOk 258 109 c258_109 = true := zOkN_app (n := 17) (fin := 136) (by decide +kernel) k258_136
theorem k258_151 : zOk 258 151 c258_151 = true := by decide +kernel
theorem k258_145 : zOk 258 145 c258_145 = true := zOkN_app (n := 4) (fin := 151) (by decide +kernel) k258_151
theorem ok258 : zOkM 258 = true := (allc (q := (0, c258_0)) k258_0 (allc (q := (17, c258_17)) k258_17 (allc (q := (28, c258_28)) k258_28 (allc (q := (40, c258_40)) k258_40 (allc (q := (103, c258_103)) k258_103 (allc (q := (109, c258_109)) k258_109 (allc (q := (145, c258_145)) k258_145 (allc (q := (151, c258_151)) k258_151 (alln)))))))) : b258.all (fun q => zOk 258 q.1 q.2) = true)
theorem k259_7 : zOk 259 7 c259_7 = true := by decide +kernel
theorem k259_0 : zOk 259 0 c259_0 = true := zOkN_app (n := 3) (fin := 7) (by decide +kernel) k259_7
theorem k259_41 : zOk 259 41 c259_41 = true := by decide +kernel
theorem k259_31 : zOk 259 31 c259_31 = true := zOkN_app (n := 5) (fin := 41) (by decide +kernel) k259_41
theorem k259_17 : zOk 259 17 c259_17 = true := zOkN_app (n := 8) (fin := 31) (by decide +kernel) k259_31
theorem k259_10 : zOk 259 10 c259_10 = true := zOkN_app (n := 3) (fin := 17) (by decide +kernel) k259_17
theorem k259_55 : zOk 259 55 c259_55 = true := by decide +kernel
theorem k259_43 : zOk 259 43 c259_43 = true := zOkN_app (n := 6) (fin := 55) (by decide +kernel) k259_55
theorem k259_76 : zOk 259 76 c259_76 = true := by decide +kernel
theorem k259_60 : zOk 259 60 c259_60 = true := zOkN_app (n := 12) (fin := 76) (by decide +kernel) k259_76
theorem ok259 : zOkM 259 = true := (allc (q := (0, c259_0)) k259_0 (allc (q := (10, c259_10)) k259_10 (allc (q := (41, c259_41)) k259_41 (allc (q := (43, c259_43)) k259_43 (allc (q := (60, c259_60)) k259_60 (allc (q := (76, c259_76)) k259_76 (alln)))))) : b259.all (fun q => zOk 259 q.1 q.2) = true)
theorem k260_7 : zOk 260 7 c260_7 = true := by decide +kernel
theorem k260_0 : zOk 260 0 c260_0 = true := zOkN_app (n := 3) (fin := 7) (by decide +kernel) k260_7
theorem k260_26 : zOk 260 26 c260_26 = true := by decide +kernel
theorem k260_17 : zOk 260 17 c260_17 = true := zOkN_app (n := 5) (fin := 26) (by decide +kernel) k260_26
theorem k260_10 : zOk 260 10 c260_10 = true := zOkN_app (n := 3) (fin := 17) (by decide +kernel) k260_17
theorem k260_38 : zOk 260 38 c260_38 = true := by decide +kernel
theorem k260_28 : zOk 260 28 c260_28 = true := zOkN_app (n := 6) (fin := 38) (by decide +kernel) k260_38
theorem k260_56 : zOk 260 56 c260_56 = true := by decide +kernel
theorem k260_47 : zOk 260 47 c260_47 = true := zOkN_app (n := 5) (fin := 56) (by decide +kernel) k260_56
theorem k260_42 : zOk 260 42 c260_42 = true := zOkN_app (n := 3) (fin := 47) (by decide +kernel) k260_47
theorem k260_67 : zOk 260 67 c260_67 = true := by decide +kernel
theorem k260_61 : zOk 260 61 c260_61 = true := zOkN_app (n := 4) (fin := 67) (by decide +kernel) k260_67
theorem ok260 : zOkM 260 = true := (allc (q := (0, c260_0)) k260_0 (allc (q := (10, c260_10)) k260_10 (allc (q := (26, c260_26)) k260_26 (allc (q := (28, c260_28)) k260_28 (allc (q := (42, c260_42)) k260_42 (allc (q := (61, c260_61)) k260_61 (allc (q := (67, c260_67)) k260_67 (alln))))))) : b260.all (fun q => zOk 260 q.1 q.2) = true)
theorem k261_7 : zOk 261 7 c261_7 = true := by decide +kernel
theorem k261_0 : zOk 261 0 c261_0 = true := zOkN_app (n := 3) (fin := 7) (by decide +kernel) k261_7
theorem k261_17 : zOk 261 17 c261_17 = true := by decide +kernel
theorem k261_10 : zOk 261 10 c261_10 = true := zOkN_app (n := 3) (fin := 17) (by decide +kernel) k261_17
theorem k261_29 : zOk 261 29 c261_29 = true := by decide +kernel
theorem k261_19 : zOk 261 19 c261_19 = true := zOkN_app (n := 6) (fin := 29) (by decide +kernel) k261_29
theorem k261_42 : zOk 261 42 c261_42 = true := by decide +kernel
theorem k261_33 : zOk 261 33 c261_33 = true := zOkN_app (n := 5) (fin := 42) (by decide +kernel) k261_42
theorem k261_53 : zOk 261 53 c261_53 = true := by decide +kernel
theorem k261_47 : zOk 261 47 c261_47 = true := zOkN_app (n := 4) (fin := 53) (by decide +kernel) k261_53
theorem ok261 : zOkM 261 = true := (allc (q := (0, c261_0)) k261_0 (allc (q := (10, c261_10)) k261_10 (allc (q := (19, c261_19)) k261_19 (allc (q := (33, c261_33)) k261_33 (allc (q := (47, c261_47)) k261_47 (allc (q := (53, c261_53)) k261_53 (alln)))))) : b261.all (fun q => zOk 261 q.1 q.2) = true)
theorem k262_43 : zOk 262 43 c262_43 = true := by decide +kernel
theorem k262_36 : zOk 262 36 c262_36 = true := zOkN_app (n := 3) (fin := 43) (by decide +kernel) k262_43
theorem k262_33 : zOk 262 33 c262_33 = true := zOkN_app (n := 2) (fin := 36) (by decide +kernel) k262_36
theorem k262_25 : zOk 262 25 c262_25 = true := zOkN_app (n := 4) (fin := 33) (by decide +kernel) k262_33
theorem k262_23 : zOk 262 23 c262_23 = true := zOkN_app (n := 2) (fin := 25) (by decide +kernel) k262_25
theorem k262_15 : zOk 262 15 c262_15 = true := zOkN_app (n := 4) (fin := 23) (by decide +kernel) k262_23
theorem k262_0 : zOk 262 0 c262_0 = true := zOkN_app (n := 9) (fin := 15) (by decide +kernel) k262_15
theorem k262_75 : zOk 262 75 c262_75 = true := by decide +kernel
theorem k262_115 : zOk 262 115 c262_115 = true := by decide +kernel
theorem k262_100 : zOk 262 100 c262_100 = true := zOkN_app (n := 9) (fin := 115) (by decide +kernel) k262_115
theorem k262_93 : zOk 262 93 c262_93 = true := zOkN_app (n := 3) (fin := 100) (by decide +kernel) k262_100
theorem k262_90 : zOk 262 90 c262_90 = true := zOkN_app (n := 2) (fin := 93) (by decide +kernel) k262_93
theorem k262_86 : zOk 262 86 c262_86 = true := zOkN_app (n := 2) (fin := 90) (by decide +kernel) k262_90
theorem k262_81 : zOk 262 81 c262_81 = true := zOkN_app (n := 3) (fin := 86) (by decide +kernel) k262_86
theorem k262_133 : zOk 262 133 c262_133 = true := by decide +kernel
theorem k262_132 : zOk 262 132 c262_132 = true := zOkN_app (n := 1) (fin := 133) (by decide +kernel) k262_133
theorem k262_140 : zOk 262 140 c262_140 = true := by decide +kernel
theorem k262_146 : zOk 262 146 c262_146 = true := by decide +kernel
theorem k262_156 : zOk 262 156 c262_156 = true := by decide +kernel
theorem ok262 : zOkM 262 = true := (allc (q := (0, c262_0)) k262_0 (allc (q := (15, c262_15)) k262_15 (allc (q := (25, c262_25)) k262_25 (allc (q := (36, c262_36)) k262_36 (allc (q := (75, c262_75)) k262_75 (allc (q := (81, c262_81)) k262_81 (allc (q := (86, c262_86)) k262_86 (allc (q := (93, c262_93)) k262_93 (allc (q := (132, c262_132)) k262_132 (allc (q := (133, c262_133)) k262_133 (allc (q := (140, c262_140)) k262_140 (allc (q := (146, c262_146)) k262_146 (allc (q := (156, c262_156)) k262_156 (alln))))))))))))) : b262.all (fun q => zOk 262 q.1 q.2) = true)
theorem k263_61 : zOk 263 61 c263_61 = true := by decide +kernel
theorem k263_36 : zOk 263 36 c263_36 = true := zOkN_app (n := 13) (fin := 61) (by decide +kernel) k263_61
theorem k263_32 : zOk 263 32 c263_32 = true := zOkN_app (n := 2) (fin := 36) (by decide +kernel) k263_36
theorem k263_19 : zOk 263 19 c263_19 = true := zOkN_app (n := 8) (fin := 32) (by decide +kernel) k263_32
theorem k263_16 : zOk 263 16 c263_16 = true := zOkN_app (n := 2) (fin := 19) (by decide +kernel) k263_19
theorem k263_12 : zOk 263 12 c263_12 = true := zOkN_app (n := 2) (fin := 16) (by decide +kernel) k263_16
theorem k263_4 : zOk 263 4 c263_4 = true := zOkN_app (n := 4) (fin := 12) (by decide +kernel) k263_12
theorem k263_0 : zOk 263 0 c263_0 = true := zOkN_app (n := 4) (fin := 4) (by decide +kernel) k263_4
theorem k263_66 : zOk 263 66 c263_66 = true := by decide +kernel
theorem k263_65 : zOk 263 65 c263_65 = true := zOkN_app (n := 1) (fin := 66) (by decide +kernel) k263_66
theorem k263_95 : zOk 263 95 c263_95 = true := by decide +kernel
theorem k263_101 : zOk 263 101 c263_101 = true := by decide +kernel
theorem ok263 : zOkM 263 = true := (allc (q := (0, c263_0)) k263_0 (allc (q := (4, c263_4)) k263_4 (allc (q := (19, c263_19)) k263_19 (allc (q := (65, c263_65)) k263_65 (allc (q := (66, c263_66)) k263_66 (allc (q := (95, c263_95)) k263_95 (allc (q := (101, c263_101)) k263_101 (alln))))))) : b263.all (fun q => zOk 263 q.1 q.2) = true)
theorem k264_7 : zOk 264 7 c264_7 = true := by decide +kernel
theorem k264_0 : zOk 264 0 c264_0 = true := zOkN_app (n := 3) (fin := 7) (by decide +kernel) k264_7
theorem k264_17 : zOk 264 17 c264_17 = true := by decide +kernel
theorem k264_10 : zOk 264 10 c264_10 = true := zOkN_app (n := 3) (fin := 17) (by decide +kernel) k264_17
theorem k264_29 : zOk 264 29 c264_29 = true := by decide +kernel
theorem k264_19 : zOk 264 19 c264_19 = true := zOkN_app (n := 6) (fin := 29) (by decide +kernel) k264_29
theorem k264_44 : zOk 264 44 c264_44 = true := by decide +kernel
theorem k264_31 : zOk 264 31 c264_31 = true := zOkN_app (n := 7) (fin := 44) (by decide +kernel) k264_44
theorem k264_49 : zOk 264 49 c264_49 = true := by decide +kernel
theorem k264_48 : zOk 264 48 c264_48 = true := zOkN_app (n := 1) (fin := 49) (by decide +kernel) k264_49
theorem ok264 : zOkM 264 = true := (allc (q := (0, c264_0)) k264_0 (allc (q := (10, c264_10)) k264_10 (allc (q := (19, c264_19)) k264_19 (allc (q := (31, c264_31)) k264_31 (allc (q := (48, c264_48)) k264_48 (allc (q := (49, c264_49)) k264_49 (alln)))))) : b264.all (fun q => zOk 264 q.1 q.2) = true)
theorem k265_7 : zOk 265 7 c265_7 = true := by decide +kernel
theorem k265_0 : zOk 265 0 c265_0 = true := zOkN_app (n := 3) (fin := 7) (by decide +kernel) k265_7
theorem k265_40 : zOk 265 40 c265_40 = true := by decide +kernel
theorem k265_29 : zOk 265 29 c265_29 = true := zOkN_app (n := 5) (fin := 40) (by decide +kernel) k265_40
theorem k265_17 : zOk 265 17 c265_17 = true := zOkN_app (n := 6) (fin := 29) (by decide +kernel) k265_29
theorem k265_10 : zOk 265 10 c265_10 = true := zOkN_app (n := 3) (fin := 17) (by decide +kernel) k265_17
theorem k265_54 : zOk 265 54 c265_54 = true := by decide +kernel
theorem k265_42 : zOk 265 42 c265_42 = true := zOkN_app (n := 6) (fin := 54) (by decide +kernel) k265_54
theorem k265_70 : zOk 265 70 c265_70 = true := by decide +kernel
theorem k265_57 : zOk 265 57 c265_57 = true := zOkN_app (n := 7) (fin := 70) (by decide +kernel) k265_70
theorem k265_87 : zOk 265 87 c265_87 = true := by decide +kernel
theorem k265_85 : zOk 265 85 c265_85 = true := zOkN_app (n := 1) (fin := 87) (by decide +kernel) k265_87
theorem ok265 : zOkM 265 = true := (allc (q := (0, c265_0)) k265_0 (allc (q := (10, c265_10)) k265_10 (allc (q := (40, c265_40)) k265_40 (allc (q := (42, c265_42)) k265_42 (allc (q := (57, c265_57)) k265_57 (allc (q := (85, c265_85)) k265_85 (allc (q := (87, c265_87)) k265_87 (alln))))))) : b265.all (fun q => zOk 265 q.1 q.2) = true)
theorem k266_55 : zOk 266 55 c266_55 = true := by decide +kernel
theorem k266_50 : zOk 266 50 c266_50 = true := zOkN_app (n := 2) (fin := 55) (by decide +kernel) k266_55
theorem k266_45 : zOk 266 45 c266_45 = true := zOkN_app (n := 2) (fin := 50) (by decide +kernel) k266_50
theorem k266_25 : zOk 266 25 c266_25 = true := zOkN_app (n := 13) (fin := 45) (by decide +kernel) k266_45
theorem k266_21 : zOk 266 21 c266_21 = true := zOkN_app (n := 2) (fin := 25) (by decide +kernel) k266_25
theorem k266_18 : zOk 266 18 c266_18 = true := zOkN_app (n := 2) (fin := 21) (by decide +kernel) k266_21
theorem k266_10 : zOk 266 10 c266_10 = true := zOkN_app (n := 4) (fin := 18) (by decide +kernel) k266_18
theorem k266_0 : zOk 266 0 c266_0 = true := zOkN_app (n := 6) (fin := 10) (by decide +kernel) k266_10
theorem k266_71 : zOk 266 71 c266_71 = true := by decide +kernel
theorem k266_70 : zOk 266 70 c266_70 = true := zOkN_app (n := 1) (fin := 71) (by decide +kernel) k266_71
theorem k266_114 : zOk 266 114 c266_114 = true := by decide +kernel
theorem k266_156 : zOk 266 156 c266_156 = true := by decide +kernel
theorem k266_162 : zOk 266 162 c266_162 = true := by decide +kernel
theorem ok266 : zOkM 266 = true := (allc (q := (0, c266_0)) k266_0 (allc (q := (10, c266_10)) k266_10 (allc (q := (21, c266_21)) k266_21 (allc (q := (45, c266_45)) k266_45 (allc (q := (70, c266_70)) k266_70 (allc (q := (71, c266_71)) k266_71 (allc (q := (114, c266_114)) k266_114 (allc (q := (156, c266_156)) k266_156 (allc (q := (162, c266_162)) k266_162 (alln))))))))) : b266.all (fun q => zOk 266 q.1 q.2) = true)
theorem k267_7 : zOk 267 7 c267_7 = true := by decide +kernel
theorem k267_0 : zOk 267 0 c267_0 = true := zOkN_app (n := 3) (fin := 7) (by decide +kernel) k267_7
theorem k267_17 : zOk 267 17 c267_17 = true := by decide +kernel
theorem k267_10 : zOk 267 10 c267_10 = true := zOkN_app (n := 3) (fin := 17) (by decide +kernel) k267_17
theorem k267_38 : zOk 267 38 c267_38 = true := by decide +kernel
theorem k267_29 : zOk 267 29 c267_29 = true := zOkN_app (n := 5) (fin := 38) (by decide +kernel) k267_38
theorem k267_19 : zOk 267 19 c267_19 = true := zOkN_app (n := 6) (fin := 29) (by decide +kernel) k267_29
theorem k267_73 : zOk 267 73 c267_73 = true := by decide +kernel
theorem k267_60 : zOk 267 60 c267_60 = true := zOkN_app (n := 7) (fin := 73) (by decide +kernel) k267_73
theorem k267_52 : zOk 267 52 c267_52 = true := zOkN_app (n := 4) (fin := 60) (by decide +kernel) k267_60
theorem k267_40 : zOk 267 40 c267_40 = true := zOkN_app (n := 8) (fin := 52) (by decide +kernel) k267_52
theorem k267_75 : zOk 267 75 c267_75 = true := by decide +kernel
theorem k267_81 : zOk 267 81 c267_81 = true := by decide +kernel
theorem ok267 : zOkM 267 = true := (allc (q := (0, c267_0)) k267_0 (allc (q := (10, c267_10)) k267_10 (allc (q := (19, c267_19)) k267_19 (allc (q := (38, c267_38)) k267_38 (allc (q := (40, c267_40)) k267_40 (allc (q := (52, c267_52)) k267_52 (allc (q := (75, c267_75)) k267_75 (allc (q := (81, c267_81)) k267_81 (alln)))))))) : b267.all (fun q => zOk 267 q.1 q.2) = true)
theorem k268_15 : zOk 268 15 c268_15 = true := by decide +kernel
theorem k268_10 : zOk 268 10 c268_10 = true := zOkN_app (n := 3) (fin := 15) (by decide +kernel) k268_15
theorem k268_6 : zOk 268 6 c268_6 = true := zOkN_app (n := 2) (fin := 10) (by decide +kernel) k268_10
theorem k268_0 : zOk 268 0 c268_0 = true := zOkN_app (n := 4) (fin := 6) (by decide +kernel) k268_6
theorem k268_30 : zOk 268 30 c268_30 = true := by decide +kernel
theorem k268_22 : zOk 268 22 c268_22 = true := zOkN_app (n := 4) (fin := 30) (by decide +kernel) k268_30
theorem k268_17 : zOk 268 17 c268_17 = true := zOkN_app (n := 3) (fin := 22) (by decide +kernel) k268_22
theorem k268_35 : zOk 268 35 c268_35 = true := by decide +kernel
theorem k268_34 : zOk 268 34 c268_34 = true := zOkN_app (n := 1) (fin := 35) (by decide +kernel) k268_35
theorem k268_40 : zOk 268 40 c268_40 = true := by decide +kernel
theorem k268_36 : zOk 268 36 c268_36 = true := zOkN_app (n := 2) (fin := 40) (by decide +kernel) k268_40
theorem k268_60 : zOk 268 60 c268_60 = true := by decide +kernel
theorem k268_55 : zOk 268 55 c268_55 = true := zOkN_app (n := 3) (fin := 60) (by decide +kernel) k268_60
theorem k268_49 : zOk 268 49 c268_49 = true := zOkN_app (n := 4) (fin := 55) (by decide +kernel) k268_55
theorem k268_90 : zOk 268 90 c268_90 = true := by decide +kernel
theorem k268_83 : zOk 268 83 c268_83 = true := zOkN_app (n := 4) (fin := 90) (by decide +kernel) k268_90
theorem k268_75 : zOk 268 75 c268_75 = true := zOkN_app (n := 5) (fin := 83) (by decide +kernel) k268_83
theorem k268_69 : zOk 268 69 c268_69 = true := zOkN_app (n := 4) (fin := 75) (by decide +kernel) k268_75
theorem k268_95 : zOk 268 95 c268_95 = true := by decide +kernel
theorem k268_94 : zOk 268 94 c268_94 = true := zOkN_app (n := 1) (fin := 95) (by decide +kernel) k268_95
theorem ok268 : zOkM 268 = true := (allc (q := (0, c268_0)) k268_0 (allc (q := (15, c268_15)) k268_15 (allc (q := (17, c268_17)) k268_17 (allc (q := (34, c268_34)) k268_34 (allc (q := (35, c268_35)) k268_35 (allc (q := (36, c268_36)) k268_36 (allc (q := (49, c268_49)) k268_49 (allc (q := (55, c268_55)) k268_55 (allc (q := (69, c268_69)) k268_69 (allc (q := (75, c268_75)) k268_75 (allc (q := (94, c268_94)) k268_94 (allc (q := (95, c268_95)) k268_95 (alln)))))))))))) : b268.all (fun q => zOk 268 q.1 q.2) = true)
theorem k269_8 : zOk 269 8 c269_8 = true := by decide +kernel
theorem k269_0 : zOk 269 0 c269_0 = true := zOkN_app (n := 4) (fin := 8) (by decide +kernel) k269_8
theorem k269_22 : zOk 269 22 c269_22 = true := by decide +kernel
theorem k269_12 : zOk 269 12 c269_12 = true := zOkN_app (n := 6) (fin := 22) (by decide +kernel) k269_22
theorem k269_64 : zOk 269 64 c269_64 = true := by decide +kernel
theorem k269_48 : zOk 269 48 c269_48 = true := zOkN_app (n := 8) (fin := 64) (by decide +kernel) k269_64
theorem k269_41 : zOk 269 41 c269_41 = true := zOkN_app (n := 3) (fin := 48) (by decide +kernel) k269_48
theorem k269_36 : zOk 269 36 c269_36 = true := zOkN_app (n := 2) (fin := 41) (by decide +kernel) k269_41
theorem k269_27 : zOk 269 27 c269_27 = true := zOkN_app (n := 5) (fin := 36) (by decide +kernel) k269_36
theorem k269_26 : zOk 269 26 c269_26 = true := zOkN_app (n := 1) (fin := 27) (by decide +kernel) k269_27
theorem k269_115 : zOk 269 115 c269_115 = true := by decide +kernel
theorem k269_100 : zOk 269 100 c269_100 = true := zOkN_app (n := 10) (fin := 115) (by decide +kernel) k269_115
theorem k269_91 : zOk 269 91 c269_91 = true := zOkN_app (n := 5) (fin := 100) (by decide +kernel) k269_100
theorem k269_80 : zOk 269 80 c269_80 = true := zOkN_app (n := 5) (fin := 91) (by decide +kernel) k269_91
theorem k269_79 : zOk 269 79 c269_79 = true := zOkN_app (n := 1) (fin := 80) (by decide +kernel) k269_80
theorem k269_132 : zOk 269 132 c269_132 = true := by decide +kernel
theorem k269_120 : zOk 269 120 c269_120 = true := zOkN_app (n := 9) (fin := 132) (by decide +kernel) k269_132
theorem k269_119 : zOk 269 119 c269_119 = true := zOkN_app (n := 1) (fin := 120) (by decide +kernel) k269_120
theorem k269_145 : zOk 269 145 c269_145 = true := by decide +kernel
theorem k269_138 : zOk 269 138 c269_138 = true := zOkN_app (n := 3) (fin := 145) (by decide +kernel) k269_145
theorem k269_150 : zOk 269 150 c269_150 = true := by decide +kernel
theorem k269_149 : zOk 269 149 c269_149 = true := zOkN_app (n := 1) (fin := 150) (by decide +kernel) k269_150
theorem ok269 : zOkM 269 = true := (allc (q := (0, c269_0)) k269_0 (allc (q := (12, c269_12)) k269_12 (allc (q := (26, c269_26)) k269_26 (allc (q := (27, c269_27)) k269_27 (allc (q := (36, c269_36)) k269_36 (allc (q := (79, c269_79)) k269_79 (allc (q := (80, c269_80)) k269_80 (allc (q := (119, c269_119)) k269_119 (allc (q := (120, c269_120)) k269_120 (allc (q := (132, c269_132)) k269_132 (allc (q := (138, c269_138)) k269_138 (allc (q := (149, c269_149)) k269_149 (allc (q := (150, c269_150)) k269_150 (alln))))))))))))) : b269.all (fun q => zOk 269 q.1 q.2) = true)
theorem k270_40 : zOk 270 40 c270_40 = true := by decide +kernel
theorem k270_25 : zOk 270 25 c270_25 = true := zOkN_app (n := 9) (fin := 40) (by decide +kernel) k270_40
theorem k270_10 : zOk 270 10 c270_10 = true := zOkN_app (n := 9) (fin := 25) (by decide +kernel) k270_25
theorem k270_2 : zOk 270 2 c270_2 = true := zOkN_app (n := 4) (fin := 10) (by decide +kernel) k270_10
theorem k270_0 : zOk 270 0 c270_0 = true := zOkN_app (n := 2) (fin := 2) (by decide +kernel) k270_2
theorem k270_87 : zOk 270 87 c270_87 = true := by decide +kernel
theorem k270_60 : zOk 270 60 c270_60 = true := zOkN_app (n := 17) (fin := 87) (by decide +kernel) k270_87
theorem k270_56 : zOk 270 56 c270_56 = true := zOkN_app (n := 2) (fin := 60) (by decide +kernel) k270_60
theorem k270_49 : zOk 270 49 c270_49 = true := zOkN_app (n := 3) (fin := 56) (by decide +kernel) k270_56
theorem k270_45 : zOk 270 45 c270_45 = true := zOkN_app (n := 3) (fin := 49) (by decide +kernel) k270_49
theorem k270_44 : zOk 270 44 c270_44 = true := zOkN_app (n := 1) (fin := 45) (by decide +kernel) k270_45
theorem k270_92 : zOk 270 92 c270_92 = true := by decide +kernel
theorem k270_91 : zOk 270 91 c270_91 = true := zOkN_app (n := 1) (fin := 92) (by decide +kernel) k270_92
theorem k270_103 : zOk 270 103 c270_103 = true := by decide +kernel
theorem k270_99 : zOk 270 99 c270_99 = true := zOkN_app (n := 2) (fin := 103) (by decide +kernel) k270_103
theorem k270_105 : zOk 270 105 c270_105 = true := by decide +kernel
theorem k270_111 : zOk 270 111 c270_111 = true := by decide +kernel
theorem ok270 : zOkM 270 = true := (allc (q := (0, c270_0)) k270_0 (allc (q := (2, c270_2)) k270_2 (allc (q := (44, c270_44)) k270_44 (allc (q := (45, c270_45)) k270_45 (allc (q := (49, c270_49)) k270_49 (allc (q := (91, c270_91)) k270_91 (allc (q := (92, c270_92)) k270_92 (allc (q := (99, c270_99)) k270_99 (allc (q := (105, c270_105)) k270_105 (allc (q := (111, c270_111)) k270_111 (alln)))))))))) : b270.all (fun q => zOk 270 q.1 q.2) = true)
theorem k271_12 : zOk 271 12 c271_12 = true := by decide +kernel
theorem k271_0 : zOk 271 0 c271_0 = true := zOkN_app (n := 7) (fin := 12) (by decide +kernel) k271_12
theorem k271_23 : zOk 271 23 c271_23 = true := by decide +kernel
theorem k271_14 : zOk 271 14 c271_14 = true := zOkN_app (n := 4) (fin := 23) (by decide +kernel) k271_23
theorem k271_34 : zOk 271 34 c271_34 = true := by decide +kernel
theorem k271_28 : zOk 271 28 c271_28 = true := zOkN_app (n := 3) (fin := 34) (by decide +kernel) k271_34
theorem k271_26 : zOk 271 26 c271_26 = true := zOkN_app (n := 2) (fin := 28) (by decide +kernel) k271_28
theorem k271_65 : zOk 271 65 c271_65 = true := by decide +kernel
theorem ok271 : zOkM 271 = true := (allc (q := (0, c271_0)) k271_0 (allc (q := (14, c271_14)) k271_14 (allc (q := (26, c271_26)) k271_26 (allc (q := (28, c271_28)) k271_28 (allc (q := (65, c271_65)) k271_65 (alln))))) : b271.all (fun q => zOk 271 q.1 q.2) = true)
theorem k272_7 : zOk 272 7 c272_7 = true := by decide +kernel
theorem k272_0 : zOk 272 0 c272_0 = true := zOkN_app (n := 3) (fin := 7) (by decide +kernel) k272_7
theorem k272_17 : zOk 272 17 c272_17 = true := by decide +kernel
theorem k272_10 : zOk 272 10 c272_10 = true := zOkN_app (n := 3) (fin := 17) (by decide +kernel) k272_17
theorem k272_29 : zOk 272 29 c272_29 = true := by decide +kernel
theorem k272_19 : zOk 272 19 c272_19 = true := zOkN_app (n := 6) (fin := 29) (by decide +kernel) k272_29
theorem k272_38 : zOk 272 38 c272_38 = true := by decide +kernel
theorem k272_33 : zOk 272 33 c272_33 = true := zOkN_app (n := 3) (fin := 38) (by decide +kernel) k272_38
theorem ok272 : zOkM 272 = true := (allc (q := (0, c272_0)) k272_0 (allc (q := (10, c272_10)) k272_10 (allc (q := (19, c272_19)) k272_19 (allc (q := (33, c272_33)) k272_33 (allc (q := (38, c272_38)) k272_38 (alln))))) : b272.all (fun q => zOk 272 q.1 q.2) = true)
theorem k273_7 : zOk 273 7 c273_7 = true := by decide +kernel
theorem k273_0 : zOk 273 0 c273_0 = true := zOkN_app (n := 3) (fin := 7) (by decide +kernel) k273_7
theorem k273_31 : zOk 273 31 c273_31 = true := by decide +kernel
theorem k273_24 : zOk 273 24 c273_24 = true := zOkN_app (n := 3) (fin := 31) (by decide +kernel) k273_31
theorem k273_10 : zOk 273 10 c273_10 = true := zOkN_app (n := 8) (fin := 24) (by decide +kernel) k273_24
theorem k273_41 : zOk 273 41 c273_41 = true := by decide +kernel
theorem k273_35 : zOk 273 35 c273_35 = true := zOkN_app (n := 3) (fin := 41) (by decide +kernel) k273_41
theorem k273_33 : zOk 273 33 c273_33 = true := zOkN_app (n := 2) (fin := 35) (by decide +kernel) k273_35
theorem k273_69 : zOk 273 69 c273_69 = true := by decide +kernel
theorem ok273 : zOkM 273 = true := (allc (q := (0, c273_0)) k273_0 (allc (q := (10, c273_10)) k273_10 (allc (q := (31, c273_31)) k273_31 (allc (q := (33, c273_33)) k273_33 (allc (q := (35, c273_35)) k273_35 (allc (q := (69, c273_69)) k273_69 (alln)))))) : b273.all (fun q => zOk 273 q.1 q.2) = true)
theorem k274_22 : zOk 274 22 c274_22 = true := by decide +kernel
theorem k274_16 : zOk 274 16 c274_16 = true := zOkN_app (n := 3) (fin := 22) (by decide +kernel) k274_22
theorem k274_7 : zOk 274 7 c274_7 = true := zOkN_app (n := 5) (fin := 16) (by decide +kernel) k274_16
theorem k274_0 : zOk 274 0 c274_0 = true := zOkN_app (n := 3) (fin := 7) (by decide +kernel) k274_7
theorem k274_28 : zOk 274 28 c274_28 = true := by decide +kernel
theorem k274_24 : zOk 274 24 c274_24 = true := zOkN_app (n := 2) (fin := 28) (by decide +kernel) k274_28
theorem k274_62 : zOk 274 62 c274_62 = true := by decide +kernel
theorem k274_55 : zOk 274 55 c274_55 = true := zOkN_app (n := 3) (fin := 62) (by decide +kernel) k274_62
theorem k274_31 : zOk 274 31 c274_31 = true := zOkN_app (n := 17) (fin := 55) (by decide +kernel) k274_55
theorem k274_81 : zOk 274 81 c274_81 = true := by decide +kernel
theorem ok274 : zOkM 274 = true := (allc (q := (0, c274_0)) k274_0 (allc (q := (22, c274_22)) k274_22 (allc (q := (24, c274_24)) k274_24 (allc (q := (31, c274_31)) k274_31 (allc (q := (55, c274_55)) k274_55 (allc (q := (81, c274_81)) k274_81 (alln)))))) : b274.all (fun q => zOk 274 q.1 q.2) = true)
theorem k275_9 : zOk 275 9 c275_9 = true := by decide +kernel
theorem k275_0 : zOk 275 0 c275_0 = true := zOkN_app (n := 5) (fin := 9) (by decide +kernel) k275_9
theorem k275_24 : zOk 275 24 c275_24 = true := by decide +kernel
theorem k275_14 : zOk 275 14 c275_14 = true := zOkN_app (n := 6) (fin := 24) (by decide +kernel) k275_24
theorem k275_30 : zOk 275 30 c275_30 = true := by decide +kernel
theorem k275_29 : zOk 275 29 c275_29 = true := zOkN_app (n := 1) (fin := 30) (by decide +kernel) k275_30
theorem ok275 : zOkM 275 = true := (allc (q := (0, c275_0)) k275_0 (allc (q := (14, c275_14)) k275_14 (allc (q := (29, c275_29)) k275_29 (allc (q := (30, c275_30)) k275_30 (alln)))) : b275.all (fun q => zOk 275 q.1 q.2) = true)
theorem k276_7 : zOk 276 7 c276_7 = true := by decide +kernel
theorem k276_0 : zOk 276 0 c276_0 = true := zOkN_app (n := 3) (fin := 7) (by decide +kernel) k276_7
theorem k276_21 : zOk 276 21 c276_21 = true := by decide +kernel
theorem k276_9 : zOk 276 9 c276_9 = true := zOkN_app (n := 6) (fin := 21) (by decide +kernel) k276_21
theorem k276_40 : zOk 276 40 c276_40 = true := by decide +kernel
theorem k276_24 : zOk 276 24 c276_24 = true := zOkN_app (n := 10) (fin := 40) (by decide +kernel) k276_40
theorem k276_60 : zOk 276 60 c276_60 = true := by decide +kernel
theorem k276_52 : zOk 276 52 c276_52 = true := zOkN_app (n := 6) (fin := 60) (by decide +kernel) k276_60
theorem k276_43 : zOk 276 43 c276_43 = true := zOkN_app (n := 5) (fin := 52) (by decide +kernel) k276_52
theorem k276_63 : zOk 276 63 c276_63 = true := by decide +kernel
theorem ok276 : zOkM 276 = true := (allc (q := (0, c276_0)) k276_0 (allc (q := (9, c276_9)) k276_9 (allc (q := (24, c276_24)) k276_24 (allc (q := (43, c276_43)) k276_43 (allc (q := (63, c276_63)) k276_63 (alln))))) : b276.all (fun q => zOk 276 q.1 q.2) = true)
theorem k277_8 : zOk 277 8 c277_8 = true := by decide +kernel
theorem k277_0 : zOk 277 0 c277_0 = true := zOkN_app (n := 4) (fin := 8) (by decide +kernel) k277_8
theorem k277_38 : zOk 277 38 c277_38 = true := by decide +kernel
theorem k277_22 : zOk 277 22 c277_22 = true := zOkN_app (n := 10) (fin := 38) (by decide +kernel) k277_38
theorem k277_12 : zOk 277 12 c277_12 = true := zOkN_app (n := 6) (fin := 22) (by decide +kernel) k277_22
theorem k277_53 : zOk 277 53 c277_53 = true := by decide +kernel
theorem k277_43 : zOk 277 43 c277_43 = true := zOkN_app (n := 4) (fin := 53) (by decide +kernel) k277_53
theorem k277_42 : zOk 277 42 c277_42 = true := zOkN_app (n := 1) (fin := 43) (by decide +kernel) k277_43
theorem k277_68 : zOk 277 68 c277_68 = true := by decide +kernel
theorem k277_67 : zOk 277 67 c277_67 = true := zOkN_app (n := 1) (fin := 68) (by decide +kernel) k277_68
theorem ok277 : zOkM 277 = true := (allc (q := (0, c277_0)) k277_0 (allc (q := (12, c277_12)) k277_12 (allc (q := (38, c277_38)) k277_38 (allc (q := (42, c277_42)) k277_42 (allc (q := (43, c277_43)) k277_43 (allc (q := (67, c277_67)) k277_67 (allc (q := (68, c277_68)) k277_68 (alln))))))) : b277.all (fun q => zOk 277 q.1 q.2) = true)
theorem k278_14 : zOk 278 14 c278_14 = true := by decide +kernel
theorem k278_7 : zOk 278 7 c278_7 = true := zOkN_app (n := 3) (fin := 14) (by decide +kernel) k278_14
theorem k278_0 : zOk 278 0 c278_0 = true := zOkN_app (n := 3) (fin := 7) (by decide +kernel) k278_7
theorem k278_34 : zOk 278 34 c278_34 = true := by decide +kernel
theorem k278_25 : zOk 278 25 c278_25 = true := zOkN_app (n := 5) (fin := 34) (by decide +kernel) k278_34
theorem k278_16 : zOk 278 16 c278_16 = true := zOkN_app (n := 5) (fin := 25) (by decide +kernel) k278_25
theorem k278_72 : zOk 278 72 c278_72 = true := by decide +kernel
theorem k278_57 : zOk 278 57 c278_57 = true := zOkN_app (n := 9) (fin := 72) (by decide +kernel) k278_72
theorem k278_47 : zOk 278 47 c278_47 = true := zOkN_app (n := 6) (fin := 57) (by decide +kernel) k278_57
theorem k278_37 : zOk 278 37 c278_37 = true := zOkN_app (n := 6) (fin := 47) (by decide +kernel) k278_47
theorem k278_116 : zOk 278 116 c278_116 = true := by decide +kernel
theorem k278_102 : zOk 278 102 c278_102 = true := zOkN_app (n := 8) (fin := 116) (by decide +kernel) k278_116
theorem k278_89 : zOk 278 89 c278_89 = true := zOkN_app (n := 8) (fin := 102) (by decide +kernel) k278_102
theorem k278_84 : zOk 278 84 c278_84 = true := zOkN_app (n := 2) (fin := 89) (by decide +kernel) k278_89
theorem k278_80 : zOk 278 80 c278_80 = true := zOkN_app (n := 2) (fin := 84) (by decide +kernel) k278_84
theorem k278_75 : zOk 278 75 c278_75 = true := zOkN_app (n := 2) (fin := 80) (by decide +kernel) k278_80
theorem k278_129 : zOk 278 129 c278_129 = true := by decide +kernel
theorem k278_122 : zOk 278 122 c278_122 = true := zOkN_app (n := 3) (fin := 129) (by decide +kernel) k278_129
theorem k278_119 : zOk 278 119 c278_119 = true := zOkN_app (n := 2) (fin := 122) (by decide +kernel) k278_122
theorem k278_166 : zOk 278 166 c278_166 = true := by decide +kernel
theorem k278_159 : zOk 278 159 c278_159 = true := zOkN_app (n := 3) (fin := 166) (by decide +kernel) k278_166
theorem k278_156 : zOk 278 156 c278_156 = true := zOkN_app (n := 2) (fin := 159) (by decide +kernel) k278_159
theorem k278_194 : zOk 278 194 c278_194 = true := by decide +kernel
theorem ok278 : zOkM 278 = true := (allc (q := (0, c278_0)) k278_0 (allc (q := (14, c278_14)) k278_14 (allc (q := (16, c278_16)) k278_16 (allc (q := (34, c278_34)) k278_34 (allc (q := (37, c278_37)) k278_37 (allc (q := (72, c278_72)) k278_72 (allc (q := (75, c278_75)) k278_75 (allc (q := (116, c278_116)) k278_116 (allc (q := (119, c278_119)) k278_119 (allc (q := (122, c278_122)) k278_122 (allc (q := (156, c278_156)) k278_156 (allc (q := (159, c278_159)) k278_159 (allc (q := (194, c278_194)) k278_194 (alln))))))))))))) : b278.all (fun q => zOk 278 q.1 q.2) = true)
theorem k279_7 : zOk 279 7 c279_7 = true := by decide +kernel
theorem k279_0 : zOk 279 0 c279_0 = true := zOkN_app (n := 3) (fin := 7) (by decide +kernel) k279_7
theorem k279_24 : zOk 279 24 c279_24 = true := by decide +kernel
theorem k279_17 : zOk 279 17 c279_17 = true := zOkN_app (n := 3) (fin := 24) (by decide +kernel) k279_24
theorem k279_10 : zOk 279 10 c279_10 = true := zOkN_app (n := 3) (fin := 17) (by decide +kernel) k279_17
theorem k279_36 : zOk 279 36 c279_36 = true := by decide +kernel
theorem k279_26 : zOk 279 26 c279_26 = true := zOkN_app (n := 6) (fin := 36) (by decide +kernel) k279_36
theorem k279_54 : zOk 279 54 c279_54 = true := by decide +kernel
theorem k279_38 : zOk 279 38 c279_38 = true := zOkN_app (n := 9) (fin := 54) (by decide +kernel) k279_54
theorem k279_90 : zOk 279 90 c279_90 = true := by decide +kernel
theorem k279_83 : zOk 279 83 c279_83 = true := zOkN_app (n := 3) (fin := 90) (by decide +kernel) k279_90
theorem k279_70 : zOk 279 70 c279_70 = true := zOkN_app (n := 7) (fin := 83) (by decide +kernel) k279_83
theorem k279_63 : zOk 279 63 c279_63 = true := zOkN_app (n := 4) (fin := 70) (by decide +kernel) k279_70
theorem k279_131 : zOk 279 131 c279_131 = true := by decide +kernel
theorem ok279 : zOkM 279 = true := (allc (q := (0, c279_0)) k279_0 (allc (q := (10, c279_10)) k279_10 (allc (q := (24, c279_24)) k279_24 (allc (q := (26, c279_26)) k279_26 (allc (q := (38, c279_38)) k279_38 (allc (q := (63, c279_63)) k279_63 (allc (q := (70, c279_70)) k279_70 (allc (q := (83, c279_83)) k279_83 (allc (q := (131, c279_131)) k279_131 (alln))))))))) : b279.all (fun q => zOk 279 q.1 q.2) = true)
theorem k280_7 : zOk 280 7 c280_7 = true := by decide +kernel
theorem k280_0 : zOk 280 0 c280_0 = true := zOkN_app (n := 3) (fin := 7) (by decide +kernel) k280_7
theorem k280_24 : zOk 280 24 c280_24 = true := by decide +kernel
theorem k280_17 : zOk 280 17 c280_17 = true := zOkN_app (n := 3) (fin := 24) (by decide +kernel) k280_24
theorem k280_10 : zOk 280 10 c280_10 = true := zOkN_app (n := 3) (fin := 17) (by decide +kernel) k280_17
theorem k280_44 : zOk 280 44 c280_44 = true := by decide +kernel
theorem k280_35 : zOk 280 35 c280_35 = true := zOkN_app (n := 5) (fin := 44) (by decide +kernel) k280_44
theorem k280_26 : zOk 280 26 c280_26 = true := zOkN_app (n := 5) (fin := 35) (by decide +kernel) k280_35
theorem k280_76 : zOk 280 76 c280_76 = true := by decide +kernel
theorem k280_66 : zOk 280 66 c280_66 = true := zOkN_app (n := 6) (fin := 76) (by decide +kernel) k280_76
theorem k280_57 : zOk 280 57 c280_57 = true := zOkN_app (n := 5) (fin := 66) (by decide +kernel) k280_66
theorem k280_47 : zOk 280 47 c280_47 = true := zOkN_app (n := 6) (fin := 57) (by decide +kernel) k280_57
theorem k280_95 : zOk 280 95 c280_95 = true := by decide +kernel
theorem k280_79 : zOk 280 79 c280_79 = true := zOkN_app (n := 9) (fin := 95) (by decide +kernel) k280_95
theorem k280_121 : zOk 280 121 c280_121 = true := by decide +kernel
theorem k280_115 : zOk 280 115 c280_115 = true := zOkN_app (n := 3) (fin := 121) (by decide +kernel) k280_121
theorem k280_111 : zOk 280 111 c280_111 = true := zOkN_app (n := 3) (fin := 115) (by decide +kernel) k280_115
theorem k280_104 : zOk 280 104 c280_104 = true := zOkN_app (n := 4) (fin := 111) (by decide +kernel) k280_111
theorem k280_164 : zOk 280 164 c280_164 = true := by decide +kernel
theorem ok280 : zOkM 280 = true := (allc (q := (0, c280_0)) k280_0 (allc (q := (10, c280_10)) k280_10 (allc (q := (24, c280_24)) k280_24 (allc (q := (26, c280_26)) k280_26 (allc (q := (44, c280_44)) k280_44 (allc (q := (47, c280_47)) k280_47 (allc (q := (76, c280_76)) k280_76 (allc (q := (79, c280_79)) k280_79 (allc (q := (104, c280_104)) k280_104 (allc (q := (111, c280_111)) k280_111 (allc (q := (115, c280_115)) k280_115 (allc (q := (164, c280_164)) k280_164 (alln)))))))))))) : b280.all (fun q => zOk 280 q.1 q.2) = true)
theorem k281_7 : zOk 281 7 c281_7 = true := by decide +kernel
theorem k281_0 : zOk 281 0 c281_0 = true := zOkN_app (n := 3) (fin := 7) (by decide +kernel) k281_7
theorem k281_18 : zOk 281 18 c281_18 = true := by decide +kernel
theorem k281_9 : zOk 281 9 c281_9 = true := zOkN_app (n := 5) (fin := 18) (by decide +kernel) k281_18
theorem k281_23 : zOk 281 23 c281_23 = true := by decide +kernel
theorem k281_22 : zOk 281 22 c281_22 = true := zOkN_app (n := 1) (fin := 23) (by decide +kernel) k281_23
theorem ok281 : zOkM 281 = true := (allc (q := (0, c281_0)) k281_0 (allc (q := (9, c281_9)) k281_9 (allc (q := (22, c281_22)) k281_22 (allc (q := (23, c281_23)) k281_23 (alln)))) : b281.all (fun q => zOk 281 q.1 q.2) = true)
theorem k282_32 : zOk 282 32 c282_32 = true := by decide +kernel
theorem k282_26 : zOk 282 26 c282_26 = true := zOkN_app (n := 3) (fin := 32) (by decide +kernel) k282_32
theorem k282_0 : zOk 282 0 c282_0 = true := zOkN_app (n := 14) (fin := 26) (by decide +kernel) k282_26
theorem k282_59 : zOk 282 59 c282_59 = true := by decide +kernel
theorem k282_52 : zOk 282 52 c282_52 = true := zOkN_app (n := 3) (fin := 59) (by decide +kernel) k282_59
theorem k282_50 : zOk 282 50 c282_50 = true := zOkN_app (n := 2) (fin := 52) (by decide +kernel) k282_52
theorem k282_77 : zOk 282 77 c282_77 = true := by decide +kernel
theorem ok282 : zOkM 282 = true := (allc (q := (0, c282_0)) k282_0 (allc (q := (26, c282_26)) k282_26 (allc (q := (50, c282_50)) k282_50 (allc (q := (52, c282_52)) k282_52 (allc (q := (77, c282_77)) k282_77 (alln))))) : b282.all (fun q => zOk 282 q.1 q.2) = true)
theorem k283_7 : zOk 283 7 c283_7 = true := by decide +kernel
theorem k283_0 : zOk 283 0 c283_0 = true := zOkN_app (n := 3) (fin := 7) (by decide +kernel) k283_7
theorem k283_42 : zOk 283 42 c283_42 = true := by decide +kernel
theorem k283_36 : zOk 283 36 c283_36 = true := zOkN_app (n := 3) (fin := 42) (by decide +kernel) k283_42
theorem k283_10 : zOk 283 10 c283_10 = true := zOkN_app (n := 14) (fin := 36) (by decide +kernel) k283_36
theorem k283_69 : zOk 283 69 c283_69 = true := by decide +kernel
theorem k283_62 : zOk 283 62 c283_62 = true := zOkN_app (n := 3) (fin := 69) (by decide +kernel) k283_69
theorem k283_60 : zOk 283 60 c283_60 = true := zOkN_app (n := 2) (fin := 62) (by decide +kernel) k283_62
theorem k283_87 : zOk 283 87 c283_87 = true := by decide +kernel
theorem ok283 : zOkM 283 = true := (allc (q := (0, c283_0)) k283_0 (allc (q := (10, c283_10)) k283_10 (allc (q := (36, c283_36)) k283_36 (allc (q := (60, c283_60)) k283_60 (allc (q := (62, c283_62)) k283_62 (allc (q := (87, c283_87)) k283_87 (alln)))))) : b283.all (fun q => zOk 283 q.1 q.2) = true)
theorem k284_21 : zOk 284 21 c284_21 = true := by decide +kernel
theorem k284_10 : zOk 284 10 c284_10 = true := zOkN_app (n := 7) (fin := 21) (by decide +kernel) k284_21
theorem k284_4 : zOk 284 4 c284_4 = true := zOkN_app (n := 3) (fin := 10) (by decide +kernel) k284_10
theorem k284_0 : zOk 284 0 c284_0 = true := zOkN_app (n := 4) (fin := 4) (by decide +kernel) k284_4
theorem k284_28 : zOk 284 28 c284_28 = true := by decide +kernel
theorem k284_27 : zOk 284 27 c284_27 = true := zOkN_app (n := 1) (fin := 28) (by decide +kernel) k284_28
theorem k284_36 : zOk 284 36 c284_36 = true := by decide +kernel
theorem ok284 : zOkM 284 = true := (allc (q := (0, c284_0)) k284_0 (allc (q := (4, c284_4)) k284_4 (allc (q := (27, c284_27)) k284_27 (allc (q := (28, c284_28)) k284_28 (allc (q := (36, c284_36)) k284_36 (alln))))) : b284.all (fun q => zOk 284 q.1 q.2) = true)
theorem k285_44 : zOk 285 44 c285_44 = true := by decide +kernel
theorem k285_0 : zOk 285 0 c285_0 = true := zOkN_app (n := 2) (fin := 44) (by decide +kernel) k285_44
theorem k285_49 : zOk 285 49 c285_49 = true := by decide +kernel
theorem k285_54 : zOk 285 54 c285_54 = true := by decide +kernel
theorem k285_59 : zOk 285 59 c285_59 = true := by decide +kernel
theorem k285_64 : zOk 285 64 c285_64 = true := by decide +kernel
theorem k285_70 : zOk 285 70 c285_70 = true := by decide +kernel
theorem k285_76 : zOk 285 76 c285_76 = true := by decide +kernel
theorem k285_81 : zOk 285 81 c285_81 = true := by decide +kernel
theorem ok285 : zOkM 285 = true := (allc (q := (0, c285_0)) k285_0 (allc (q := (44, c285_44)) k285_44 (allc (q := (49, c285_49)) k285_49 (allc (q := (54, c285_54)) k285_54 (allc (q := (59, c285_59)) k285_59 (allc (q := (64, c285_64)) k285_64 (allc (q := (70, c285_70)) k285_70 (allc (q := (76, c285_76)) k285_76 (allc (q := (81, c285_81)) k285_81 (alln))))))))) : b285.all (fun q => zOk 285 q.1 q.2) = true)
theorem k286_0 : zOk 286 0 c286_0 = true := by decide +kernel
theorem ok286 : zOkM 286 = true := (allc (q := (0, c286_0)) k286_0 (alln) : b286.all (fun q => zOk 286 q.1 q.2) = true)
theorem k287_14 : zOk 287 14 c287_14 = true := by decide +kernel
theorem k287_10 : zOk 287 10 c287_10 = true := zOkN_app (n := 2) (fin := 14) (by decide +kernel) k287_14
theorem k287_0 : zOk 287 0 c287_0 = true := zOkN_app (n := 8) (fin := 10) (by decide +kernel) k287_10
theorem k287_18 : zOk 287 18 c287_18 = true := by decide +kernel
theorem ok287 : zOkM 287 = true := (allc (q := (0, c287_0)) k287_0 (allc (q := (18, c287_18)) k287_18 (alln)) : b287.all (fun q => zOk 287 q.1 q.2) = true)
theorem k288_20 : zOk 288 20 c288_20 = true := by decide +kernel
theorem k288_13 : zOk 288 13 c288_13 = true := zOkN_app (n := 4) (fin := 20) (by decide +kernel) k288_20
theorem k288_0 : zOk 288 0 c288_0 = true := zOkN_app (n := 10) (fin := 13) (by decide +kernel) k288_13
theorem k288_25 : zOk 288 25 c288_25 = true := by decide +kernel
theorem ok288 : zOkM 288 = true := (allc (q := (0, c288_0)) k288_0 (allc (q := (25, c288_25)) k288_25 (alln)) : b288.all (fun q => zOk 288 q.1 q.2) = true)
theorem k289_5 : zOk 289 5 c289_5 = true := by decide +kernel
theorem k289_0 : zOk 289 0 c289_0 = true := zOkN_app (n := 3) (fin := 5) (by decide +kernel) k289_5
theorem k289_10 : zOk 289 10 c289_10 = true := by decide +kernel
theorem k289_9 : zOk 289 9 c289_9 = true := zOkN_app (n := 1) (fin := 10) (by decide +kernel) k289_10
theorem ok289 : zOkM 289 = true := (allc (q := (0, c289_0)) k289_0 (allc (q := (9, c289_9)) k289_9 (allc (q := (10, c289_10)) k289_10 (alln))) : b289.all (fun q => zOk 289 q.1 q.2) = true)
theorem k290_5 : zOk 290 5 c290_5 = true := by decide +kernel
theorem k290_0 : zOk 290 0 c290_0 = true := zOkN_app (n := 3) (fin := 5) (by decide +kernel) k290_5
theorem k290_10 : zOk 290 10 c290_10 = true := by decide +kernel
theorem k290_9 : zOk 290 9 c290_9 = true := zOkN_app (n := 1) (fin := 10) (by decide +kernel) k290_10
theorem ok290 : zOkM 290 = true := (allc (q := (0, c290_0)) k290_0 (allc (q := (9, c290_9)) k290_9 (allc (q := (10, c290_10)) k290_10 (alln))) : b290.all (fun q => zOk 290 q.1 q.2) = true)
