set_option maxRecDepth 100000
theorem k60_54 : zOk 60 54 c60_54 = true := by decide +kernel
theorem k60_41 : zOk 60 41 c60_41 = true := zOkN_app (n := 6) (fin := 54) (by decide +kernel) k60_54
theorem k60_33 : zOk 60 33 c60_33 = true := zOkN_app (n := 3) (fin := 41) (by decide +kernel) k60_41
theorem k60_25 : zOk 60 25 c60_25 = true := zOkN_app (n := 5) (fin := 33) (by decide +kernel) k60_33
theorem k60_10 : zOk 60 10 c60_10 = true := zOkN_app (n := 9) (fin := 25) (by decide +kernel) k60_25
theorem k60_2 : zOk 60 2 c60_2 = true := zOkN_app (n := 4) (fin := 10) (by decide +kernel) k60_10
theorem k60_0 : zOk 60 0 c60_0 = true := zOkN_app (n := 2) (fin := 2) (by decide +kernel) k60_2
theorem k60_56 : zOk 60 56 c60_56 = true := by decide +kernel
theorem k60_72 : zOk 60 72 c60_72 = true := by decide +kernel
theorem k60_78 : zOk 60 78 c60_78 = true := by decide +kernel
theorem ok60 : zOkM 60 = true := (allc (q := (0, c60_0)) k60_0 (allc (q := (2, c60_2)) k60_2 (allc (q := (25, c60_25)) k60_25 (allc (q := (56, c60_56)) k60_56 (allc (q := (72, c60_72)) k60_72 (allc (q := (78, c60_78)) k60_78 (alln)))))) : b60.all (fun q => zOk 60 q.1 q.2) = true)
theorem k61_60 : zOk 61 60 c61_60 = true := by decide +kernel
theorem k61_55 : zOk 61 55 c61_55 = true := zOkN_app (n := 3) (fin := 60) (by decide +kernel) k61_60
theorem k61_52 : zOk 61 52 c61_52 = true := zOkN_app (n := 1) (fin := 55) (by decide +kernel) k61_55
theorem k61_47 : zOk 61 47 c61_47 = true := zOkN_app (n := 3) (fin := 52) (by decide +kernel) k61_52
theorem k61_44 : zOk 61 44 c61_44 = true := zOkN_app (n := 1) (fin := 47) (by decide +kernel) k61_47
theorem k61_39 : zOk 61 39 c61_39 = true := zOkN_app (n := 3) (fin := 44) (by decide +kernel) k61_44
theorem k61_36 : zOk 61 36 c61_36 = true := zOkN_app (n := 1) (fin := 39) (by decide +kernel) k61_39
theorem k61_31 : zOk 61 31 c61_31 = true := zOkN_app (n := 3) (fin := 36) (by decide +kernel) k61_36
theorem k61_28 : zOk 61 28 c61_28 = true := zOkN_app (n := 1) (fin := 31) (by decide +kernel) k61_31
theorem k61_23 : zOk 61 23 c61_23 = true := zOkN_app (n := 3) (fin := 28) (by decide +kernel) k61_28
theorem k61_20 : zOk 61 20 c61_20 = true := zOkN_app (n := 1) (fin := 23) (by decide +kernel) k61_23
theorem k61_14 : zOk 61 14 c61_14 = true := zOkN_app (n := 3) (fin := 20) (by decide +kernel) k61_20
theorem k61_9 : zOk 61 9 c61_9 = true := zOkN_app (n := 3) (fin := 14) (by decide +kernel) k61_14
theorem k61_0 : zOk 61 0 c61_0 = true := zOkN_app (n := 5) (fin := 9) (by decide +kernel) k61_9
theorem ok61 : zOkM 61 = true := (allc (q := (0, c61_0)) k61_0 (alln) : b61.all (fun q => zOk 61 q.1 q.2) = true)
theorem k62_12 : zOk 62 12 c62_12 = true := by decide +kernel
theorem k62_5 : zOk 62 5 c62_5 = true := zOkN_app (n := 3) (fin := 12) (by decide +kernel) k62_12
theorem k62_0 : zOk 62 0 c62_0 = true := zOkN_app (n := 2) (fin := 5) (by decide +kernel) k62_5
theorem k62_39 : zOk 62 39 c62_39 = true := by decide +kernel
theorem k62_16 : zOk 62 16 c62_16 = true := zOkN_app (n := 19) (fin := 39) (by decide +kernel) k62_39
theorem ok62 : zOkM 62 = true := (allc (q := (0, c62_0)) k62_0 (allc (q := (12, c62_12)) k62_12 (allc (q := (16, c62_16)) k62_16 (allc (q := (39, c62_39)) k62_39 (alln)))) : b62.all (fun q => zOk 62 q.1 q.2) = true)
theorem k63_19 : zOk 63 19 c63_19 = true := by decide +kernel
theorem k63_0 : zOk 63 0 c63_0 = true := zOkN_app (n := 15) (fin := 19) (by decide +kernel) k63_19
theorem k63_24 : zOk 63 24 c63_24 = true := by decide +kernel
theorem k63_23 : zOk 63 23 c63_23 = true := zOkN_app (n := 1) (fin := 24) (by decide +kernel) k63_24
theorem ok63 : zOkM 63 = true := (allc (q := (0, c63_0)) k63_0 (allc (q := (23, c63_23)) k63_23 (allc (q := (24, c63_24)) k63_24 (alln))) : b63.all (fun q => zOk 63 q.1 q.2) = true)
theorem k64_0 : zOk 64 0 c64_0 = true := by decide +kernel
theorem ok64 : zOkM 64 = true := (allc (q := (0, c64_0)) k64_0 (alln) : b64.all (fun q => zOk 64 q.1 q.2) = true)
theorem k65_0 : zOk 65 0 c65_0 = true := by decide +kernel
theorem ok65 : zOkM 65 = true := (allc (q := (0, c65_0)) k65_0 (alln) : b65.all (fun q => zOk 65 q.1 q.2) = true)
theorem k66_0 : zOk 66 0 c66_0 = true := by decide +kernel
theorem ok66 : zOkM 66 = true := (allc (q := (0, c66_0)) k66_0 (alln) : b66.all (fun q => zOk 66 q.1 q.2) = true)
theorem k67_9 : zOk 67 9 c67_9 = true := by decide +kernel
theorem k67_4 : zOk 67 4 c67_4 = true := zOkN_app (n := 3) (fin := 9) (by decide +kernel) k67_9
theorem k67_0 : zOk 67 0 c67_0 = true := zOkN_app (n := 4) (fin := 4) (by decide +kernel) k67_4
theorem k67_28 : zOk 67 28 c67_28 = true := by decide +kernel
theorem ok67 : zOkM 67 = true := (allc (q := (0, c67_0)) k67_0 (allc (q := (4, c67_4)) k67_4 (allc (q := (28, c67_28)) k67_28 (alln))) : b67.all (fun q => zOk 67 q.1 q.2) = true)
theorem k68_30 : zOk 68 30 c68_30 = true := by decide +kernel
theorem k68_21 : zOk 68 21 c68_21 = true := zOkN_app (n := 7) (fin := 30) (by decide +kernel) k68_30
theorem k68_16 : zOk 68 16 c68_16 = true := zOkN_app (n := 3) (fin := 21) (by decide +kernel) k68_21
theorem k68_7 : zOk 68 7 c68_7 = true := zOkN_app (n := 7) (fin := 16) (by decide +kernel) k68_16
theorem k68_2 : zOk 68 2 c68_2 = true := zOkN_app (n := 3) (fin := 7) (by decide +kernel) k68_7
theorem k68_0 : zOk 68 0 c68_0 = true := zOkN_app (n := 2) (fin := 2) (by decide +kernel) k68_2
theorem k68_35 : zOk 68 35 c68_35 = true := by decide +kernel
theorem k68_34 : zOk 68 34 c68_34 = true := zOkN_app (n := 1) (fin := 35) (by decide +kernel) k68_35
theorem k68_44 : zOk 68 44 c68_44 = true := by decide +kernel
theorem k68_50 : zOk 68 50 c68_50 = true := by decide +kernel
theorem ok68 : zOkM 68 = true := (allc (q := (0, c68_0)) k68_0 (allc (q := (2, c68_2)) k68_2 (allc (q := (16, c68_16)) k68_16 (allc (q := (34, c68_34)) k68_34 (allc (q := (35, c68_35)) k68_35 (allc (q := (44, c68_44)) k68_44 (allc (q := (50, c68_50)) k68_50 (alln))))))) : b68.all (fun q => zOk 68 q.1 q.2) = true)
theorem k69_9 : zOk 69 9 c69_9 = true := by decide +kernel
theorem k69_4 : zOk 69 4 c69_4 = true := zOkN_app (n := 3) (fin := 9) (by decide +kernel) k69_9
theorem k69_0 : zOk 69 0 c69_0 = true := zOkN_app (n := 4) (fin := 4) (by decide +kernel) k69_4
theorem k69_26 : zOk 69 26 c69_26 = true := by decide +kernel
theorem ok69 : zOkM 69 = true := (allc (q := (0, c69_0)) k69_0 (allc (q := (4, c69_4)) k69_4 (allc (q := (26, c69_26)) k69_26 (alln))) : b69.all (fun q => zOk 69 q.1 q.2) = true)
theorem k70_28 : zOk 70 28 c70_28 = true := by decide +kernel
theorem k70_16 : zOk 70 16 c70_16 = true := zOkN_app (n := 7) (fin := 28) (by decide +kernel) k70_28
theorem k70_10 : zOk 70 10 c70_10 = true := zOkN_app (n := 3) (fin := 16) (by decide +kernel) k70_16
theorem k70_7 : zOk 70 7 c70_7 = true := zOkN_app (n := 2) (fin := 10) (by decide +kernel) k70_10
theorem k70_3 : zOk 70 3 c70_3 = true := zOkN_app (n := 2) (fin := 7) (by decide +kernel) k70_7
theorem k70_0 : zOk 70 0 c70_0 = true := zOkN_app (n := 2) (fin := 3) (by decide +kernel) k70_3
theorem k70_30 : zOk 70 30 c70_30 = true := by decide +kernel
theorem k70_36 : zOk 70 36 c70_36 = true := by decide +kernel
theorem k70_42 : zOk 70 42 c70_42 = true := by decide +kernel
theorem ok70 : zOkM 70 = true := (allc (q := (0, c70_0)) k70_0 (allc (q := (3, c70_3)) k70_3 (allc (q := (10, c70_10)) k70_10 (allc (q := (30, c70_30)) k70_30 (allc (q := (36, c70_36)) k70_36 (allc (q := (42, c70_42)) k70_42 (alln)))))) : b70.all (fun q => zOk 70 q.1 q.2) = true)
theorem k71_31 : zOk 71 31 c71_31 = true := by decide +kernel
theorem k71_24 : zOk 71 24 c71_24 = true := zOkN_app (n := 3) (fin := 31) (by decide +kernel) k71_31
theorem k71_21 : zOk 71 21 c71_21 = true := zOkN_app (n := 2) (fin := 24) (by decide +kernel) k71_24
theorem k71_15 : zOk 71 15 c71_15 = true := zOkN_app (n := 3) (fin := 21) (by decide +kernel) k71_21
theorem k71_0 : zOk 71 0 c71_0 = true := zOkN_app (n := 9) (fin := 15) (by decide +kernel) k71_15
theorem k71_59 : zOk 71 59 c71_59 = true := by decide +kernel
theorem k71_65 : zOk 71 65 c71_65 = true := by decide +kernel
theorem ok71 : zOkM 71 = true := (allc (q := (0, c71_0)) k71_0 (allc (q := (15, c71_15)) k71_15 (allc (q := (24, c71_24)) k71_24 (allc (q := (59, c71_59)) k71_59 (allc (q := (65, c71_65)) k71_65 (alln))))) : b71.all (fun q => zOk 71 q.1 q.2) = true)
theorem k72_23 : zOk 72 23 c72_23 = true := by decide +kernel
theorem k72_14 : zOk 72 14 c72_14 = true := zOkN_app (n := 5) (fin := 23) (by decide +kernel) k72_23
theorem k72_9 : zOk 72 9 c72_9 = true := zOkN_app (n := 3) (fin := 14) (by decide +kernel) k72_14
theorem k72_0 : zOk 72 0 c72_0 = true := zOkN_app (n := 5) (fin := 9) (by decide +kernel) k72_9
theorem ok72 : zOkM 72 = true := (allc (q := (0, c72_0)) k72_0 (alln) : b72.all (fun q => zOk 72 q.1 q.2) = true)
theorem k73_0 : zOk 73 0 c73_0 = true := by decide +kernel
theorem ok73 : zOkM 73 = true := (allc (q := (0, c73_0)) k73_0 (alln) : b73.all (fun q => zOk 73 q.1 q.2) = true)
theorem k74_7 : zOk 74 7 c74_7 = true := by decide +kernel
theorem k74_2 : zOk 74 2 c74_2 = true := zOkN_app (n := 3) (fin := 7) (by decide +kernel) k74_7
theorem k74_0 : zOk 74 0 c74_0 = true := zOkN_app (n := 2) (fin := 2) (by decide +kernel) k74_2
theorem k74_28 : zOk 74 28 c74_28 = true := by decide +kernel
theorem ok74 : zOkM 74 = true := (allc (q := (0, c74_0)) k74_0 (allc (q := (2, c74_2)) k74_2 (allc (q := (28, c74_28)) k74_28 (alln))) : b74.all (fun q => zOk 74 q.1 q.2) = true)
theorem k75_22 : zOk 75 22 c75_22 = true := by decide +kernel
theorem k75_11 : zOk 75 11 c75_11 = true := zOkN_app (n := 5) (fin := 22) (by decide +kernel) k75_22
theorem k75_0 : zOk 75 0 c75_0 = true := zOkN_app (n := 5) (fin := 11) (by decide +kernel) k75_11
theorem k75_52 : zOk 75 52 c75_52 = true := by decide +kernel
theorem k75_31 : zOk 75 31 c75_31 = true := zOkN_app (n := 11) (fin := 52) (by decide +kernel) k75_52
theorem k75_26 : zOk 75 26 c75_26 = true := zOkN_app (n := 3) (fin := 31) (by decide +kernel) k75_31
theorem k75_24 : zOk 75 24 c75_24 = true := zOkN_app (n := 2) (fin := 26) (by decide +kernel) k75_26
theorem k75_94 : zOk 75 94 c75_94 = true := by decide +kernel
theorem k75_69 : zOk 75 69 c75_69 = true := zOkN_app (n := 15) (fin := 94) (by decide +kernel) k75_94
theorem k75_56 : zOk 75 56 c75_56 = true := zOkN_app (n := 7) (fin := 69) (by decide +kernel) k75_69
theorem k75_54 : zOk 75 54 c75_54 = true := zOkN_app (n := 2) (fin := 56) (by decide +kernel) k75_56
theorem k75_96 : zOk 75 96 c75_96 = true := by decide +kernel
theorem k75_102 : zOk 75 102 c75_102 = true := by decide +kernel
theorem k75_108 : zOk 75 108 c75_108 = true := by decide +kernel
theorem ok75 : zOkM 75 = true := (allc (q := (0, c75_0)) k75_0 (allc (q := (22, c75_22)) k75_22 (allc (q := (24, c75_24)) k75_24 (allc (q := (26, c75_26)) k75_26 (allc (q := (54, c75_54)) k75_54 (allc (q := (56, c75_56)) k75_56 (allc (q := (96, c75_96)) k75_96 (allc (q := (102, c75_102)) k75_102 (allc (q := (108, c75_108)) k75_108 (alln))))))))) : b75.all (fun q => zOk 75 q.1 q.2) = true)
theorem k76_22 : zOk 76 22 c76_22 = true := by decide +kernel
theorem k76_17 : zOk 76 17 c76_17 = true := zOkN_app (n := 3) (fin := 22) (by decide +kernel) k76_22
theorem k76_15 : zOk 76 15 c76_15 = true := zOkN_app (n := 2) (fin := 17) (by decide +kernel) k76_17
theorem k76_7 : zOk 76 7 c76_7 = true := zOkN_app (n := 4) (fin := 15) (by decide +kernel) k76_15
theorem k76_0 : zOk 76 0 c76_0 = true := zOkN_app (n := 3) (fin := 7) (by decide +kernel) k76_7
theorem k76_42 : zOk 76 42 c76_42 = true := by decide +kernel
theorem k76_67 : zOk 76 67 c76_67 = true := by decide +kernel
theorem k76_62 : zOk 76 62 c76_62 = true := zOkN_app (n := 3) (fin := 67) (by decide +kernel) k76_67
theorem k76_55 : zOk 76 55 c76_55 = true := zOkN_app (n := 3) (fin := 62) (by decide +kernel) k76_62
theorem ok76 : zOkM 76 = true := (allc (q := (0, c76_0)) k76_0 (allc (q := (17, c76_17)) k76_17 (allc (q := (42, c76_42)) k76_42 (allc (q := (55, c76_55)) k76_55 (allc (q := (67, c76_67)) k76_67 (alln))))) : b76.all (fun q => zOk 76 q.1 q.2) = true)
theorem k77_24 : zOk 77 24 c77_24 = true := by decide +kernel
theorem k77_7 : zOk 77 7 c77_7 = true := zOkN_app (n := 9) (fin := 24) (by decide +kernel) k77_24
theorem k77_2 : zOk 77 2 c77_2 = true := zOkN_app (n := 3) (fin := 7) (by decide +kernel) k77_7
theorem k77_0 : zOk 77 0 c77_0 = true := zOkN_app (n := 2) (fin := 2) (by decide +kernel) k77_2
theorem k77_26 : zOk 77 26 c77_26 = true := by decide +kernel
theorem k77_32 : zOk 77 32 c77_32 = true := by decide +kernel
theorem ok77 : zOkM 77 = true := (allc (q := (0, c77_0)) k77_0 (allc (q := (2, c77_2)) k77_2 (allc (q := (26, c77_26)) k77_26 (allc (q := (32, c77_32)) k77_32 (alln)))) : b77.all (fun q => zOk 77 q.1 q.2) = true)
theorem k78_21 : zOk 78 21 c78_21 = true := by decide +kernel
theorem k78_15 : zOk 78 15 c78_15 = true := zOkN_app (n := 3) (fin := 21) (by decide +kernel) k78_21
theorem k78_12 : zOk 78 12 c78_12 = true := zOkN_app (n := 2) (fin := 15) (by decide +kernel) k78_15
theorem k78_6 : zOk 78 6 c78_6 = true := zOkN_app (n := 3) (fin := 12) (by decide +kernel) k78_12
theorem k78_0 : zOk 78 0 c78_0 = true := zOkN_app (n := 3) (fin := 6) (by decide +kernel) k78_6
theorem k78_39 : zOk 78 39 c78_39 = true := by decide +kernel
theorem k78_45 : zOk 78 45 c78_45 = true := by decide +kernel
theorem ok78 : zOkM 78 = true := (allc (q := (0, c78_0)) k78_0 (allc (q := (6, c78_6)) k78_6 (allc (q := (15, c78_15)) k78_15 (allc (q := (39, c78_39)) k78_39 (allc (q := (45, c78_45)) k78_45 (alln))))) : b78.all (fun q => zOk 78 q.1 q.2) = true)
theorem k79_7 : zOk 79 7 c79_7 = true := by decide +kernel
theorem k79_2 : zOk 79 2 c79_2 = true := zOkN_app (n := 3) (fin := 7) (by decide +kernel) k79_7
theorem k79_0 : zOk 79 0 c79_0 = true := zOkN_app (n := 2) (fin := 2) (by decide +kernel) k79_2
theorem k79_27 : zOk 79 27 c79_27 = true := by decide +kernel
theorem ok79 : zOkM 79 = true := (allc (q := (0, c79_0)) k79_0 (allc (q := (2, c79_2)) k79_2 (allc (q := (27, c79_27)) k79_27 (alln))) : b79.all (fun q => zOk 79 q.1 q.2) = true)
theorem k80_21 : zOk 80 21 c80_21 = true := by decide +kernel
theorem k80_7 : zOk 80 7 c80_7 = true := zOkN_app (n := 7) (fin := 21) (by decide +kernel) k80_21
theorem k80_2 : zOk 80 2 c80_2 = true := zOkN_app (n := 3) (fin := 7) (by decide +kernel) k80_7
theorem k80_0 : zOk 80 0 c80_0 = true := zOkN_app (n := 2) (fin := 2) (by decide +kernel) k80_2
theorem k80_23 : zOk 80 23 c80_23 = true := by decide +kernel
theorem k80_38 : zOk 80 38 c80_38 = true := by decide +kernel
theorem k80_29 : zOk 80 29 c80_29 = true := zOkN_app (n := 4) (fin := 38) (by decide +kernel) k80_38
theorem k80_43 : zOk 80 43 c80_43 = true := by decide +kernel
theorem k80_42 : zOk 80 42 c80_42 = true := zOkN_app (n := 1) (fin := 43) (by decide +kernel) k80_43
theorem ok80 : zOkM 80 = true := (allc (q := (0, c80_0)) k80_0 (allc (q := (2, c80_2)) k80_2 (allc (q := (23, c80_23)) k80_23 (allc (q := (29, c80_29)) k80_29 (allc (q := (42, c80_42)) k80_42 (allc (q := (43, c80_43)) k80_43 (alln)))))) : b80.all (fun q => zOk 80 q.1 q.2) = true)
theorem k81_75 : zOk 81 75 c81_75 = true := by decide +kernel
theorem k81_70 : zOk 81 70 c81_70 = true := zOkN_app (n := 3) (fin := 75) (by decide +kernel) k81_75
theorem k81_65 : zOk 81 65 c81_65 = true := zOkN_app (n := 3) (fin := 70) (by decide +kernel) k81_70
theorem k81_60 : zOk 81 60 c81_60 = true := zOkN_app (n := 3) (fin := 65) (by decide +kernel) k81_65
theorem k81_55 : zOk 81 55 c81_55 = true := zOkN_app (n := 3) (fin := 60) (by decide +kernel) k81_60
theorem k81_50 : zOk 81 50 c81_50 = true := zOkN_app (n := 3) (fin := 55) (by decide +kernel) k81_55
theorem k81_45 : zOk 81 45 c81_45 = true := zOkN_app (n := 3) (fin := 50) (by decide +kernel) k81_50
theorem k81_42 : zOk 81 42 c81_42 = true := zOkN_app (n := 1) (fin := 45) (by decide +kernel) k81_45
theorem k81_37 : zOk 81 37 c81_37 = true := zOkN_app (n := 3) (fin := 42) (by decide +kernel) k81_42
theorem k81_34 : zOk 81 34 c81_34 = true := zOkN_app (n := 1) (fin := 37) (by decide +kernel) k81_37
theorem k81_29 : zOk 81 29 c81_29 = true := zOkN_app (n := 3) (fin := 34) (by decide +kernel) k81_34
theorem k81_26 : zOk 81 26 c81_26 = true := zOkN_app (n := 1) (fin := 29) (by decide +kernel) k81_29
theorem k81_17 : zOk 81 17 c81_17 = true := zOkN_app (n := 4) (fin := 26) (by decide +kernel) k81_26
theorem k81_12 : zOk 81 12 c81_12 = true := zOkN_app (n := 3) (fin := 17) (by decide +kernel) k81_17
theorem k81_9 : zOk 81 9 c81_9 = true := zOkN_app (n := 1) (fin := 12) (by decide +kernel) k81_12
theorem k81_0 : zOk 81 0 c81_0 = true := zOkN_app (n := 5) (fin := 9) (by decide +kernel) k81_9
theorem ok81 : zOkM 81 = true := (allc (q := (0, c81_0)) k81_0 (alln) : b81.all (fun q => zOk 81 q.1 q.2) = true)
theorem k82_11 : zOk 82 11 c82_11 = true := by decide +kernel
theorem k82_0 : zOk 82 0 c82_0 = true := zOkN_app (n := 6) (fin := 11) (by decide +kernel) k82_11
theorem k82_20 : zOk 82 20 c82_20 = true := by decide +kernel
theorem k82_15 : zOk 82 15 c82_15 = true := zOkN_app (n := 3) (fin := 20) (by decide +kernel) k82_20
theorem k82_13 : zOk 82 13 c82_13 = true := zOkN_app (n := 2) (fin := 15) (by decide +kernel) k82_15
theorem k82_47 : zOk 82 47 c82_47 = true := by decide +kernel
theorem ok82 : zOkM 82 = true := (allc (q := (0, c82_0)) k82_0 (allc (q := (13, c82_13)) k82_13 (allc (q := (15, c82_15)) k82_15 (allc (q := (47, c82_47)) k82_47 (alln)))) : b82.all (fun q => zOk 82 q.1 q.2) = true)
theorem k83_0 : zOk 83 0 c83_0 = true := by decide +kernel
theorem ok83 : zOkM 83 = true := (allc (q := (0, c83_0)) k83_0 (alln) : b83.all (fun q => zOk 83 q.1 q.2) = true)
theorem k84_34 : zOk 84 34 c84_34 = true := by decide +kernel
theorem k84_27 : zOk 84 27 c84_27 = true := zOkN_app (n := 3) (fin := 34) (by decide +kernel) k84_34
theorem k84_0 : zOk 84 0 c84_0 = true := zOkN_app (n := 15) (fin := 27) (by decide +kernel) k84_27
theorem k84_49 : zOk 84 49 c84_49 = true := by decide +kernel
theorem k84_39 : zOk 84 39 c84_39 = true := zOkN_app (n := 6) (fin := 49) (by decide +kernel) k84_49
theorem k84_38 : zOk 84 38 c84_38 = true := zOkN_app (n := 1) (fin := 39) (by decide +kernel) k84_39
theorem k84_64 : zOk 84 64 c84_64 = true := by decide +kernel
theorem k84_57 : zOk 84 57 c84_57 = true := zOkN_app (n := 3) (fin := 64) (by decide +kernel) k84_64
theorem k84_76 : zOk 84 76 c84_76 = true := by decide +kernel
theorem k84_75 : zOk 84 75 c84_75 = true := zOkN_app (n := 1) (fin := 76) (by decide +kernel) k84_76
theorem ok84 : zOkM 84 = true := (allc (q := (0, c84_0)) k84_0 (allc (q := (38, c84_38)) k84_38 (allc (q := (39, c84_39)) k84_39 (allc (q := (57, c84_57)) k84_57 (allc (q := (75, c84_75)) k84_75 (allc (q := (76, c84_76)) k84_76 (alln)))))) : b84.all (fun q => zOk 84 q.1 q.2) = true)
theorem k85_25 : zOk 85 25 c85_25 = true := by decide +kernel
theorem k85_11 : zOk 85 11 c85_11 = true := zOkN_app (n := 7) (fin := 25) (by decide +kernel) k85_25
theorem k85_0 : zOk 85 0 c85_0 = true := zOkN_app (n := 5) (fin := 11) (by decide +kernel) k85_11
theorem k85_91 : zOk 85 91 c85_91 = true := by decide +kernel
theorem k85_77 : zOk 85 77 c85_77 = true := zOkN_app (n := 8) (fin := 91) (by decide +kernel) k85_91
theorem k85_62 : zOk 85 62 c85_62 = true := zOkN_app (n := 7) (fin := 77) (by decide +kernel) k85_77
theorem k85_51 : zOk 85 51 c85_51 = true := zOkN_app (n := 5) (fin := 62) (by decide +kernel) k85_62
theorem k85_38 : zOk 85 38 c85_38 = true := zOkN_app (n := 7) (fin := 51) (by decide +kernel) k85_51
theorem k85_118 : zOk 85 118 c85_118 = true := by decide +kernel
theorem k85_114 : zOk 85 114 c85_114 = true := zOkN_app (n := 2) (fin := 118) (by decide +kernel) k85_118
theorem k85_159 : zOk 85 159 c85_159 = true := by decide +kernel
theorem k85_145 : zOk 85 145 c85_145 = true := zOkN_app (n := 8) (fin := 159) (by decide +kernel) k85_159
theorem k85_134 : zOk 85 134 c85_134 = true := zOkN_app (n := 5) (fin := 145) (by decide +kernel) k85_145
theorem k85_164 : zOk 85 164 c85_164 = true := by decide +kernel
theorem k85_163 : zOk 85 163 c85_163 = true := zOkN_app (n := 1) (fin := 164) (by decide +kernel) k85_164
theorem k85_181 : zOk 85 181 c85_181 = true := by decide +kernel
theorem k85_170 : zOk 85 170 c85_170 = true := zOkN_app (n := 5) (fin := 181) (by decide +kernel) k85_181
theorem k85_205 : zOk 85 205 c85_205 = true := by decide +kernel
theorem k85_189 : zOk 85 189 c85_189 = true := zOkN_app (n := 8) (fin := 205) (by decide +kernel) k85_205
theorem k85_231 : zOk 85 231 c85_231 = true := by decide +kernel
theorem k85_218 : zOk 85 218 c85_218 = true := zOkN_app (n := 7) (fin := 231) (by decide +kernel) k85_231
theorem k85_217 : zOk 85 217 c85_217 = true := zOkN_app (n := 1) (fin := 218) (by decide +kernel) k85_218
theorem ok85 : zOkM 85 = true := (allc (q := (0, c85_0)) k85_0 (allc (q := (38, c85_38)) k85_38 (allc (q := (51, c85_51)) k85_51 (allc (q := (114, c85_114)) k85_114 (allc (q := (118, c85_118)) k85_118 (allc (q := (134, c85_134)) k85_134 (allc (q := (163, c85_163)) k85_163 (allc (q := (164, c85_164)) k85_164 (allc (q := (170, c85_170)) k85_170 (allc (q := (189, c85_189)) k85_189 (allc (q := (217, c85_217)) k85_217 (allc (q := (218, c85_218)) k85_218 (allc (q := (231, c85_231)) k85_231 (alln))))))))))))) : b85.all (fun q => zOk 85 q.1 q.2) = true)
theorem k86_12 : zOk 86 12 c86_12 = true := by decide +kernel
theorem k86_6 : zOk 86 6 c86_6 = true := zOkN_app (n := 3) (fin := 12) (by decide +kernel) k86_12
theorem k86_0 : zOk 86 0 c86_0 = true := zOkN_app (n := 3) (fin := 6) (by decide +kernel) k86_6
theorem k86_17 : zOk 86 17 c86_17 = true := by decide +kernel
theorem k86_16 : zOk 86 16 c86_16 = true := zOkN_app (n := 1) (fin := 17) (by decide +kernel) k86_17
theorem ok86 : zOkM 86 = true := (allc (q := (0, c86_0)) k86_0 (allc (q := (16, c86_16)) k86_16 (allc (q := (17, c86_17)) k86_17 (alln))) : b86.all (fun q => zOk 86 q.1 q.2) = true)
theorem k87_48 : zOk 87 48 c87_48 = true := by decide +kernel
theorem k87_42 : zOk 87 42 c87_42 = true := zOkN_app (n := 3) (fin := 48) (by decide +kernel) k87_48
theorem k87_36 : zOk 87 36 c87_36 = true := zOkN_app (n := 3) (fin := 42) (by decide +kernel) k87_42
theorem k87_30 : zOk 87 30 c87_30 = true := zOkN_app (n := 3) (fin := 36) (by decide +kernel) k87_36
theorem k87_24 : zOk 87 24 c87_24 = true := zOkN_app (n := 3) (fin := 30) (by decide +kernel) k87_30
theorem k87_18 : zOk 87 18 c87_18 = true := zOkN_app (n := 3) (fin := 24) (by decide +kernel) k87_24
theorem k87_12 : zOk 87 12 c87_12 = true := zOkN_app (n := 3) (fin := 18) (by decide +kernel) k87_18
theorem k87_6 : zOk 87 6 c87_6 = true := zOkN_app (n := 3) (fin := 12) (by decide +kernel) k87_12
theorem k87_0 : zOk 87 0 c87_0 = true := zOkN_app (n := 3) (fin := 6) (by decide +kernel) k87_6
theorem k87_53 : zOk 87 53 c87_53 = true := by decide +kernel
theorem k87_52 : zOk 87 52 c87_52 = true := zOkN_app (n := 1) (fin := 53) (by decide +kernel) k87_53
theorem ok87 : zOkM 87 = true := (allc (q := (0, c87_0)) k87_0 (allc (q := (48, c87_48)) k87_48 (allc (q := (52, c87_52)) k87_52 (allc (q := (53, c87_53)) k87_53 (alln)))) : b87.all (fun q => zOk 87 q.1 q.2) = true)
theorem k88_62 : zOk 88 62 c88_62 = true := by decide +kernel
theorem k88_54 : zOk 88 54 c88_54 = true := zOkN_app (n := 4) (fin := 62) (by decide +kernel) k88_62
theorem k88_47 : zOk 88 47 c88_47 = true := zOkN_app (n := 3) (fin := 54) (by decide +kernel) k88_54
theorem k88_42 : zOk 88 42 c88_42 = true := zOkN_app (n := 2) (fin := 47) (by decide +kernel) k88_47
theorem k88_22 : zOk 88 22 c88_22 = true := zOkN_app (n := 14) (fin := 42) (by decide +kernel) k88_42
theorem k88_11 : zOk 88 11 c88_11 = true := zOkN_app (n := 7) (fin := 22) (by decide +kernel) k88_22
theorem k88_0 : zOk 88 0 c88_0 = true := zOkN_app (n := 6) (fin := 11) (by decide +kernel) k88_11
theorem k88_86 : zOk 88 86 c88_86 = true := by decide +kernel
theorem k88_79 : zOk 88 79 c88_79 = true := zOkN_app (n := 3) (fin := 86) (by decide +kernel) k88_86
theorem k88_64 : zOk 88 64 c88_64 = true := zOkN_app (n := 11) (fin := 79) (by decide +kernel) k88_79
theorem k88_131 : zOk 88 131 c88_131 = true := by decide +kernel
theorem k88_122 : zOk 88 122 c88_122 = true := zOkN_app (n := 4) (fin := 131) (by decide +kernel) k88_131
theorem k88_113 : zOk 88 113 c88_113 = true := zOkN_app (n := 4) (fin := 122) (by decide +kernel) k88_122
theorem k88_152 : zOk 88 152 c88_152 = true := by decide +kernel
theorem k88_143 : zOk 88 143 c88_143 = true := zOkN_app (n := 4) (fin := 152) (by decide +kernel) k88_152
theorem k88_136 : zOk 88 136 c88_136 = true := zOkN_app (n := 3) (fin := 143) (by decide +kernel) k88_143
theorem k88_135 : zOk 88 135 c88_135 = true := zOkN_app (n := 1) (fin := 136) (by decide +kernel) k88_136
theorem k88_167 : zOk 88 167 c88_167 = true := by decide +kernel
theorem k88_162 : zOk 88 162 c88_162 = true := zOkN_app (n := 3) (fin := 167) (by decide +kernel) k88_167
theorem k88_156 : zOk 88 156 c88_156 = true := zOkN_app (n := 4) (fin := 162) (by decide +kernel) k88_162
theorem k88_173 : zOk 88 173 c88_173 = true := by decide +kernel
theorem ok88 : zOkM 88 = true := (allc (q := (0, c88_0)) k88_0 (allc (q := (22, c88_22)) k88_22 (allc (q := (42, c88_42)) k88_42 (allc (q := (64, c88_64)) k88_64 (allc (q := (79, c88_79)) k88_79 (allc (q := (113, c88_113)) k88_113 (allc (q := (131, c88_131)) k88_131 (allc (q := (135, c88_135)) k88_135 (allc (q := (136, c88_136)) k88_136 (allc (q := (156, c88_156)) k88_156 (allc (q := (162, c88_162)) k88_162 (allc (q := (167, c88_167)) k88_167 (allc (q := (173, c88_173)) k88_173 (alln))))))))))))) : b88.all (fun q => zOk 88 q.1 q.2) = true)
theorem k89_8 : zOk 89 8 c89_8 = true := by decide +kernel
theorem k89_0 : zOk 89 0 c89_0 = true := zOkN_app (n := 4) (fin := 8) (by decide +kernel) k89_8
theorem k89_78 : zOk 89 78 c89_78 = true := by decide +kernel
theorem k89_60 : zOk 89 60 c89_60 = true := zOkN_app (n := 9) (fin := 78) (by decide +kernel) k89_78
theorem k89_53 : zOk 89 53 c89_53 = true := zOkN_app (n := 3) (fin := 60) (by decide +kernel) k89_60
theorem k89_44 : zOk 89 44 c89_44 = true := zOkN_app (n := 4) (fin := 53) (by decide +kernel) k89_53
theorem k89_10 : zOk 89 10 c89_10 = true := zOkN_app (n := 26) (fin := 44) (by decide +kernel) k89_44
theorem k89_80 : zOk 89 80 c89_80 = true := by decide +kernel
theorem k89_94 : zOk 89 94 c89_94 = true := by decide +kernel
theorem ok89 : zOkM 89 = true := (allc (q := (0, c89_0)) k89_0 (allc (q := (10, c89_10)) k89_10 (allc (q := (44, c89_44)) k89_44 (allc (q := (80, c89_80)) k89_80 (allc (q := (94, c89_94)) k89_94 (alln))))) : b89.all (fun q => zOk 89 q.1 q.2) = true)
theorem k90_8 : zOk 90 8 c90_8 = true := by decide +kernel
theorem k90_0 : zOk 90 0 c90_0 = true := zOkN_app (n := 4) (fin := 8) (by decide +kernel) k90_8
theorem k90_19 : zOk 90 19 c90_19 = true := by decide +kernel
theorem k90_10 : zOk 90 10 c90_10 = true := zOkN_app (n := 4) (fin := 19) (by decide +kernel) k90_19
theorem k90_47 : zOk 90 47 c90_47 = true := by decide +kernel
theorem k90_38 : zOk 90 38 c90_38 = true := zOkN_app (n := 4) (fin := 47) (by decide +kernel) k90_47
theorem k90_21 : zOk 90 21 c90_21 = true := zOkN_app (n := 9) (fin := 38) (by decide +kernel) k90_38
theorem k90_89 : zOk 90 89 c90_89 = true := by decide +kernel
theorem k90_80 : zOk 90 80 c90_80 = true := zOkN_app (n := 4) (fin := 89) (by decide +kernel) k90_89
theorem k90_49 : zOk 90 49 c90_49 = true := zOkN_app (n := 21) (fin := 80) (by decide +kernel) k90_80
theorem k90_105 : zOk 90 105 c90_105 = true := by decide +kernel
theorem ok90 : zOkM 90 = true := (allc (q := (0, c90_0)) k90_0 (allc (q := (10, c90_10)) k90_10 (allc (q := (21, c90_21)) k90_21 (allc (q := (47, c90_47)) k90_47 (allc (q := (49, c90_49)) k90_49 (allc (q := (80, c90_80)) k90_80 (allc (q := (105, c90_105)) k90_105 (alln))))))) : b90.all (fun q => zOk 90 q.1 q.2) = true)
theorem k91_25 : zOk 91 25 c91_25 = true := by decide +kernel
theorem k91_20 : zOk 91 20 c91_20 = true := zOkN_app (n := 3) (fin := 25) (by decide +kernel) k91_25
theorem k91_0 : zOk 91 0 c91_0 = true := zOkN_app (n := 13) (fin := 20) (by decide +kernel) k91_20
theorem k91_50 : zOk 91 50 c91_50 = true := by decide +kernel
theorem k91_41 : zOk 91 41 c91_41 = true := zOkN_app (n := 4) (fin := 50) (by decide +kernel) k91_50
theorem k91_27 : zOk 91 27 c91_27 = true := zOkN_app (n := 8) (fin := 41) (by decide +kernel) k91_41
theorem k91_52 : zOk 91 52 c91_52 = true := by decide +kernel
theorem k91_106 : zOk 91 106 c91_106 = true := by decide +kernel
theorem k91_91 : zOk 91 91 c91_91 = true := zOkN_app (n := 8) (fin := 106) (by decide +kernel) k91_106
theorem k91_82 : zOk 91 82 c91_82 = true := zOkN_app (n := 4) (fin := 91) (by decide +kernel) k91_91
theorem k91_73 : zOk 91 73 c91_73 = true := zOkN_app (n := 4) (fin := 82) (by decide +kernel) k91_82
theorem k91_112 : zOk 91 112 c91_112 = true := by decide +kernel
theorem k91_110 : zOk 91 110 c91_110 = true := zOkN_app (n := 1) (fin := 112) (by decide +kernel) k91_112
theorem k91_125 : zOk 91 125 c91_125 = true := by decide +kernel
theorem k91_117 : zOk 91 117 c91_117 = true := zOkN_app (n := 4) (fin := 125) (by decide +kernel) k91_125
theorem k91_141 : zOk 91 141 c91_141 = true := by decide +kernel
theorem k91_143 : zOk 91 143 c91_143 = true := by decide +kernel
theorem ok91 : zOkM 91 = true := (allc (q := (0, c91_0)) k91_0 (allc (q := (27, c91_27)) k91_27 (allc (q := (50, c91_50)) k91_50 (allc (q := (52, c91_52)) k91_52 (allc (q := (73, c91_73)) k91_73 (allc (q := (91, c91_91)) k91_91 (allc (q := (110, c91_110)) k91_110 (allc (q := (112, c91_112)) k91_112 (allc (q := (117, c91_117)) k91_117 (allc (q := (141, c91_141)) k91_141 (allc (q := (143, c91_143)) k91_143 (alln))))))))))) : b91.all (fun q => zOk 91 q.1 q.2) = true)
theorem k92_8 : zOk 92 8 c92_8 = true := by decide +kernel
theorem k92_2 : zOk 92 2 c92_2 = true := zOkN_app (n := 3) (fin := 8) (by decide +kernel) k92_8
theorem k92_0 : zOk 92 0 c92_0 = true := zOkN_app (n := 2) (fin := 2) (by decide +kernel) k92_2
theorem k92_18 : zOk 92 18 c92_18 = true := by decide +kernel
theorem ok92 : zOkM 92 = true := (allc (q := (0, c92_0)) k92_0 (allc (q := (2, c92_2)) k92_2 (allc (q := (18, c92_18)) k92_18 (alln))) : b92.all (fun q => zOk 92 q.1 q.2) = true)
theorem k93_7 : zOk 93 7 c93_7 = true := by decide +kernel
theorem k93_0 : zOk 93 0 c93_0 = true := zOkN_app (n := 3) (fin := 7) (by decide +kernel) k93_7
theorem k93_50 : zOk 93 50 c93_50 = true := by decide +kernel
theorem k93_43 : zOk 93 43 c93_43 = true := zOkN_app (n := 4) (fin := 50) (by decide +kernel) k93_50
theorem k93_36 : zOk 93 36 c93_36 = true := zOkN_app (n := 3) (fin := 43) (by decide +kernel) k93_43
theorem k93_29 : zOk 93 29 c93_29 = true := zOkN_app (n := 4) (fin := 36) (by decide +kernel) k93_36
theorem k93_26 : zOk 93 26 c93_26 = true := zOkN_app (n := 2) (fin := 29) (by decide +kernel) k93_29
theorem k93_19 : zOk 93 19 c93_19 = true := zOkN_app (n := 3) (fin := 26) (by decide +kernel) k93_26
theorem k93_8 : zOk 93 8 c93_8 = true := zOkN_app (n := 6) (fin := 19) (by decide +kernel) k93_19
theorem k93_89 : zOk 93 89 c93_89 = true := by decide +kernel
theorem k93_53 : zOk 93 53 c93_53 = true := zOkN_app (n := 21) (fin := 89) (by decide +kernel) k93_89
theorem k93_136 : zOk 93 136 c93_136 = true := by decide +kernel
theorem k93_95 : zOk 93 95 c93_95 = true := zOkN_app (n := 27) (fin := 136) (by decide +kernel) k93_136
theorem k93_142 : zOk 93 142 c93_142 = true := by decide +kernel
theorem k93_148 : zOk 93 148 c93_148 = true := by decide +kernel
theorem ok93 : zOkM 93 = true := (allc (q := (0, c93_0)) k93_0 (allc (q := (8, c93_8)) k93_8 (allc (q := (19, c93_19)) k93_19 (allc (q := (29, c93_29)) k93_29 (allc (q := (53, c93_53)) k93_53 (allc (q := (95, c93_95)) k93_95 (allc (q := (136, c93_136)) k93_136 (allc (q := (142, c93_142)) k93_142 (allc (q := (148, c93_148)) k93_148 (alln))))))))) : b93.all (fun q => zOk 93 q.1 q.2) = true)
theorem k94_40 : zOk 94 40 c94_40 = true := by decide +kernel
theorem k94_37 : zOk 94 37 c94_37 = true := zOkN_app (n := 1) (fin := 40) (by decide +kernel) k94_40
theorem k94_32 : zOk 94 32 c94_32 = true := zOkN_app (n := 3) (fin := 37) (by decide +kernel) k94_37
theorem k94_27 : zOk 94 27 c94_27 = true := zOkN_app (n := 3) (fin := 32) (by decide +kernel) k94_32
theorem k94_22 : zOk 94 22 c94_22 = true := zOkN_app (n := 3) (fin := 27) (by decide +kernel) k94_27
theorem k94_13 : zOk 94 13 c94_13 = true := zOkN_app (n := 4) (fin := 22) (by decide +kernel) k94_22
theorem k94_9 : zOk 94 9 c94_9 = true := zOkN_app (n := 2) (fin := 13) (by decide +kernel) k94_13
theorem k94_0 : zOk 94 0 c94_0 = true := zOkN_app (n := 5) (fin := 9) (by decide +kernel) k94_9
theorem ok94 : zOkM 94 = true := (allc (q := (0, c94_0)) k94_0 (alln) : b94.all (fun q => zOk 94 q.1 q.2) = true)
theorem k95_23 : zOk 95 23 c95_23 = true := by decide +kernel
theorem k95_17 : zOk 95 17 c95_17 = true := zOkN_app (n := 3) (fin := 23) (by decide +kernel) k95_23
theorem k95_0 : zOk 95 0 c95_0 = true := zOkN_app (n := 11) (fin := 17) (by decide +kernel) k95_17
theorem k95_36 : zOk 95 36 c95_36 = true := by decide +kernel
theorem ok95 : zOkM 95 = true := (allc (q := (0, c95_0)) k95_0 (allc (q := (17, c95_17)) k95_17 (allc (q := (36, c95_36)) k95_36 (alln))) : b95.all (fun q => zOk 95 q.1 q.2) = true)
theorem k96_182 : zOk 96 182 c96_182 = true := by decide +kernel
theorem k96_176 : zOk 96 176 c96_176 = true := zOkN_app (n := 4) (fin := 182) (by decide +kernel) k96_182
theorem k96_168 : zOk 96 168 c96_168 = true := zOkN_app (n := 4) (fin := 176) (by decide +kernel) k96_176
theorem k96_162 : zOk 96 162 c96_162 = true := zOkN_app (n := 3) (fin := 168) (by decide +kernel) k96_168
theorem k96_160 : zOk 96 160 c96_160 = true := zOkN_app (n := 2) (fin := 162) (by decide +kernel) k96_162
theorem k96_155 : zOk 96 155 c96_155 = true := zOkN_app (n := 3) (fin := 160) (by decide +kernel) k96_160
theorem k96_150 : zOk 96 150 c96_150 = true := zOkN_app (n := 3) (fin := 155) (by decide +kernel) k96_155
theorem k96_139 : zOk 96 139 c96_139 = true := zOkN_app (n := 5) (fin := 150) (by decide +kernel) k96_150
theorem k96_135 : zOk 96 135 c96_135 = true := zOkN_app (n := 2) (fin := 139) (by decide +kernel) k96_139
theorem k96_128 : zOk 96 128 c96_128 = true := zOkN_app (n := 3) (fin := 135) (by decide +kernel) k96_135
theorem k96_124 : zOk 96 124 c96_124 = true := zOkN_app (n := 2) (fin := 128) (by decide +kernel) k96_128
theorem k96_117 : zOk 96 117 c96_117 = true := zOkN_app (n := 3) (fin := 124) (by decide +kernel) k96_124
theorem k96_113 : zOk 96 113 c96_113 = true := zOkN_app (n := 2) (fin := 117) (by decide +kernel) k96_117
theorem k96_103 : zOk 96 103 c96_103 = true := zOkN_app (n := 4) (fin := 113) (by decide +kernel) k96_113
theorem k96_99 : zOk 96 99 c96_99 = true := zOkN_app (n := 2) (fin := 103) (by decide +kernel) k96_103
theorem k96_89 : zOk 96 89 c96_89 = true := zOkN_app (n := 4) (fin := 99) (by decide +kernel) k96_99
theorem k96_85 : zOk 96 85 c96_85 = true := zOkN_app (n := 2) (fin := 89) (by decide +kernel) k96_89
theorem k96_80 : zOk 96 80 c96_80 = true := zOkN_app (n := 3) (fin := 85) (by decide +kernel) k96_85
theorem k96_77 : zOk 96 77 c96_77 = true := zOkN_app (n := 1) (fin := 80) (by decide +kernel) k96_80
theorem k96_71 : zOk 96 71 c96_71 = true := zOkN_app (n := 3) (fin := 77) (by decide +kernel) k96_77
theorem k96_68 : zOk 96 68 c96_68 = true := zOkN_app (n := 1) (fin := 71) (by decide +kernel) k96_71
theorem k96_62 : zOk 96 62 c96_62 = true := zOkN_app (n := 3) (fin := 68) (by decide +kernel) k96_68
theorem k96_59 : zOk 96 59 c96_59 = true := zOkN_app (n := 1) (fin := 62) (by decide +kernel) k96_62
theorem k96_53 : zOk 96 53 c96_53 = true := zOkN_app (n := 3) (fin := 59) (by decide +kernel) k96_59
theorem k96_48 : zOk 96 48 c96_48 = true := zOkN_app (n := 3) (fin := 53) (by decide +kernel) k96_53
theorem k96_41 : zOk 96 41 c96_41 = true := zOkN_app (n := 3) (fin := 48) (by decide +kernel) k96_48
theorem k96_37 : zOk 96 37 c96_37 = true := zOkN_app (n := 2) (fin := 41) (by decide +kernel) k96_41
theorem k96_30 : zOk 96 30 c96_30 = true := zOkN_app (n := 3) (fin := 37) (by decide +kernel) k96_37
theorem k96_26 : zOk 96 26 c96_26 = true := zOkN_app (n := 2) (fin := 30) (by decide +kernel) k96_30
theorem k96_19 : zOk 96 19 c96_19 = true := zOkN_app (n := 3) (fin := 26) (by decide +kernel) k96_26
theorem k96_15 : zOk 96 15 c96_15 = true := zOkN_app (n := 2) (fin := 19) (by decide +kernel) k96_19
theorem k96_8 : zOk 96 8 c96_8 = true := zOkN_app (n := 3) (fin := 15) (by decide +kernel) k96_15
theorem k96_0 : zOk 96 0 c96_0 = true := zOkN_app (n := 4) (fin := 8) (by decide +kernel) k96_8
theorem k96_209 : zOk 96 209 c96_209 = true := by decide +kernel
theorem k96_204 : zOk 96 204 c96_204 = true := zOkN_app (n := 3) (fin := 209) (by decide +kernel) k96_209
theorem k96_196 : zOk 96 196 c96_196 = true := zOkN_app (n := 4) (fin := 204) (by decide +kernel) k96_204
theorem k96_190 : zOk 96 190 c96_190 = true := zOkN_app (n := 3) (fin := 196) (by decide +kernel) k96_196
theorem k96_188 : zOk 96 188 c96_188 = true := zOkN_app (n := 2) (fin := 190) (by decide +kernel) k96_190
theorem k96_238 : zOk 96 238 c96_238 = true := by decide +kernel
theorem k96_231 : zOk 96 231 c96_231 = true := zOkN_app (n := 4) (fin := 238) (by decide +kernel) k96_238
theorem k96_223 : zOk 96 223 c96_223 = true := zOkN_app (n := 4) (fin := 231) (by decide +kernel) k96_231
theorem k96_217 : zOk 96 217 c96_217 = true := zOkN_app (n := 3) (fin := 223) (by decide +kernel) k96_223
theorem k96_215 : zOk 96 215 c96_215 = true := zOkN_app (n := 2) (fin := 217) (by decide +kernel) k96_217
theorem k96_244 : zOk 96 244 c96_244 = true := by decide +kernel
theorem ok96 : zOkM 96 = true := (allc (q := (0, c96_0)) k96_0 (allc (q := (162, c96_162)) k96_162 (allc (q := (188, c96_188)) k96_188 (allc (q := (190, c96_190)) k96_190 (allc (q := (215, c96_215)) k96_215 (allc (q := (217, c96_217)) k96_217 (allc (q := (244, c96_244)) k96_244 (alln))))))) : b96.all (fun q => zOk 96 q.1 q.2) = true)
theorem k97_21 : zOk 97 21 c97_21 = true := by decide +kernel
theorem k97_15 : zOk 97 15 c97_15 = true := zOkN_app (n := 3) (fin := 21) (by decide +kernel) k97_21
theorem k97_10 : zOk 97 10 c97_10 = true := zOkN_app (n := 3) (fin := 15) (by decide +kernel) k97_15
theorem k97_5 : zOk 97 5 c97_5 = true := zOkN_app (n := 3) (fin := 10) (by decide +kernel) k97_10
theorem k97_0 : zOk 97 0 c97_0 = true := zOkN_app (n := 3) (fin := 5) (by decide +kernel) k97_5
theorem k97_23 : zOk 97 23 c97_23 = true := by decide +kernel
theorem ok97 : zOkM 97 = true := (allc (q := (0, c97_0)) k97_0 (allc (q := (23, c97_23)) k97_23 (alln)) : b97.all (fun q => zOk 97 q.1 q.2) = true)
theorem k98_16 : zOk 98 16 c98_16 = true := by decide +kernel
theorem k98_0 : zOk 98 0 c98_0 = true := zOkN_app (n := 8) (fin := 16) (by decide +kernel) k98_16
theorem k98_32 : zOk 98 32 c98_32 = true := by decide +kernel
theorem k98_21 : zOk 98 21 c98_21 = true := zOkN_app (n := 5) (fin := 32) (by decide +kernel) k98_32
theorem ok98 : zOkM 98 = true := (allc (q := (0, c98_0)) k98_0 (allc (q := (21, c98_21)) k98_21 (allc (q := (32, c98_32)) k98_32 (alln))) : b98.all (fun q => zOk 98 q.1 q.2) = true)
theorem k99_10 : zOk 99 10 c99_10 = true := by decide +kernel
theorem k99_5 : zOk 99 5 c99_5 = true := zOkN_app (n := 3) (fin := 10) (by decide +kernel) k99_10
theorem k99_0 : zOk 99 0 c99_0 = true := zOkN_app (n := 3) (fin := 5) (by decide +kernel) k99_5
theorem k99_24 : zOk 99 24 c99_24 = true := by decide +kernel
theorem k99_12 : zOk 99 12 c99_12 = true := zOkN_app (n := 6) (fin := 24) (by decide +kernel) k99_24
theorem k99_36 : zOk 99 36 c99_36 = true := by decide +kernel
theorem k99_34 : zOk 99 34 c99_34 = true := zOkN_app (n := 1) (fin := 36) (by decide +kernel) k99_36
theorem ok99 : zOkM 99 = true := (allc (q := (0, c99_0)) k99_0 (allc (q := (10, c99_10)) k99_10 (allc (q := (12, c99_12)) k99_12 (allc (q := (34, c99_34)) k99_34 (allc (q := (36, c99_36)) k99_36 (alln))))) : b99.all (fun q => zOk 99 q.1 q.2) = true)
theorem k100_0 : zOk 100 0 c100_0 = true := by decide +kernel
theorem ok100 : zOkM 100 = true := (allc (q := (0, c100_0)) k100_0 (alln) : b100.all (fun q => zOk 100 q.1 q.2) = true)
theorem k101_19 : zOk 101 19 c101_19 = true := by decide +kernel
theorem k101_0 : zOk 101 0 c101_0 = true := zOkN_app (n := 9) (fin := 19) (by decide +kernel) k101_19
theorem k101_52 : zOk 101 52 c101_52 = true := by decide +kernel
theorem k101_21 : zOk 101 21 c101_21 = true := zOkN_app (n := 13) (fin := 52) (by decide +kernel) k101_52
theorem k101_55 : zOk 101 55 c101_55 = true := by decide +kernel
theorem ok101 : zOkM 101 = true := (allc (q := (0, c101_0)) k101_0 (allc (q := (21, c101_21)) k101_21 (allc (q := (55, c101_55)) k101_55 (alln))) : b101.all (fun q => zOk 101 q.1 q.2) = true)
theorem k102_10 : zOk 102 10 c102_10 = true := by decide +kernel
theorem k102_5 : zOk 102 5 c102_5 = true := zOkN_app (n := 3) (fin := 10) (by decide +kernel) k102_10
theorem k102_0 : zOk 102 0 c102_0 = true := zOkN_app (n := 3) (fin := 5) (by decide +kernel) k102_5
theorem k102_30 : zOk 102 30 c102_30 = true := by decide +kernel
theorem k102_23 : zOk 102 23 c102_23 = true := zOkN_app (n := 3) (fin := 30) (by decide +kernel) k102_30
theorem k102_12 : zOk 102 12 c102_12 = true := zOkN_app (n := 6) (fin := 23) (by decide +kernel) k102_23
theorem k102_74 : zOk 102 74 c102_74 = true := by decide +kernel
theorem k102_63 : zOk 102 63 c102_63 = true := zOkN_app (n := 7) (fin := 74) (by decide +kernel) k102_74
theorem k102_60 : zOk 102 60 c102_60 = true := zOkN_app (n := 2) (fin := 63) (by decide +kernel) k102_63
theorem k102_54 : zOk 102 54 c102_54 = true := zOkN_app (n := 3) (fin := 60) (by decide +kernel) k102_60
theorem k102_41 : zOk 102 41 c102_41 = true := zOkN_app (n := 10) (fin := 54) (by decide +kernel) k102_54
theorem k102_114 : zOk 102 114 c102_114 = true := by decide +kernel
theorem k102_145 : zOk 102 145 c102_145 = true := by decide +kernel
theorem k102_120 : zOk 102 120 c102_120 = true := zOkN_app (n := 11) (fin := 145) (by decide +kernel) k102_145
theorem k102_153 : zOk 102 153 c102_153 = true := by decide +kernel
theorem k102_152 : zOk 102 152 c102_152 = true := zOkN_app (n := 1) (fin := 153) (by decide +kernel) k102_153
theorem ok102 : zOkM 102 = true := (allc (q := (0, c102_0)) k102_0 (allc (q := (10, c102_10)) k102_10 (allc (q := (12, c102_12)) k102_12 (allc (q := (23, c102_23)) k102_23 (allc (q := (41, c102_41)) k102_41 (allc (q := (54, c102_54)) k102_54 (allc (q := (63, c102_63)) k102_63 (allc (q := (114, c102_114)) k102_114 (allc (q := (120, c102_120)) k102_120 (allc (q := (152, c102_152)) k102_152 (allc (q := (153, c102_153)) k102_153 (alln))))))))))) : b102.all (fun q => zOk 102 q.1 q.2) = true)
theorem k103_10 : zOk 103 10 c103_10 = true := by decide +kernel
theorem k103_0 : zOk 103 0 c103_0 = true := zOkN_app (n := 4) (fin := 10) (by decide +kernel) k103_10
theorem k103_33 : zOk 103 33 c103_33 = true := by decide +kernel
theorem k103_27 : zOk 103 27 c103_27 = true := zOkN_app (n := 3) (fin := 33) (by decide +kernel) k103_33
theorem k103_23 : zOk 103 23 c103_23 = true := zOkN_app (n := 2) (fin := 27) (by decide +kernel) k103_27
theorem k103_17 : zOk 103 17 c103_17 = true := zOkN_app (n := 3) (fin := 23) (by decide +kernel) k103_23
theorem k103_13 : zOk 103 13 c103_13 = true := zOkN_app (n := 2) (fin := 17) (by decide +kernel) k103_17
theorem k103_51 : zOk 103 51 c103_51 = true := by decide +kernel
theorem k103_37 : zOk 103 37 c103_37 = true := zOkN_app (n := 9) (fin := 51) (by decide +kernel) k103_51
theorem ok103 : zOkM 103 = true := (allc (q := (0, c103_0)) k103_0 (allc (q := (13, c103_13)) k103_13 (allc (q := (33, c103_33)) k103_33 (allc (q := (37, c103_37)) k103_37 (allc (q := (51, c103_51)) k103_51 (alln))))) : b103.all (fun q => zOk 103 q.1 q.2) = true)
theorem k104_10 : zOk 104 10 c104_10 = true := by decide +kernel
theorem k104_0 : zOk 104 0 c104_0 = true := zOkN_app (n := 4) (fin := 10) (by decide +kernel) k104_10
theorem k104_23 : zOk 104 23 c104_23 = true := by decide +kernel
theorem k104_17 : zOk 104 17 c104_17 = true := zOkN_app (n := 3) (fin := 23) (by decide +kernel) k104_23
theorem k104_13 : zOk 104 13 c104_13 = true := zOkN_app (n := 2) (fin := 17) (by decide +kernel) k104_17
theorem k104_38 : zOk 104 38 c104_38 = true := by decide +kernel
theorem k104_27 : zOk 104 27 c104_27 = true := zOkN_app (n := 5) (fin := 38) (by decide +kernel) k104_38
theorem ok104 : zOkM 104 = true := (allc (q := (0, c104_0)) k104_0 (allc (q := (13, c104_13)) k104_13 (allc (q := (23, c104_23)) k104_23 (allc (q := (27, c104_27)) k104_27 (allc (q := (38, c104_38)) k104_38 (alln))))) : b104.all (fun q => zOk 104 q.1 q.2) = true)
theorem k105_10 : zOk 105 10 c105_10 = true := by decide +kernel
theorem k105_0 : zOk 105 0 c105_0 = true := zOkN_app (n := 4) (fin := 10) (by decide +kernel) k105_10
theorem k105_21 : zOk 105 21 c105_21 = true := by decide +kernel
theorem k105_13 : zOk 105 13 c105_13 = true := zOkN_app (n := 4) (fin := 21) (by decide +kernel) k105_21
theorem k105_34 : zOk 105 34 c105_34 = true := by decide +kernel
theorem k105_33 : zOk 105 33 c105_33 = true := zOkN_app (n := 1) (fin := 34) (by decide +kernel) k105_34
theorem ok105 : zOkM 105 = true := (allc (q := (0, c105_0)) k105_0 (allc (q := (13, c105_13)) k105_13 (allc (q := (33, c105_33)) k105_33 (allc (q := (34, c105_34)) k105_34 (alln)))) : b105.all (fun q => zOk 105 q.1 q.2) = true)
theorem k106_10 : zOk 106 10 c106_10 = true := by decide +kernel
theorem k106_0 : zOk 106 0 c106_0 = true := zOkN_app (n := 4) (fin := 10) (by decide +kernel) k106_10
theorem k106_29 : zOk 106 29 c106_29 = true := by decide +kernel
theorem k106_21 : zOk 106 21 c106_21 = true := zOkN_app (n := 4) (fin := 29) (by decide +kernel) k106_29
theorem k106_13 : zOk 106 13 c106_13 = true := zOkN_app (n := 4) (fin := 21) (by decide +kernel) k106_21
theorem k106_42 : zOk 106 42 c106_42 = true := by decide +kernel
theorem k106_41 : zOk 106 41 c106_41 = true := zOkN_app (n := 1) (fin := 42) (by decide +kernel) k106_42
theorem ok106 : zOkM 106 = true := (allc (q := (0, c106_0)) k106_0 (allc (q := (13, c106_13)) k106_13 (allc (q := (41, c106_41)) k106_41 (allc (q := (42, c106_42)) k106_42 (alln)))) : b106.all (fun q => zOk 106 q.1 q.2) = true)
theorem k107_10 : zOk 107 10 c107_10 = true := by decide +kernel
theorem k107_0 : zOk 107 0 c107_0 = true := zOkN_app (n := 4) (fin := 10) (by decide +kernel) k107_10
theorem k107_21 : zOk 107 21 c107_21 = true := by decide +kernel
theorem k107_13 : zOk 107 13 c107_13 = true := zOkN_app (n := 4) (fin := 21) (by decide +kernel) k107_21
theorem k107_57 : zOk 107 57 c107_57 = true := by decide +kernel
theorem k107_51 : zOk 107 51 c107_51 = true := zOkN_app (n := 6) (fin := 57) (by decide +kernel) k107_57
theorem k107_38 : zOk 107 38 c107_38 = true := zOkN_app (n := 7) (fin := 51) (by decide +kernel) k107_51
theorem k107_27 : zOk 107 27 c107_27 = true := zOkN_app (n := 5) (fin := 38) (by decide +kernel) k107_38
theorem k107_23 : zOk 107 23 c107_23 = true := zOkN_app (n := 4) (fin := 27) (by decide +kernel) k107_27
theorem k107_63 : zOk 107 63 c107_63 = true := by decide +kernel
theorem ok107 : zOkM 107 = true := (allc (q := (0, c107_0)) k107_0 (allc (q := (13, c107_13)) k107_13 (allc (q := (23, c107_23)) k107_23 (allc (q := (27, c107_27)) k107_27 (allc (q := (57, c107_57)) k107_57 (allc (q := (63, c107_63)) k107_63 (alln)))))) : b107.all (fun q => zOk 107 q.1 q.2) = true)
theorem k108_10 : zOk 108 10 c108_10 = true := by decide +kernel
theorem k108_0 : zOk 108 0 c108_0 = true := zOkN_app (n := 4) (fin := 10) (by decide +kernel) k108_10
theorem k108_21 : zOk 108 21 c108_21 = true := by decide +kernel
theorem k108_13 : zOk 108 13 c108_13 = true := zOkN_app (n := 4) (fin := 21) (by decide +kernel) k108_21
theorem k108_45 : zOk 108 45 c108_45 = true := by decide +kernel
theorem k108_44 : zOk 108 44 c108_44 = true := zOkN_app (n := 1) (fin := 45) (by decide +kernel) k108_45
theorem ok108 : zOkM 108 = true := (allc (q := (0, c108_0)) k108_0 (allc (q := (13, c108_13)) k108_13 (allc (q := (44, c108_44)) k108_44 (allc (q := (45, c108_45)) k108_45 (alln)))) : b108.all (fun q => zOk 108 q.1 q.2) = true)
theorem k109_10 : zOk 109 10 c109_10 = true := by decide +kernel
theorem k109_0 : zOk 109 0 c109_0 = true := zOkN_app (n := 4) (fin := 10) (by decide +kernel) k109_10
theorem k109_68 : zOk 109 68 c109_68 = true := by decide +kernel
theorem k109_62 : zOk 109 62 c109_62 = true := zOkN_app (n := 6) (fin := 68) (by decide +kernel) k109_68
theorem k109_39 : zOk 109 39 c109_39 = true := zOkN_app (n := 11) (fin := 62) (by decide +kernel) k109_62
theorem k109_28 : zOk 109 28 c109_28 = true := zOkN_app (n := 5) (fin := 39) (by decide +kernel) k109_39
theorem k109_17 : zOk 109 17 c109_17 = true := zOkN_app (n := 5) (fin := 28) (by decide +kernel) k109_28
theorem k109_13 : zOk 109 13 c109_13 = true := zOkN_app (n := 4) (fin := 17) (by decide +kernel) k109_17
theorem k109_74 : zOk 109 74 c109_74 = true := by decide +kernel
theorem ok109 : zOkM 109 = true := (allc (q := (0, c109_0)) k109_0 (allc (q := (13, c109_13)) k109_13 (allc (q := (17, c109_17)) k109_17 (allc (q := (68, c109_68)) k109_68 (allc (q := (74, c109_74)) k109_74 (alln))))) : b109.all (fun q => zOk 109 q.1 q.2) = true)
theorem k110_10 : zOk 110 10 c110_10 = true := by decide +kernel
theorem k110_0 : zOk 110 0 c110_0 = true := zOkN_app (n := 4) (fin := 10) (by decide +kernel) k110_10
theorem k110_30 : zOk 110 30 c110_30 = true := by decide +kernel
theorem k110_22 : zOk 110 22 c110_22 = true := zOkN_app (n := 4) (fin := 30) (by decide +kernel) k110_30
theorem k110_13 : zOk 110 13 c110_13 = true := zOkN_app (n := 5) (fin := 22) (by decide +kernel) k110_22
theorem k110_45 : zOk 110 45 c110_45 = true := by decide +kernel
theorem k110_44 : zOk 110 44 c110_44 = true := zOkN_app (n := 1) (fin := 45) (by decide +kernel) k110_45
theorem ok110 : zOkM 110 = true := (allc (q := (0, c110_0)) k110_0 (allc (q := (13, c110_13)) k110_13 (allc (q := (44, c110_44)) k110_44 (allc (q := (45, c110_45)) k110_45 (alln)))) : b110.all (fun q => zOk 110 q.1 q.2) = true)
theorem k111_10 : zOk 111 10 c111_10 = true := by decide +kernel
theorem k111_0 : zOk 111 0 c111_0 = true := zOkN_app (n := 4) (fin := 10) (by decide +kernel) k111_10
theorem k111_51 : zOk 111 51 c111_51 = true := by decide +kernel
theorem k111_44 : zOk 111 44 c111_44 = true := zOkN_app (n := 3) (fin := 51) (by decide +kernel) k111_51
theorem k111_39 : zOk 111 39 c111_39 = true := zOkN_app (n := 2) (fin := 44) (by decide +kernel) k111_44
theorem k111_30 : zOk 111 30 c111_30 = true := zOkN_app (n := 4) (fin := 39) (by decide +kernel) k111_39
theorem k111_22 : zOk 111 22 c111_22 = true := zOkN_app (n := 4) (fin := 30) (by decide +kernel) k111_30
theorem k111_13 : zOk 111 13 c111_13 = true := zOkN_app (n := 5) (fin := 22) (by decide +kernel) k111_22
theorem k111_53 : zOk 111 53 c111_53 = true := by decide +kernel
theorem ok111 : zOkM 111 = true := (allc (q := (0, c111_0)) k111_0 (allc (q := (13, c111_13)) k111_13 (allc (q := (51, c111_51)) k111_51 (allc (q := (53, c111_53)) k111_53 (alln)))) : b111.all (fun q => zOk 111 q.1 q.2) = true)
theorem k112_10 : zOk 112 10 c112_10 = true := by decide +kernel
theorem k112_0 : zOk 112 0 c112_0 = true := zOkN_app (n := 4) (fin := 10) (by decide +kernel) k112_10
theorem k112_22 : zOk 112 22 c112_22 = true := by decide +kernel
theorem k112_13 : zOk 112 13 c112_13 = true := zOkN_app (n := 5) (fin := 22) (by decide +kernel) k112_22
theorem k112_36 : zOk 112 36 c112_36 = true := by decide +kernel
theorem k112_35 : zOk 112 35 c112_35 = true := zOkN_app (n := 1) (fin := 36) (by decide +kernel) k112_36
theorem ok112 : zOkM 112 = true := (allc (q := (0, c112_0)) k112_0 (allc (q := (13, c112_13)) k112_13 (allc (q := (35, c112_35)) k112_35 (allc (q := (36, c112_36)) k112_36 (alln)))) : b112.all (fun q => zOk 112 q.1 q.2) = true)
theorem k113_10 : zOk 113 10 c113_10 = true := by decide +kernel
theorem k113_0 : zOk 113 0 c113_0 = true := zOkN_app (n := 4) (fin := 10) (by decide +kernel) k113_10
theorem k113_31 : zOk 113 31 c113_31 = true := by decide +kernel
theorem k113_26 : zOk 113 26 c113_26 = true := zOkN_app (n := 3) (fin := 31) (by decide +kernel) k113_31
theorem k113_22 : zOk 113 22 c113_22 = true := zOkN_app (n := 2) (fin := 26) (by decide +kernel) k113_26
theorem k113_13 : zOk 113 13 c113_13 = true := zOkN_app (n := 5) (fin := 22) (by decide +kernel) k113_22
theorem k113_37 : zOk 113 37 c113_37 = true := by decide +kernel
theorem k113_33 : zOk 113 33 c113_33 = true := zOkN_app (n := 2) (fin := 37) (by decide +kernel) k113_37
theorem k113_62 : zOk 113 62 c113_62 = true := by decide +kernel
theorem k113_51 : zOk 113 51 c113_51 = true := zOkN_app (n := 7) (fin := 62) (by decide +kernel) k113_62
theorem ok113 : zOkM 113 = true := (allc (q := (0, c113_0)) k113_0 (allc (q := (13, c113_13)) k113_13 (allc (q := (31, c113_31)) k113_31 (allc (q := (33, c113_33)) k113_33 (allc (q := (51, c113_51)) k113_51 (allc (q := (62, c113_62)) k113_62 (alln)))))) : b113.all (fun q => zOk 113 q.1 q.2) = true)
theorem k114_10 : zOk 114 10 c114_10 = true := by decide +kernel
theorem k114_0 : zOk 114 0 c114_0 = true := zOkN_app (n := 4) (fin := 10) (by decide +kernel) k114_10
theorem k114_47 : zOk 114 47 c114_47 = true := by decide +kernel
theorem k114_40 : zOk 114 40 c114_40 = true := zOkN_app (n := 3) (fin := 47) (by decide +kernel) k114_47
theorem k114_35 : zOk 114 35 c114_35 = true := zOkN_app (n := 2) (fin := 40) (by decide +kernel) k114_40
theorem k114_26 : zOk 114 26 c114_26 = true := zOkN_app (n := 4) (fin := 35) (by decide +kernel) k114_35
theorem k114_22 : zOk 114 22 c114_22 = true := zOkN_app (n := 2) (fin := 26) (by decide +kernel) k114_26
theorem k114_13 : zOk 114 13 c114_13 = true := zOkN_app (n := 5) (fin := 22) (by decide +kernel) k114_22
theorem k114_69 : zOk 114 69 c114_69 = true := by decide +kernel
theorem k114_59 : zOk 114 59 c114_59 = true := zOkN_app (n := 6) (fin := 69) (by decide +kernel) k114_69
theorem k114_49 : zOk 114 49 c114_49 = true := zOkN_app (n := 6) (fin := 59) (by decide +kernel) k114_59
theorem k114_71 : zOk 114 71 c114_71 = true := by decide +kernel
theorem ok114 : zOkM 114 = true := (allc (q := (0, c114_0)) k114_0 (allc (q := (13, c114_13)) k114_13 (allc (q := (47, c114_47)) k114_47 (allc (q := (49, c114_49)) k114_49 (allc (q := (69, c114_69)) k114_69 (allc (q := (71, c114_71)) k114_71 (alln)))))) : b114.all (fun q => zOk 114 q.1 q.2) = true)
theorem k115_10 : zOk 115 10 c115_10 = true := by decide +kernel
theorem k115_0 : zOk 115 0 c115_0 = true := zOkN_app (n := 4) (fin := 10) (by decide +kernel) k115_10
theorem k115_29 : zOk 115 29 c115_29 = true := by decide +kernel
theorem k115_21 : zOk 115 21 c115_21 = true := zOkN_app (n := 4) (fin := 29) (by decide +kernel) k115_29
theorem k115_13 : zOk 115 13 c115_13 = true := zOkN_app (n := 4) (fin := 21) (by decide +kernel) k115_21
theorem k115_31 : zOk 115 31 c115_31 = true := by decide +kernel
theorem ok115 : zOkM 115 = true := (allc (q := (0, c115_0)) k115_0 (allc (q := (13, c115_13)) k115_13 (allc (q := (29, c115_29)) k115_29 (allc (q := (31, c115_31)) k115_31 (alln)))) : b115.all (fun q => zOk 115 q.1 q.2) = true)
theorem k116_10 : zOk 116 10 c116_10 = true := by decide +kernel
theorem k116_0 : zOk 116 0 c116_0 = true := zOkN_app (n := 4) (fin := 10) (by decide +kernel) k116_10
theorem k116_30 : zOk 116 30 c116_30 = true := by decide +kernel
theorem k116_25 : zOk 116 25 c116_25 = true := zOkN_app (n := 3) (fin := 30) (by decide +kernel) k116_30
theorem k116_21 : zOk 116 21 c116_21 = true := zOkN_app (n := 2) (fin := 25) (by decide +kernel) k116_25
theorem k116_13 : zOk 116 13 c116_13 = true := zOkN_app (n := 4) (fin := 21) (by decide +kernel) k116_21
theorem k116_54 : zOk 116 54 c116_54 = true := by decide +kernel
theorem k116_32 : zOk 116 32 c116_32 = true := zOkN_app (n := 12) (fin := 54) (by decide +kernel) k116_54
theorem k116_73 : zOk 116 73 c116_73 = true := by decide +kernel
theorem k116_65 : zOk 116 65 c116_65 = true := zOkN_app (n := 4) (fin := 73) (by decide +kernel) k116_73
theorem ok116 : zOkM 116 = true := (allc (q := (0, c116_0)) k116_0 (allc (q := (13, c116_13)) k116_13 (allc (q := (30, c116_30)) k116_30 (allc (q := (32, c116_32)) k116_32 (allc (q := (65, c116_65)) k116_65 (allc (q := (73, c116_73)) k116_73 (alln)))))) : b116.all (fun q => zOk 116 q.1 q.2) = true)
theorem k117_10 : zOk 117 10 c117_10 = true := by decide +kernel
theorem k117_0 : zOk 117 0 c117_0 = true := zOkN_app (n := 4) (fin := 10) (by decide +kernel) k117_10
theorem k117_22 : zOk 117 22 c117_22 = true := by decide +kernel
theorem k117_17 : zOk 117 17 c117_17 = true := zOkN_app (n := 3) (fin := 22) (by decide +kernel) k117_22
theorem k117_13 : zOk 117 13 c117_13 = true := zOkN_app (n := 2) (fin := 17) (by decide +kernel) k117_17
theorem k117_50 : zOk 117 50 c117_50 = true := by decide +kernel
theorem k117_24 : zOk 117 24 c117_24 = true := zOkN_app (n := 16) (fin := 50) (by decide +kernel) k117_50
theorem k117_59 : zOk 117 59 c117_59 = true := by decide +kernel
theorem k117_54 : zOk 117 54 c117_54 = true := zOkN_app (n := 3) (fin := 59) (by decide +kernel) k117_59
theorem k117_72 : zOk 117 72 c117_72 = true := by decide +kernel
theorem k117_66 : zOk 117 66 c117_66 = true := zOkN_app (n := 4) (fin := 72) (by decide +kernel) k117_72
theorem ok117 : zOkM 117 = true := (allc (q := (0, c117_0)) k117_0 (allc (q := (13, c117_13)) k117_13 (allc (q := (22, c117_22)) k117_22 (allc (q := (24, c117_24)) k117_24 (allc (q := (54, c117_54)) k117_54 (allc (q := (66, c117_66)) k117_66 (allc (q := (72, c117_72)) k117_72 (alln))))))) : b117.all (fun q => zOk 117 q.1 q.2) = true)
theorem k118_10 : zOk 118 10 c118_10 = true := by decide +kernel
theorem k118_0 : zOk 118 0 c118_0 = true := zOkN_app (n := 4) (fin := 10) (by decide +kernel) k118_10
theorem k118_20 : zOk 118 20 c118_20 = true := by decide +kernel
theorem k118_13 : zOk 118 13 c118_13 = true := zOkN_app (n := 3) (fin := 20) (by decide +kernel) k118_20
theorem k118_41 : zOk 118 41 c118_41 = true := by decide +kernel
theorem k118_22 : zOk 118 22 c118_22 = true := zOkN_app (n := 9) (fin := 41) (by decide +kernel) k118_41
theorem k118_43 : zOk 118 43 c118_43 = true := by decide +kernel
theorem ok118 : zOkM 118 = true := (allc (q := (0, c118_0)) k118_0 (allc (q := (13, c118_13)) k118_13 (allc (q := (22, c118_22)) k118_22 (allc (q := (43, c118_43)) k118_43 (alln)))) : b118.all (fun q => zOk 118 q.1 q.2) = true)
theorem k119_10 : zOk 119 10 c119_10 = true := by decide +kernel
theorem k119_0 : zOk 119 0 c119_0 = true := zOkN_app (n := 4) (fin := 10) (by decide +kernel) k119_10
theorem k119_38 : zOk 119 38 c119_38 = true := by decide +kernel
theorem k119_29 : zOk 119 29 c119_29 = true := zOkN_app (n := 4) (fin := 38) (by decide +kernel) k119_38
theorem k119_20 : zOk 119 20 c119_20 = true := zOkN_app (n := 5) (fin := 29) (by decide +kernel) k119_29
theorem k119_13 : zOk 119 13 c119_13 = true := zOkN_app (n := 3) (fin := 20) (by decide +kernel) k119_20
theorem k119_83 : zOk 119 83 c119_83 = true := by decide +kernel
theorem k119_77 : zOk 119 77 c119_77 = true := zOkN_app (n := 3) (fin := 83) (by decide +kernel) k119_83
theorem k119_40 : zOk 119 40 c119_40 = true := zOkN_app (n := 19) (fin := 77) (by decide +kernel) k119_77
theorem k119_118 : zOk 119 118 c119_118 = true := by decide +kernel
theorem ok119 : zOkM 119 = true := (allc (q := (0, c119_0)) k119_0 (allc (q := (13, c119_13)) k119_13 (allc (q := (38, c119_38)) k119_38 (allc (q := (40, c119_40)) k119_40 (allc (q := (77, c119_77)) k119_77 (allc (q := (118, c119_118)) k119_118 (alln)))))) : b119.all (fun q => zOk 119 q.1 q.2) = true)
theorem k120_20 : zOk 120 20 c120_20 = true := by decide +kernel
theorem k120_14 : zOk 120 14 c120_14 = true := zOkN_app (n := 3) (fin := 20) (by decide +kernel) k120_20
theorem k120_10 : zOk 120 10 c120_10 = true := zOkN_app (n := 2) (fin := 14) (by decide +kernel) k120_14
theorem k120_0 : zOk 120 0 c120_0 = true := zOkN_app (n := 6) (fin := 10) (by decide +kernel) k120_10
theorem k120_35 : zOk 120 35 c120_35 = true := by decide +kernel
theorem k120_25 : zOk 120 25 c120_25 = true := zOkN_app (n := 4) (fin := 35) (by decide +kernel) k120_35
theorem k120_24 : zOk 120 24 c120_24 = true := zOkN_app (n := 1) (fin := 25) (by decide +kernel) k120_25
theorem k120_66 : zOk 120 66 c120_66 = true := by decide +kernel
theorem k120_57 : zOk 120 57 c120_57 = true := zOkN_app (n := 4) (fin := 66) (by decide +kernel) k120_66
theorem k120_38 : zOk 120 38 c120_38 = true := zOkN_app (n := 9) (fin := 57) (by decide +kernel) k120_57
theorem k120_69 : zOk 120 69 c120_69 = true := by decide +kernel
theorem ok120 : zOkM 120 = true := (allc (q := (0, c120_0)) k120_0 (allc (q := (24, c120_24)) k120_24 (allc (q := (25, c120_25)) k120_25 (allc (q := (38, c120_38)) k120_38 (allc (q := (69, c120_69)) k120_69 (alln))))) : b120.all (fun q => zOk 120 q.1 q.2) = true)
theorem k121_14 : zOk 121 14 c121_14 = true := by decide +kernel
theorem k121_0 : zOk 121 0 c121_0 = true := zOkN_app (n := 8) (fin := 14) (by decide +kernel) k121_14
theorem k121_59 : zOk 121 59 c121_59 = true := by decide +kernel
theorem k121_17 : zOk 121 17 c121_17 = true := zOkN_app (n := 20) (fin := 59) (by decide +kernel) k121_59
theorem k121_142 : zOk 121 142 c121_142 = true := by decide +kernel
theorem k121_136 : zOk 121 136 c121_136 = true := zOkN_app (n := 3) (fin := 142) (by decide +kernel) k121_142
theorem k121_76 : zOk 121 76 c121_76 = true := zOkN_app (n := 27) (fin := 136) (by decide +kernel) k121_136
theorem k121_69 : zOk 121 69 c121_69 = true := zOkN_app (n := 3) (fin := 76) (by decide +kernel) k121_76
theorem k121_193 : zOk 121 193 c121_193 = true := by decide +kernel
theorem ok121 : zOkM 121 = true := (allc (q := (0, c121_0)) k121_0 (allc (q := (17, c121_17)) k121_17 (allc (q := (69, c121_69)) k121_69 (allc (q := (76, c121_76)) k121_76 (allc (q := (136, c121_136)) k121_136 (allc (q := (193, c121_193)) k121_193 (alln)))))) : b121.all (fun q => zOk 121 q.1 q.2) = true)
theorem k122_14 : zOk 122 14 c122_14 = true := by decide +kernel
theorem k122_0 : zOk 122 0 c122_0 = true := zOkN_app (n := 8) (fin := 14) (by decide +kernel) k122_14
theorem k122_110 : zOk 122 110 c122_110 = true := by decide +kernel
theorem k122_17 : zOk 122 17 c122_17 = true := zOkN_app (n := 42) (fin := 110) (by decide +kernel) k122_110
theorem k122_123 : zOk 122 123 c122_123 = true := by decide +kernel
theorem k122_118 : zOk 122 118 c122_118 = true := zOkN_app (n := 2) (fin := 123) (by decide +kernel) k122_123
theorem ok122 : zOkM 122 = true := (allc (q := (0, c122_0)) k122_0 (allc (q := (17, c122_17)) k122_17 (allc (q := (118, c122_118)) k122_118 (allc (q := (123, c122_123)) k122_123 (alln)))) : b122.all (fun q => zOk 122 q.1 q.2) = true)
theorem k123_20 : zOk 123 20 c123_20 = true := by decide +kernel
theorem k123_14 : zOk 123 14 c123_14 = true := zOkN_app (n := 3) (fin := 20) (by decide +kernel) k123_20
theorem k123_10 : zOk 123 10 c123_10 = true := zOkN_app (n := 2) (fin := 14) (by decide +kernel) k123_14
theorem k123_0 : zOk 123 0 c123_0 = true := zOkN_app (n := 6) (fin := 10) (by decide +kernel) k123_10
theorem k123_35 : zOk 123 35 c123_35 = true := by decide +kernel
theorem k123_25 : zOk 123 25 c123_25 = true := zOkN_app (n := 4) (fin := 35) (by decide +kernel) k123_35
theorem k123_24 : zOk 123 24 c123_24 = true := zOkN_app (n := 1) (fin := 25) (by decide +kernel) k123_25
theorem k123_58 : zOk 123 58 c123_58 = true := by decide +kernel
theorem k123_40 : zOk 123 40 c123_40 = true := zOkN_app (n := 10) (fin := 58) (by decide +kernel) k123_58
theorem ok123 : zOkM 123 = true := (allc (q := (0, c123_0)) k123_0 (allc (q := (24, c123_24)) k123_24 (allc (q := (25, c123_25)) k123_25 (allc (q := (40, c123_40)) k123_40 (allc (q := (58, c123_58)) k123_58 (alln))))) : b123.all (fun q => zOk 123 q.1 q.2) = true)
theorem k124_11 : zOk 124 11 c124_11 = true := by decide +kernel
theorem k124_6 : zOk 124 6 c124_6 = true := zOkN_app (n := 3) (fin := 11) (by decide +kernel) k124_11
theorem k124_0 : zOk 124 0 c124_0 = true := zOkN_app (n := 4) (fin := 6) (by decide +kernel) k124_6
theorem k124_24 : zOk 124 24 c124_24 = true := by decide +kernel
theorem k124_16 : zOk 124 16 c124_16 = true := zOkN_app (n := 4) (fin := 24) (by decide +kernel) k124_24
theorem k124_15 : zOk 124 15 c124_15 = true := zOkN_app (n := 1) (fin := 16) (by decide +kernel) k124_16
theorem k124_50 : zOk 124 50 c124_50 = true := by decide +kernel
theorem k124_45 : zOk 124 45 c124_45 = true := zOkN_app (n := 2) (fin := 50) (by decide +kernel) k124_50
theorem k124_26 : zOk 124 26 c124_26 = true := zOkN_app (n := 10) (fin := 45) (by decide +kernel) k124_45
theorem k124_57 : zOk 124 57 c124_57 = true := by decide +kernel
theorem k124_55 : zOk 124 55 c124_55 = true := zOkN_app (n := 1) (fin := 57) (by decide +kernel) k124_57
theorem ok124 : zOkM 124 = true := (allc (q := (0, c124_0)) k124_0 (allc (q := (11, c124_11)) k124_11 (allc (q := (15, c124_15)) k124_15 (allc (q := (16, c124_16)) k124_16 (allc (q := (26, c124_26)) k124_26 (allc (q := (55, c124_55)) k124_55 (allc (q := (57, c124_57)) k124_57 (alln))))))) : b124.all (fun q => zOk 124 q.1 q.2) = true)
theorem k125_11 : zOk 125 11 c125_11 = true := by decide +kernel
theorem k125_0 : zOk 125 0 c125_0 = true := zOkN_app (n := 7) (fin := 11) (by decide +kernel) k125_11
theorem k125_30 : zOk 125 30 c125_30 = true := by decide +kernel
theorem k125_13 : zOk 125 13 c125_13 = true := zOkN_app (n := 9) (fin := 30) (by decide +kernel) k125_30
theorem k125_39 : zOk 125 39 c125_39 = true := by decide +kernel
theorem k125_35 : zOk 125 35 c125_35 = true := zOkN_app (n := 2) (fin := 39) (by decide +kernel) k125_39
theorem ok125 : zOkM 125 = true := (allc (q := (0, c125_0)) k125_0 (allc (q := (13, c125_13)) k125_13 (allc (q := (35, c125_35)) k125_35 (allc (q := (39, c125_39)) k125_39 (alln)))) : b125.all (fun q => zOk 125 q.1 q.2) = true)
theorem k126_11 : zOk 126 11 c126_11 = true := by decide +kernel
theorem k126_0 : zOk 126 0 c126_0 = true := zOkN_app (n := 7) (fin := 11) (by decide +kernel) k126_11
theorem k126_21 : zOk 126 21 c126_21 = true := by decide +kernel
theorem k126_13 : zOk 126 13 c126_13 = true := zOkN_app (n := 4) (fin := 21) (by decide +kernel) k126_21
theorem k126_26 : zOk 126 26 c126_26 = true := by decide +kernel
theorem k126_25 : zOk 126 25 c126_25 = true := zOkN_app (n := 1) (fin := 26) (by decide +kernel) k126_26
theorem ok126 : zOkM 126 = true := (allc (q := (0, c126_0)) k126_0 (allc (q := (13, c126_13)) k126_13 (allc (q := (25, c126_25)) k126_25 (allc (q := (26, c126_26)) k126_26 (alln)))) : b126.all (fun q => zOk 126 q.1 q.2) = true)
theorem k127_29 : zOk 127 29 c127_29 = true := by decide +kernel
theorem k127_22 : zOk 127 22 c127_22 = true := zOkN_app (n := 3) (fin := 29) (by decide +kernel) k127_29
theorem k127_18 : zOk 127 18 c127_18 = true := zOkN_app (n := 2) (fin := 22) (by decide +kernel) k127_22
theorem k127_7 : zOk 127 7 c127_7 = true := zOkN_app (n := 5) (fin := 18) (by decide +kernel) k127_18
theorem k127_0 : zOk 127 0 c127_0 = true := zOkN_app (n := 5) (fin := 7) (by decide +kernel) k127_7
theorem k127_44 : zOk 127 44 c127_44 = true := by decide +kernel
theorem k127_34 : zOk 127 34 c127_34 = true := zOkN_app (n := 4) (fin := 44) (by decide +kernel) k127_44
theorem k127_33 : zOk 127 33 c127_33 = true := zOkN_app (n := 1) (fin := 34) (by decide +kernel) k127_34
theorem k127_55 : zOk 127 55 c127_55 = true := by decide +kernel
theorem k127_47 : zOk 127 47 c127_47 = true := zOkN_app (n := 4) (fin := 55) (by decide +kernel) k127_55
theorem k127_80 : zOk 127 80 c127_80 = true := by decide +kernel
theorem k127_78 : zOk 127 78 c127_78 = true := zOkN_app (n := 1) (fin := 80) (by decide +kernel) k127_80
theorem ok127 : zOkM 127 = true := (allc (q := (0, c127_0)) k127_0 (allc (q := (33, c127_33)) k127_33 (allc (q := (34, c127_34)) k127_34 (allc (q := (47, c127_47)) k127_47 (allc (q := (78, c127_78)) k127_78 (allc (q := (80, c127_80)) k127_80 (alln)))))) : b127.all (fun q => zOk 127 q.1 q.2) = true)
theorem k128_11 : zOk 128 11 c128_11 = true := by decide +kernel
theorem k128_0 : zOk 128 0 c128_0 = true := zOkN_app (n := 7) (fin := 11) (by decide +kernel) k128_11
theorem k128_30 : zOk 128 30 c128_30 = true := by decide +kernel
theorem k128_13 : zOk 128 13 c128_13 = true := zOkN_app (n := 9) (fin := 30) (by decide +kernel) k128_30
theorem k128_140 : zOk 128 140 c128_140 = true := by decide +kernel
theorem k128_104 : zOk 128 104 c128_104 = true := zOkN_app (n := 16) (fin := 140) (by decide +kernel) k128_140
theorem k128_94 : zOk 128 94 c128_94 = true := zOkN_app (n := 4) (fin := 104) (by decide +kernel) k128_104
theorem k128_32 : zOk 128 32 c128_32 = true := zOkN_app (n := 30) (fin := 94) (by decide +kernel) k128_94
theorem k128_143 : zOk 128 143 c128_143 = true := by decide +kernel
theorem k128_149 : zOk 128 149 c128_149 = true := by decide +kernel
theorem ok128 : zOkM 128 = true := (allc (q := (0, c128_0)) k128_0 (allc (q := (13, c128_13)) k128_13 (allc (q := (32, c128_32)) k128_32 (allc (q := (94, c128_94)) k128_94 (allc (q := (143, c128_143)) k128_143 (allc (q := (149, c128_149)) k128_149 (alln)))))) : b128.all (fun q => zOk 128 q.1 q.2) = true)
theorem k129_7 : zOk 129 7 c129_7 = true := by decide +kernel
theorem k129_0 : zOk 129 0 c129_0 = true := zOkN_app (n := 3) (fin := 7) (by decide +kernel) k129_7
theorem k129_31 : zOk 129 31 c129_31 = true := by decide +kernel
theorem k129_18 : zOk 129 18 c129_18 = true := zOkN_app (n := 7) (fin := 31) (by decide +kernel) k129_31
theorem k129_119 : zOk 129 119 c129_119 = true := by decide +kernel
theorem k129_103 : zOk 129 103 c129_103 = true := zOkN_app (n := 10) (fin := 119) (by decide +kernel) k129_119
theorem k129_80 : zOk 129 80 c129_80 = true := zOkN_app (n := 11) (fin := 103) (by decide +kernel) k129_103
theorem k129_75 : zOk 129 75 c129_75 = true := zOkN_app (n := 2) (fin := 80) (by decide +kernel) k129_80
theorem k129_71 : zOk 129 71 c129_71 = true := zOkN_app (n := 2) (fin := 75) (by decide +kernel) k129_75
theorem k129_66 : zOk 129 66 c129_66 = true := zOkN_app (n := 2) (fin := 71) (by decide +kernel) k129_71
theorem k129_42 : zOk 129 42 c129_42 = true := zOkN_app (n := 14) (fin := 66) (by decide +kernel) k129_66
theorem k129_130 : zOk 129 130 c129_130 = true := by decide +kernel
theorem k129_147 : zOk 129 147 c129_147 = true := by decide +kernel
theorem k129_153 : zOk 129 153 c129_153 = true := by decide +kernel
theorem ok129 : zOkM 129 = true := (allc (q := (0, c129_0)) k129_0 (allc (q := (18, c129_18)) k129_18 (allc (q := (42, c129_42)) k129_42 (allc (q := (66, c129_66)) k129_66 (allc (q := (75, c129_75)) k129_75 (allc (q := (119, c129_119)) k129_119 (allc (q := (130, c129_130)) k129_130 (allc (q := (147, c129_147)) k129_147 (allc (q := (153, c129_153)) k129_153 (alln))))))))) : b129.all (fun q => zOk 129 q.1 q.2) = true)
