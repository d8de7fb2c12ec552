set_option maxRecDepth 100000
theorem k291_263 : zOk 291 263 c291_263 = true := by decide +kernel
theorem k291_240 : zOk 291 240 c291_240 = true := zOkN_app (n := 15) (fin := 263) (by decide +kernel) k291_263
theorem k291_33 : zOk 291 33 c291_33 = true := zOkN_app (n := 6) (fin := 240) (by decide +kernel) k291_240
theorem k291_23 : zOk 291 23 c291_23 = true := zOkN_app (n := 6) (fin := 33) (by decide +kernel) k291_33
theorem k291_19 : zOk 291 19 c291_19 = true := zOkN_app (n := 3) (fin := 23) (by decide +kernel) k291_23
theorem k291_11 : zOk 291 11 c291_11 = true := zOkN_app (n := 5) (fin := 19) (by decide +kernel) k291_19
theorem k291_3 : zOk 291 3 c291_3 = true := zOkN_app (n := 4) (fin := 11) (by decide +kernel) k291_11
theorem k291_0 : zOk 291 0 c291_0 = true := zOkN_app (n := 1) (fin := 3) (by decide +kernel) k291_3
theorem k291_288 : zOk 291 288 c291_288 = true := by decide +kernel
theorem k291_265 : zOk 291 265 c291_265 = true := zOkN_app (n := 15) (fin := 288) (by decide +kernel) k291_288
theorem k291_325 : zOk 291 325 c291_325 = true := by decide +kernel
theorem k291_290 : zOk 291 290 c291_290 = true := zOkN_app (n := 25) (fin := 325) (by decide +kernel) k291_325
theorem k291_338 : zOk 291 338 c291_338 = true := by decide +kernel
theorem k291_327 : zOk 291 327 c291_327 = true := zOkN_app (n := 5) (fin := 338) (by decide +kernel) k291_338
theorem k291_351 : zOk 291 351 c291_351 = true := by decide +kernel
theorem k291_340 : zOk 291 340 c291_340 = true := zOkN_app (n := 5) (fin := 351) (by decide +kernel) k291_351
theorem k291_388 : zOk 291 388 c291_388 = true := by decide +kernel
theorem k291_353 : zOk 291 353 c291_353 = true := zOkN_app (n := 25) (fin := 388) (by decide +kernel) k291_388
theorem k291_425 : zOk 291 425 c291_425 = true := by decide +kernel
theorem k291_390 : zOk 291 390 c291_390 = true := zOkN_app (n := 25) (fin := 425) (by decide +kernel) k291_425
theorem k291_450 : zOk 291 450 c291_450 = true := by decide +kernel
theorem k291_427 : zOk 291 427 c291_427 = true := zOkN_app (n := 15) (fin := 450) (by decide +kernel) k291_450
theorem k291_475 : zOk 291 475 c291_475 = true := by decide +kernel
theorem k291_452 : zOk 291 452 c291_452 = true := zOkN_app (n := 15) (fin := 475) (by decide +kernel) k291_475
theorem k291_512 : zOk 291 512 c291_512 = true := by decide +kernel
theorem k291_477 : zOk 291 477 c291_477 = true := zOkN_app (n := 25) (fin := 512) (by decide +kernel) k291_512
theorem k291_537 : zOk 291 537 c291_537 = true := by decide +kernel
theorem k291_514 : zOk 291 514 c291_514 = true := zOkN_app (n := 15) (fin := 537) (by decide +kernel) k291_537
theorem k291_562 : zOk 291 562 c291_562 = true := by decide +kernel
theorem k291_539 : zOk 291 539 c291_539 = true := zOkN_app (n := 15) (fin := 562) (by decide +kernel) k291_562
theorem k291_575 : zOk 291 575 c291_575 = true := by decide +kernel
theorem k291_564 : zOk 291 564 c291_564 = true := zOkN_app (n := 5) (fin := 575) (by decide +kernel) k291_575
theorem k291_624 : zOk 291 624 c291_624 = true := by decide +kernel
theorem k291_577 : zOk 291 577 c291_577 = true := zOkN_app (n := 35) (fin := 624) (by decide +kernel) k291_624
theorem k291_697 : zOk 291 697 c291_697 = true := by decide +kernel
theorem k291_626 : zOk 291 626 c291_626 = true := zOkN_app (n := 55) (fin := 697) (by decide +kernel) k291_697
theorem k291_734 : zOk 291 734 c291_734 = true := by decide +kernel
theorem k291_699 : zOk 291 699 c291_699 = true := zOkN_app (n := 25) (fin := 734) (by decide +kernel) k291_734
theorem k291_783 : zOk 291 783 c291_783 = true := by decide +kernel
theorem k291_736 : zOk 291 736 c291_736 = true := zOkN_app (n := 35) (fin := 783) (by decide +kernel) k291_783
theorem k291_856 : zOk 291 856 c291_856 = true := by decide +kernel
theorem k291_785 : zOk 291 785 c291_785 = true := zOkN_app (n := 55) (fin := 856) (by decide +kernel) k291_856
theorem k291_893 : zOk 291 893 c291_893 = true := by decide +kernel
theorem k291_858 : zOk 291 858 c291_858 = true := zOkN_app (n := 25) (fin := 893) (by decide +kernel) k291_893
theorem k291_930 : zOk 291 930 c291_930 = true := by decide +kernel
theorem k291_895 : zOk 291 895 c291_895 = true := zOkN_app (n := 25) (fin := 930) (by decide +kernel) k291_930
theorem k291_955 : zOk 291 955 c291_955 = true := by decide +kernel
theorem k291_932 : zOk 291 932 c291_932 = true := zOkN_app (n := 15) (fin := 955) (by decide +kernel) k291_955
theorem k291_980 : zOk 291 980 c291_980 = true := by decide +kernel
theorem k291_957 : zOk 291 957 c291_957 = true := zOkN_app (n := 15) (fin := 980) (by decide +kernel) k291_980
theorem k291_1041 : zOk 291 1041 c291_1041 = true := by decide +kernel
theorem k291_982 : zOk 291 982 c291_982 = true := zOkN_app (n := 45) (fin := 1041) (by decide +kernel) k291_1041
theorem k291_1090 : zOk 291 1090 c291_1090 = true := by decide +kernel
theorem k291_1043 : zOk 291 1043 c291_1043 = true := zOkN_app (n := 35) (fin := 1090) (by decide +kernel) k291_1090
theorem k291_1139 : zOk 291 1139 c291_1139 = true := by decide +kernel
theorem k291_1092 : zOk 291 1092 c291_1092 = true := zOkN_app (n := 35) (fin := 1139) (by decide +kernel) k291_1139
theorem k291_1188 : zOk 291 1188 c291_1188 = true := by decide +kernel
theorem k291_1141 : zOk 291 1141 c291_1141 = true := zOkN_app (n := 35) (fin := 1188) (by decide +kernel) k291_1188
theorem k291_1237 : zOk 291 1237 c291_1237 = true := by decide +kernel
theorem k291_1190 : zOk 291 1190 c291_1190 = true := zOkN_app (n := 35) (fin := 1237) (by decide +kernel) k291_1237
theorem k291_1274 : zOk 291 1274 c291_1274 = true := by decide +kernel
theorem k291_1239 : zOk 291 1239 c291_1239 = true := zOkN_app (n := 25) (fin := 1274) (by decide +kernel) k291_1274
theorem k291_1299 : zOk 291 1299 c291_1299 = true := by decide +kernel
theorem k291_1276 : zOk 291 1276 c291_1276 = true := zOkN_app (n := 15) (fin := 1299) (by decide +kernel) k291_1299
theorem k291_1324 : zOk 291 1324 c291_1324 = true := by decide +kernel
theorem k291_1301 : zOk 291 1301 c291_1301 = true := zOkN_app (n := 15) (fin := 1324) (by decide +kernel) k291_1324
theorem k291_1373 : zOk 291 1373 c291_1373 = true := by decide +kernel
theorem k291_1326 : zOk 291 1326 c291_1326 = true := zOkN_app (n := 35) (fin := 1373) (by decide +kernel) k291_1373
theorem k291_1398 : zOk 291 1398 c291_1398 = true := by decide +kernel
theorem k291_1375 : zOk 291 1375 c291_1375 = true := zOkN_app (n := 15) (fin := 1398) (by decide +kernel) k291_1398
theorem k291_1446 : zOk 291 1446 c291_1446 = true := by decide +kernel
theorem k291_1400 : zOk 291 1400 c291_1400 = true := zOkN_app (n := 31) (fin := 1446) (by decide +kernel) k291_1446
theorem k291_1462 : zOk 291 1462 c291_1462 = true := by decide +kernel
theorem k291_1453 : zOk 291 1453 c291_1453 = true := zOkN_app (n := 6) (fin := 1462) (by decide +kernel) k291_1462
theorem k291_1448 : zOk 291 1448 c291_1448 = true := zOkN_app (n := 2) (fin := 1453) (by decide +kernel) k291_1453
theorem k291_1464 : zOk 291 1464 c291_1464 = true := by decide +kernel
theorem k291_1490 : zOk 291 1490 c291_1490 = true := by decide +kernel
theorem k291_1467 : zOk 291 1467 c291_1467 = true := zOkN_app (n := 15) (fin := 1490) (by decide +kernel) k291_1490
theorem k291_1515 : zOk 291 1515 c291_1515 = true := by decide +kernel
theorem k291_1492 : zOk 291 1492 c291_1492 = true := zOkN_app (n := 15) (fin := 1515) (by decide +kernel) k291_1515
theorem k291_1552 : zOk 291 1552 c291_1552 = true := by decide +kernel
theorem k291_1517 : zOk 291 1517 c291_1517 = true := zOkN_app (n := 25) (fin := 1552) (by decide +kernel) k291_1552
theorem k291_1601 : zOk 291 1601 c291_1601 = true := by decide +kernel
theorem k291_1554 : zOk 291 1554 c291_1554 = true := zOkN_app (n := 35) (fin := 1601) (by decide +kernel) k291_1601
theorem k291_1682 : zOk 291 1682 c291_1682 = true := by decide +kernel
theorem k291_1603 : zOk 291 1603 c291_1603 = true := zOkN_app (n := 59) (fin := 1682) (by decide +kernel) k291_1682
theorem k291_1730 : zOk 291 1730 c291_1730 = true := by decide +kernel
theorem k291_1684 : zOk 291 1684 c291_1684 = true := zOkN_app (n := 31) (fin := 1730) (by decide +kernel) k291_1730
theorem k291_1746 : zOk 291 1746 c291_1746 = true := by decide +kernel
theorem k291_1737 : zOk 291 1737 c291_1737 = true := zOkN_app (n := 6) (fin := 1746) (by decide +kernel) k291_1746
theorem k291_1732 : zOk 291 1732 c291_1732 = true := zOkN_app (n := 2) (fin := 1737) (by decide +kernel) k291_1737
theorem k291_1748 : zOk 291 1748 c291_1748 = true := by decide +kernel
theorem k291_1822 : zOk 291 1822 c291_1822 = true := by decide +kernel
theorem k291_1751 : zOk 291 1751 c291_1751 = true := zOkN_app (n := 55) (fin := 1822) (by decide +kernel) k291_1822
theorem k291_1859 : zOk 291 1859 c291_1859 = true := by decide +kernel
theorem k291_1824 : zOk 291 1824 c291_1824 = true := zOkN_app (n := 25) (fin := 1859) (by decide +kernel) k291_1859
theorem k291_1896 : zOk 291 1896 c291_1896 = true := by decide +kernel
theorem k291_1861 : zOk 291 1861 c291_1861 = true := zOkN_app (n := 25) (fin := 1896) (by decide +kernel) k291_1896
theorem k291_1921 : zOk 291 1921 c291_1921 = true := by decide +kernel
theorem k291_1898 : zOk 291 1898 c291_1898 = true := zOkN_app (n := 15) (fin := 1921) (by decide +kernel) k291_1921
theorem k291_1934 : zOk 291 1934 c291_1934 = true := by decide +kernel
theorem k291_1923 : zOk 291 1923 c291_1923 = true := zOkN_app (n := 5) (fin := 1934) (by decide +kernel) k291_1934
theorem k291_1947 : zOk 291 1947 c291_1947 = true := by decide +kernel
theorem k291_1936 : zOk 291 1936 c291_1936 = true := zOkN_app (n := 5) (fin := 1947) (by decide +kernel) k291_1947
theorem k291_1972 : zOk 291 1972 c291_1972 = true := by decide +kernel
theorem k291_1949 : zOk 291 1949 c291_1949 = true := zOkN_app (n := 15) (fin := 1972) (by decide +kernel) k291_1972
theorem k291_1974 : zOk 291 1974 c291_1974 = true := by decide +kernel
theorem k291_1980 : zOk 291 1980 c291_1980 = true := by decide +kernel
theorem ok291 : zOkM 291 = true := (allc (q := (0, c291_0)) k291_0 (allc (q := (23, c291_23)) k291_23 (allc (q := (240, c291_240)) k291_240 (allc (q := (265, c291_265)) k291_265 (allc (q := (290, c291_290)) k291_290 (allc (q := (327, c291_327)) k291_327 (allc (q := (340, c291_340)) k291_340 (allc (q := (353, c291_353)) k291_353 (allc (q := (390, c291_390)) k291_390 (allc (q := (427, c291_427)) k291_427 (allc (q := (452, c291_452)) k291_452 (allc (q := (477, c291_477)) k291_477 (allc (q := (514, c291_514)) k291_514 (allc (q := (539, c291_539)) k291_539 (allc (q := (564, c291_564)) k291_564 (allc (q := (577, c291_577)) k291_577 (allc (q := (626, c291_626)) k291_626 (allc (q := (699, c291_699)) k291_699 (allc (q := (736, c291_736)) k291_736 (allc (q := (785, c291_785)) k291_785 (allc (q := (858, c291_858)) k291_858 (allc (q := (895, c291_895)) k291_895 (allc (q := (932, c291_932)) k291_932 (allc (q := (957, c291_957)) k291_957 (allc (q := (982, c291_982)) k291_982 (allc (q := (1043, c291_1043)) k291_1043 (allc (q := (1092, c291_1092)) k291_1092 (allc (q := (1141, c291_1141)) k291_1141 (allc (q := (1190, c291_1190)) k291_1190 (allc (q := (1239, c291_1239)) k291_1239 (allc (q := (1276, c291_1276)) k291_1276 (allc (q := (1301, c291_1301)) k291_1301 (allc (q := (1326, c291_1326)) k291_1326 (allc (q := (1375, c291_1375)) k291_1375 (allc (q := (1400, c291_1400)) k291_1400 (allc (q := (1448, c291_1448)) k291_1448 (allc (q := (1464, c291_1464)) k291_1464 (allc (q := (1467, c291_1467)) k291_1467 (allc (q := (1492, c291_1492)) k291_1492 (allc (q := (1517, c291_1517)) k291_1517 (allc (q := (1554, c291_1554)) k291_1554 (allc (q := (1603, c291_1603)) k291_1603 (allc (q := (1684, c291_1684)) k291_1684 (allc (q := (1732, c291_1732)) k291_1732 (allc (q := (1748, c291_1748)) k291_1748 (allc (q := (1751, c291_1751)) k291_1751 (allc (q := (1824, c291_1824)) k291_1824 (allc (q := (1861, c291_1861)) k291_1861 (allc (q := (1898, c291_1898)) k291_1898 (allc (q := (1923, c291_1923)) k291_1923 (allc (q := (1936, c291_1936)) k291_1936 (allc (q := (1949, c291_1949)) k291_1949 (allc (q := (1974, c291_1974)) k291_1974 (allc (q := (1980, c291_1980)) k291_1980 (alln)))))))))))))))))))))))))))))))))))))))))))))))))))))) : b291.all (fun q => zOk 291 q.1 q.2) = true)
theorem ok_all (m : Nat) (h : m < 292) : zOkM m = true := (if q146 : m < 146 then (if q73 : m < 73 then (if q36 : m < 36 then (if q18 : m < 18 then (if q9 : m < 9 then (if q4 : m < 4 then (if q2 : m < 2 then (if q1 : m < 1 then (have q : m = 0 := by omega
  q ▸ ok0) else (have q : m = 1 := by omega
  q ▸ ok1)) else (if q3 : m < 3 then (have q : m = 2 := by omega
  q ▸ ok2) else (have q : m = 3 := by omega
  q ▸ ok3))) else (if q6 : m < 6 then (if q5 : m < 5 then (have q : m = 4 := by omega
  q ▸ ok4) else (have q : m = 5 := by omega
  q ▸ ok5)) else (if q7 : m < 7 then (have q : m = 6 := by omega
  q ▸ ok6) else (if q8 : m < 8 then (have q : m = 7 := by omega
  q ▸ ok7) else (have q : m = 8 := by omega
  q ▸ ok8))))) else (if q13 : m < 13 then (if q11 : m < 11 then (if q10 : m < 10 then (have q : m = 9 := by omega
  q ▸ ok9) else (have q : m = 10 := by omega
  q ▸ ok10)) else (if q12 : m < 12 then (have q : m = 11 := by omega
  q ▸ ok11) else (have q : m = 12 := by omega
  q ▸ ok12))) else (if q15 : m < 15 then (if q14 : m < 14 then (have q : m = 13 := by omega
  q ▸ ok13) else (have q : m = 14 := by omega
  q ▸ ok14)) else (if q16 : m < 16 then (have q : m = 15 := by omega
  q ▸ ok15) else (if q17 : m < 17 then (have q : m = 16 := by omega
  q ▸ ok16) else (have q : m = 17 := by omega
  q ▸ ok17)))))) else (if q27 : m < 27 then (if q22 : m < 22 then (if q20 : m < 20 then (if q19 : m < 19 then (have q : m = 18 := by omega
  q ▸ ok18) else (have q : m = 19 := by omega
  q ▸ ok19)) else (if q21 : m < 21 then (have q : m = 20 := by omega
  q ▸ ok20) else (have q : m = 21 := by omega
  q ▸ ok21))) else (if q24 : m < 24 then (if q23 : m < 23 then (have q : m = 22 := by omega
  q ▸ ok22) else (have q : m = 23 := by omega
  q ▸ ok23)) else (if q25 : m < 25 then (have q : m = 24 := by omega
  q ▸ ok24) else (if q26 : m < 26 then (have q : m = 25 := by omega
  q ▸ ok25) else (have q : m = 26 := by omega
  q ▸ ok26))))) else (if q31 : m < 31 then (if q29 : m < 29 then (if q28 : m < 28 then (have q : m = 27 := by omega
  q ▸ ok27) else (have q : m = 28 := by omega
  q ▸ ok28)) else (if q30 : m < 30 then (have q : m = 29 := by omega
  q ▸ ok29) else (have q : m = 30 := by omega
  q ▸ ok30))) else (if q33 : m < 33 then (if q32 : m < 32 then (have q : m = 31 := by omega
  q ▸ ok31) else (have q : m = 32 := by omega
  q ▸ ok32)) else (if q34 : m < 34 then (have q : m = 33 := by omega
  q ▸ ok33) else (if q35 : m < 35 then (have q : m = 34 := by omega
  q ▸ ok34) else (have q : m = 35 := by omega
  q ▸ ok35))))))) else (if q54 : m < 54 then (if q45 : m < 45 then (if q40 : m < 40 then (if q38 : m < 38 then (if q37 : m < 37 then (have q : m = 36 := by omega
  q ▸ ok36) else (have q : m = 37 := by omega
  q ▸ ok37)) else (if q39 : m < 39 then (have q : m = 38 := by omega
  q ▸ ok38) else (have q : m = 39 := by omega
  q ▸ ok39))) else (if q42 : m < 42 then (if q41 : m < 41 then (have q : m = 40 := by omega
  q ▸ ok40) else (have q : m = 41 := by omega
  q ▸ ok41)) else (if q43 : m < 43 then (have q : m = 42 := by omega
  q ▸ ok42) else (if q44 : m < 44 then (have q : m = 43 := by omega
  q ▸ ok43) else (have q : m = 44 := by omega
  q ▸ ok44))))) else (if q49 : m < 49 then (if q47 : m < 47 then (if q46 : m < 46 then (have q : m = 45 := by omega
  q ▸ ok45) else (have q : m = 46 := by omega
  q ▸ ok46)) else (if q48 : m < 48 then (have q : m = 47 := by omega
  q ▸ ok47) else (have q : m = 48 := by omega
  q ▸ ok48))) else (if q51 : m < 51 then (if q50 : m < 50 then (have q : m = 49 := by omega
  q ▸ ok49) else (have q : m = 50 := by omega
  q ▸ ok50)) else (if q52 : m < 52 then (have q : m = 51 := by omega
  q ▸ ok51) else (if q53 : m < 53 then (have q : m = 52 := by omega
  q ▸ ok52) else (have q : m = 53 := by omega
  q ▸ ok53)))))) else (if q63 : m < 63 then (if q58 : m < 58 then (if q56 : m < 56 then (if q55 : m < 55 then (have q : m = 54 := by omega
  q ▸ ok54) else (have q : m = 55 := by omega
  q ▸ ok55)) else (if q57 : m < 57 then (have q : m = 56 := by omega
  q ▸ ok56) else (have q : m = 57 := by omega
  q ▸ ok57))) else (if q60 : m < 60 then (if q59 : m < 59 then (have q : m = 58 := by omega
  q ▸ ok58) else (have q : m = 59 := by omega
  q ▸ ok59)) else (if q61 : m < 61 then (have q : m = 60 := by omega
  q ▸ ok60) else (if q62 : m < 62 then (have q : m = 61 := by omega
  q ▸ ok61) else (have q : m = 62 := by omega
  q ▸ ok62))))) else (if q68 : m < 68 then (if q65 : m < 65 then (if q64 : m < 64 then (have q : m = 63 := by omega
  q ▸ ok63) else (have q : m = 64 := by omega
  q ▸ ok64)) else (if q66 : m < 66 then (have q : m = 65 := by omega
  q ▸ ok65) else (if q67 : m < 67 then (have q : m = 66 := by omega
  q ▸ ok66) else (have q : m = 67 := by omega
  q ▸ ok67)))) else (if q70 : m < 70 then (if q69 : m < 69 then (have q : m = 68 := by omega
  q ▸ ok68) else (have q : m = 69 := by omega
  q ▸ ok69)) else (if q71 : m < 71 then (have q : m = 70 := by omega
  q ▸ ok70) else (if q72 : m < 72 then (have q : m = 71 := by omega
  q ▸ ok71) else (have q : m = 72 := by omega
  q ▸ ok72)))))))) else (if q109 : m < 109 then (if q91 : m < 91 then (if q82 : m < 82 then (if q77 : m < 77 then (if q75 : m < 75 then (if q74 : m < 74 then (have q : m = 73 := by omega
  q ▸ ok73) else (have q : m = 74 := by omega
  q ▸ ok74)) else (if q76 : m < 76 then (have q : m = 75 := by omega
  q ▸ ok75) else (have q : m = 76 := by omega
  q ▸ ok76))) else (if q79 : m < 79 then (if q78 : m < 78 then (have q : m = 77 := by omega
  q ▸ ok77) else (have q : m = 78 := by omega
  q ▸ ok78)) else (if q80 : m < 80 then (have q : m = 79 := by omega
  q ▸ ok79) else (if q81 : m < 81 then (have q : m = 80 := by omega
  q ▸ ok80) else (have q : m = 81 := by omega
  q ▸ ok81))))) else (if q86 : m < 86 then (if q84 : m < 84 then (if q83 : m < 83 then (have q : m = 82 := by omega
  q ▸ ok82) else (have q : m = 83 := by omega
  q ▸ ok83)) else (if q85 : m < 85 then (have q : m = 84 := by omega
  q ▸ ok84) else (have q : m = 85 := by omega
  q ▸ ok85))) else (if q88 : m < 88 then (if q87 : m < 87 then (have q : m = 86 := by omega
  q ▸ ok86) else (have q : m = 87 := by omega
  q ▸ ok87)) else (if q89 : m < 89 then (have q : m = 88 := by omega
  q ▸ ok88) else (if q90 : m < 90 then (have q : m = 89 := by omega
  q ▸ ok89) else (have q : m = 90 := by omega
  q ▸ ok90)))))) else (if q100 : m < 100 then (if q95 : m < 95 then (if q93 : m < 93 then (if q92 : m < 92 then (have q : m = 91 := by omega
  q ▸ ok91) else (have q : m = 92 := by omega
  q ▸ ok92)) else (if q94 : m < 94 then (have q : m = 93 := by omega
  q ▸ ok93) else (have q : m = 94 := by omega
  q ▸ ok94))) else (if q97 : m < 97 then (if q96 : m < 96 then (have q : m = 95 := by omega
  q ▸ ok95) else (have q : m = 96 := by omega
  q ▸ ok96)) else (if q98 : m < 98 then (have q : m = 97 := by omega
  q ▸ ok97) else (if q99 : m < 99 then (have q : m = 98 := by omega
  q ▸ ok98) else (have q : m = 99 := by omega
  q ▸ ok99))))) else (if q104 : m < 104 then (if q102 : m < 102 then (if q101 : m < 101 then (have q : m = 100 := by omega
  q ▸ ok100) else (have q : m = 101 := by omega
  q ▸ ok101)) else (if q103 : m < 103 then (have q : m = 102 := by omega
  q ▸ ok102) else (have q : m = 103 := by omega
  q ▸ ok103))) else (if q106 : m < 106 then (if q105 : m < 105 then (have q : m = 104 := by omega
  q ▸ ok104) else (have q : m = 105 := by omega
  q ▸ ok105)) else (if q107 : m < 107 then (have q : m = 106 := by omega
  q ▸ ok106) else (if q108 : m < 108 then (have q : m = 107 := by omega
  q ▸ ok107) else (have q : m = 108 := by omega
  q ▸ ok108))))))) else (if q127 : m < 127 then (if q118 : m < 118 then (if q113 : m < 113 then (if q111 : m < 111 then (if q110 : m < 110 then (have q : m = 109 := by omega
  q ▸ ok109) else (have q : m = 110 := by omega
  q ▸ ok110)) else (if q112 : m < 112 then (have q : m = 111 := by omega
  q ▸ ok111) else (have q : m = 112 := by omega
  q ▸ ok112))) else (if q115 : m < 115 then (if q114 : m < 114 then (have q : m = 113 := by omega
  q ▸ ok113) else (have q : m = 114 := by omega
  q ▸ ok114)) else (if q116 : m < 116 then (have q : m = 115 := by omega
  q ▸ ok115) else (if q117 : m < 117 then (have q : m = 116 := by omega
  q ▸ ok116) else (have q : m = 117 := by omega
  q ▸ ok117))))) else (if q122 : m < 122 then (if q120 : m < 120 then (if q119 : m < 119 then (have q : m = 118 := by omega
  q ▸ ok118) else (have q : m = 119 := by omega
  q ▸ ok119)) else (if q121 : m < 121 then (have q : m = 120 := by omega
  q ▸ ok120) else (have q : m = 121 := by omega
  q ▸ ok121))) else (if q124 : m < 124 then (if q123 : m < 123 then (have q : m = 122 := by omega
  q ▸ ok122) else (have q : m = 123 := by omega
  q ▸ ok123)) else (if q125 : m < 125 then (have q : m = 124 := by omega
  q ▸ ok124) else (if q126 : m < 126 then (have q : m = 125 := by omega
  q ▸ ok125) else (have q : m = 126 := by omega
  q ▸ ok126)))))) else (if q136 : m < 136 then (if q131 : m < 131 then (if q129 : m < 129 then (if q128 : m < 128 then (have q : m = 127 := by omega
  q ▸ ok127) else (have q : m = 128 := by omega
  q ▸ ok128)) else (if q130 : m < 130 then (have q : m = 129 := by omega
  q ▸ ok129) else (have q : m = 130 := by omega
  q ▸ ok130))) else (if q133 : m < 133 then (if q132 : m < 132 then (have q : m = 131 := by omega
  q ▸ ok131) else (have q : m = 132 := by omega
  q ▸ ok132)) else (if q134 : m < 134 then (have q : m = 133 := by omega
  q ▸ ok133) else (if q135 : m < 135 then (have q : m = 134 := by omega
  q ▸ ok134) else (have q : m = 135 := by omega
  q ▸ ok135))))) else (if q141 : m < 141 then (if q138 : m < 138 then (if q137 : m < 137 then (have q : m = 136 := by omega
  q ▸ ok136) else (have q : m = 137 := by omega
  q ▸ ok137)) else (if q139 : m < 139 then (have q : m = 138 := by omega
  q ▸ ok138) else (if q140 : m < 140 then (have q : m = 139 := by omega
  q ▸ ok139) else (have q : m = 140 := by omega
  q ▸ ok140)))) else (if q143 : m < 143 then (if q142 : m < 142 then (have q : m = 141 := by omega
  q ▸ ok141) else (have q : m = 142 := by omega
  q ▸ ok142)) else (if q144 : m < 144 then (have q : m = 143 := by omega
  q ▸ ok143) else (if q145 : m < 145 then (have q : m = 144 := by omega
  q ▸ ok144) else (have q : m = 145 := by omega
  q ▸ ok145))))))))) else (if q219 : m < 219 then (if q182 : m < 182 then (if q164 : m < 164 then (if q155 : m < 155 then (if q150 : m < 150 then (if q148 : m < 148 then (if q147 : m < 147 then (have q : m = 146 := by omega
  q ▸ ok146) else (have q : m = 147 := by omega
  q ▸ ok147)) else (if q149 : m < 149 then (have q : m = 148 := by omega
  q ▸ ok148) else (have q : m = 149 := by omega
  q ▸ ok149))) else (if q152 : m < 152 then (if q151 : m < 151 then (have q : m = 150 := by omega
  q ▸ ok150) else (have q : m = 151 := by omega
  q ▸ ok151)) else (if q153 : m < 153 then (have q : m = 152 := by omega
  q ▸ ok152) else (if q154 : m < 154 then (have q : m = 153 := by omega
  q ▸ ok153) else (have q : m = 154 := by omega
  q ▸ ok154))))) else (if q159 : m < 159 then (if q157 : m < 157 then (if q156 : m < 156 then (have q : m = 155 := by omega
  q ▸ ok155) else (have q : m = 156 := by omega
  q ▸ ok156)) else (if q158 : m < 158 then (have q : m = 157 := by omega
  q ▸ ok157) else (have q : m = 158 := by omega
  q ▸ ok158))) else (if q161 : m < 161 then (if q160 : m < 160 then (have q : m = 159 := by omega
  q ▸ ok159) else (have q : m = 160 := by omega
  q ▸ ok160)) else (if q162 : m < 162 then (have q : m = 161 := by omega
  q ▸ ok161) else (if q163 : m < 163 then (have q : m = 162 := by omega
  q ▸ ok162) else (have q : m = 163 := by omega
  q ▸ ok163)))))) else (if q173 : m < 173 then (if q168 : m < 168 then (if q166 : m < 166 then (if q165 : m < 165 then (have q : m = 164 := by omega
  q ▸ ok164) else (have q : m = 165 := by omega
  q ▸ ok165)) else (if q167 : m < 167 then (have q : m = 166 := by omega
  q ▸ ok166) else (have q : m = 167 := by omega
  q ▸ ok167))) else (if q170 : m < 170 then (if q169 : m < 169 then (have q : m = 168 := by omega
  q ▸ ok168) else (have q : m = 169 := by omega
  q ▸ ok169)) else (if q171 : m < 171 then (have q : m = 170 := by omega
  q ▸ ok170) else (if q172 : m < 172 then (have q : m = 171 := by omega
  q ▸ ok171) else (have q : m = 172 := by omega
  q ▸ ok172))))) else (if q177 : m < 177 then (if q175 : m < 175 then (if q174 : m < 174 then (have q : m = 173 := by omega
  q ▸ ok173) else (have q : m = 174 := by omega
  q ▸ ok174)) else (if q176 : m < 176 then (have q : m = 175 := by omega
  q ▸ ok175) else (have q : m = 176 := by omega
  q ▸ ok176))) else (if q179 : m < 179 then (if q178 : m < 178 then (have q : m = 177 := by omega
  q ▸ ok177) else (have q : m = 178 := by omega
  q ▸ ok178)) else (if q180 : m < 180 then (have q : m = 179 := by omega
  q ▸ ok179) else (if q181 : m < 181 then (have q : m = 180 := by omega
  q ▸ ok180) else (have q : m = 181 := by omega
  q ▸ ok181))))))) else (if q200 : m < 200 then (if q191 : m < 191 then (if q186 : m < 186 then (if q184 : m < 184 then (if q183 : m < 183 then (have q : m = 182 := by omega
  q ▸ ok182) else (have q : m = 183 := by omega
  q ▸ ok183)) else (if q185 : m < 185 then (have q : m = 184 := by omega
  q ▸ ok184) else (have q : m = 185 := by omega
  q ▸ ok185))) else (if q188 : m < 188 then (if q187 : m < 187 then (have q : m = 186 := by omega
  q ▸ ok186) else (have q : m = 187 := by omega
  q ▸ ok187)) else (if q189 : m < 189 then (have q : m = 188 := by omega
  q ▸ ok188) else (if q190 : m < 190 then (have q : m = 189 := by omega
  q ▸ ok189) else (have q : m = 190 := by omega
  q ▸ ok190))))) else (if q195 : m < 195 then (if q193 : m < 193 then (if q192 : m < 192 then (have q : m = 191 := by omega
  q ▸ ok191) else (have q : m = 192 := by omega
  q ▸ ok192)) else (if q194 : m < 194 then (have q : m = 193 := by omega
  q ▸ ok193) else (have q : m = 194 := by omega
  q ▸ ok194))) else (if q197 : m < 197 then (if q196 : m < 196 then (have q : m = 195 := by omega
  q ▸ ok195) else (have q : m = 196 := by omega
  q ▸ ok196)) else (if q198 : m < 198 then (have q : m = 197 := by omega
  q ▸ ok197) else (if q199 : m < 199 then (have q : m = 198 := by omega
  q ▸ ok198) else (have q : m = 199 := by omega
  q ▸ ok199)))))) else (if q209 : m < 209 then (if q204 : m < 204 then (if q202 : m < 202 then (if q201 : m < 201 then (have q : m = 200 := by omega
  q ▸ ok200) else (have q : m = 201 := by omega
  q ▸ ok201)) else (if q203 : m < 203 then (have q : m = 202 := by omega
  q ▸ ok202) else (have q : m = 203 := by omega
  q ▸ ok203))) else (if q206 : m < 206 then (if q205 : m < 205 then (have q : m = 204 := by omega
  q ▸ ok204) else (have q : m = 205 := by omega
  q ▸ ok205)) else (if q207 : m < 207 then (have q : m = 206 := by omega
  q ▸ ok206) else (if q208 : m < 208 then (have q : m = 207 := by omega
  q ▸ ok207) else (have q : m = 208 := by omega
  q ▸ ok208))))) else (if q214 : m < 214 then (if q211 : m < 211 then (if q210 : m < 210 then (have q : m = 209 := by omega
  q ▸ ok209) else (have q : m = 210 := by omega
  q ▸ ok210)) else (if q212 : m < 212 then (have q : m = 211 := by omega
  q ▸ ok211) else (if q213 : m < 213 then (have q : m = 212 := by omega
  q ▸ ok212) else (have q : m = 213 := by omega
  q ▸ ok213)))) else (if q216 : m < 216 then (if q215 : m < 215 then (have q : m = 214 := by omega
  q ▸ ok214) else (have q : m = 215 := by omega
  q ▸ ok215)) else (if q217 : m < 217 then (have q : m = 216 := by omega
  q ▸ ok216) else (if q218 : m < 218 then (have q : m = 217 := by omega
  q ▸ ok217) else (have q : m = 218 := by omega
  q ▸ ok218)))))))) else (if q255 : m < 255 then (if q237 : m < 237 then (if q228 : m < 228 then (if q223 : m < 223 then (if q221 : m < 221 then (if q220 : m < 220 then (have q : m = 219 := by omega
  q ▸ ok219) else (have q : m = 220 := by omega
  q ▸ ok220)) else (if q222 : m < 222 then (have q : m = 221 := by omega
  q ▸ ok221) else (have q : m = 222 := by omega
  q ▸ ok222))) else (if q225 : m < 225 then (if q224 : m < 224 then (have q : m = 223 := by omega
  q ▸ ok223) else (have q : m = 224 := by omega
  q ▸ ok224)) else (if q226 : m < 226 then (have q : m = 225 := by omega
  q ▸ ok225) else (if q227 : m < 227 then (have q : m = 226 := by omega
  q ▸ ok226) else (have q : m = 227 := by omega
  q ▸ ok227))))) else (if q232 : m < 232 then (if q230 : m < 230 then (if q229 : m < 229 then (have q : m = 228 := by omega
  q ▸ ok228) else (have q : m = 229 := by omega
  q ▸ ok229)) else (if q231 : m < 231 then (have q : m = 230 := by omega
  q ▸ ok230) else (have q : m = 231 := by omega
  q ▸ ok231))) else (if q234 : m < 234 then (if q233 : m < 233 then (have q : m = 232 := by omega
  q ▸ ok232) else (have q : m = 233 := by omega
  q ▸ ok233)) else (if q235 : m < 235 then (have q : m = 234 := by omega
  q ▸ ok234) else (if q236 : m < 236 then (have q : m = 235 := by omega
  q ▸ ok235) else (have q : m = 236 := by omega
  q ▸ ok236)))))) else (if q246 : m < 246 then (if q241 : m < 241 then (if q239 : m < 239 then (if q238 : m < 238 then (have q : m = 237 := by omega
  q ▸ ok237) else (have q : m = 238 := by omega
  q ▸ ok238)) else (if q240 : m < 240 then (have q : m = 239 := by omega
  q ▸ ok239) else (have q : m = 240 := by omega
  q ▸ ok240))) else (if q243 : m < 243 then (if q242 : m < 242 then (have q : m = 241 := by omega
  q ▸ ok241) else (have q : m = 242 := by omega
  q ▸ ok242)) else (if q244 : m < 244 then (have q : m = 243 := by omega
  q ▸ ok243) else (if q245 : m < 245 then (have q : m = 244 := by omega
  q ▸ ok244) else (have q : m = 245 := by omega
  q ▸ ok245))))) else (if q250 : m < 250 then (if q248 : m < 248 then (if q247 : m < 247 then (have q : m = 246 := by omega
  q ▸ ok246) else (have q : m = 247 := by omega
  q ▸ ok247)) else (if q249 : m < 249 then (have q : m = 248 := by omega
  q ▸ ok248) else (have q : m = 249 := by omega
  q ▸ ok249))) else (if q252 : m < 252 then (if q251 : m < 251 then (have q : m = 250 := by omega
  q ▸ ok250) else (have q : m = 251 := by omega
  q ▸ ok251)) else (if q253 : m < 253 then (have q : m = 252 := by omega
  q ▸ ok252) else (if q254 : m < 254 then (have q : m = 253 := by omega
  q ▸ ok253) else (have q : m = 254 := by omega
  q ▸ ok254))))))) else (if q273 : m < 273 then (if q264 : m < 264 then (if q259 : m < 259 then (if q257 : m < 257 then (if q256 : m < 256 then (have q : m = 255 := by omega
  q ▸ ok255) else (have q : m = 256 := by omega
  q ▸ ok256)) else (if q258 : m < 258 then (have q : m = 257 := by omega
  q ▸ ok257) else (have q : m = 258 := by omega
  q ▸ ok258))) else (if q261 : m < 261 then (if q260 : m < 260 then (have q : m = 259 := by omega
  q ▸ ok259) else (have q : m = 260 := by omega
  q ▸ ok260)) else (if q262 : m < 262 then (have q : m = 261 := by omega
  q ▸ ok261) else (if q263 : m < 263 then (have q : m = 262 := by omega
  q ▸ ok262) else (have q : m = 263 := by omega
  q ▸ ok263))))) else (if q268 : m < 268 then (if q266 : m < 266 then (if q265 : m < 265 then (have q : m = 264 := by omega
  q ▸ ok264) else (have q : m = 265 := by omega
  q ▸ ok265)) else (if q267 : m < 267 then (have q : m = 266 := by omega
  q ▸ ok266) else (have q : m = 267 := by omega
  q ▸ ok267))) else (if q270 : m < 270 then (if q269 : m < 269 then (have q : m = 268 := by omega
  q ▸ ok268) else (have q : m = 269 := by omega
  q ▸ ok269)) else (if q271 : m < 271 then (have q : m = 270 := by omega
  q ▸ ok270) else (if q272 : m < 272 then (have q : m = 271 := by omega
  q ▸ ok271) else (have q : m = 272 := by omega
  q ▸ ok272)))))) else (if q282 : m < 282 then (if q277 : m < 277 then (if q275 : m < 275 then (if q274 : m < 274 then (have q : m = 273 := by omega
  q ▸ ok273) else (have q : m = 274 := by omega
  q ▸ ok274)) else (if q276 : m < 276 then (have q : m = 275 := by omega
  q ▸ ok275) else (have q : m = 276 := by omega
  q ▸ ok276))) else (if q279 : m < 279 then (if q278 : m < 278 then (have q : m = 277 := by omega
  q ▸ ok277) else (have q : m = 278 := by omega
  q ▸ ok278)) else (if q280 : m < 280 then (have q : m = 279 := by omega
  q ▸ ok279) else (if q281 : m < 281 then (have q : m = 280 := by omega
  q ▸ ok280) else (have q : m = 281 := by omega
  q ▸ ok281))))) else (if q287 : m < 287 then (if q284 : m < 284 then (if q283 : m < 283 then (have q : m = 282 := by omega
  q ▸ ok282) else (have q : m = 283 := by omega
  q ▸ ok283)) else (if q285 : m < 285 then (have q : m = 284 := by omega
  q ▸ ok284) else (if q286 : m < 286 then (have q : m = 285 := by omega
  q ▸ ok285) else (have q : m = 286 := by omega
  q ▸ ok286)))) else (if q289 : m < 289 then (if q288 : m < 288 then (have q : m = 287 := by omega
  q ▸ ok287) else (have q : m = 288 := by omega
  q ▸ ok288)) else (if q290 : m < 290 then (have q : m = 289 := by omega
  q ▸ ok289) else (if q291 : m < 291 then (have q : m = 290 := by omega
  q ▸ ok290) else (have q : m = 291 := by omega
  q ▸ ok291))))))))))
