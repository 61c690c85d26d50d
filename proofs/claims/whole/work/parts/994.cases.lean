/-! the law: its 37 cases, its loop -/
set_option maxRecDepth 100000 in
theorem lk_law_13 : ct_LkV R_law 13 m_X6_size 2 := ct_LkV_of 355 356 357 (by decide +kernel) (by decide +kernel) (by decide +kernel) (by decide +kernel)
set_option maxRecDepth 100000 in
theorem lk_law_17 : ct_LkV R_law 17 m_X7_size 2 := ct_LkV_of 1120 1121 1122 (by decide +kernel) (by decide +kernel) (by decide +kernel) (by decide +kernel)
set_option maxRecDepth 100000 in
theorem lk_law_18 : ct_LkV R_law 18 m_X6_height 2 := ct_LkV_of 363 364 365 (by decide +kernel) (by decide +kernel) (by decide +kernel) (by decide +kernel)
set_option maxRecDepth 100000 in
theorem lk_law_21 : ct_LkV R_law 21 m_X7_height 2 := ct_LkV_of 1127 1128 1129 (by decide +kernel) (by decide +kernel) (by decide +kernel) (by decide +kernel)
set_option maxRecDepth 100000 in
theorem lk_law_22 : ct_LkV R_law 22 m_X6_rule 1 := ct_LkV_of 379 380 381 (by decide +kernel) (by decide +kernel) (by decide +kernel) (by decide +kernel)
set_option maxRecDepth 100000 in
theorem lk_law_26 : ct_LkV R_law 26 m_X7_rule 1 := ct_LkV_of 1139 1140 1141 (by decide +kernel) (by decide +kernel) (by decide +kernel) (by decide +kernel)
set_option maxRecDepth 100000 in
theorem lk_law_27 : ct_LkV R_law 27 m_X6_feed 1 := ct_LkV_of 390 391 392 (by decide +kernel) (by decide +kernel) (by decide +kernel) (by decide +kernel)
set_option maxRecDepth 100000 in
theorem lk_law_30 : ct_LkV R_law 30 m_X7_feed 1 := ct_LkV_of 1143 1144 1145 (by decide +kernel) (by decide +kernel) (by decide +kernel) (by decide +kernel)
set_option maxRecDepth 100000 in
theorem lk_law_31 : ct_LkV R_law 31 m_X6_read 0 := ct_LkV_of 402 403 404 (by decide +kernel) (by decide +kernel) (by decide +kernel) (by decide +kernel)
set_option maxRecDepth 100000 in
theorem lk_law_35 : ct_LkV R_law 35 m_X7_read 0 := ct_LkV_of 1147 1148 1149 (by decide +kernel) (by decide +kernel) (by decide +kernel) (by decide +kernel)
set_option maxRecDepth 100000 in
theorem lk_law_36 : ct_LkV R_law 36 m_X6_of 1 := ct_LkV_of 534 535 536 (by decide +kernel) (by decide +kernel) (by decide +kernel) (by decide +kernel)
set_option maxRecDepth 100000 in
theorem lk_law_39 : ct_LkV R_law 39 m_X7_of 1 := ct_LkV_of 1210 1211 1212 (by decide +kernel) (by decide +kernel) (by decide +kernel) (by decide +kernel)
set_option maxRecDepth 100000 in
theorem lk_law_40 : ct_LkV R_law 40 m_X6_told 1 := ct_LkV_of 538 539 540 (by decide +kernel) (by decide +kernel) (by decide +kernel) (by decide +kernel)
set_option maxRecDepth 100000 in
theorem lk_law_43 : ct_LkV R_law 43 m_X7_told 1 := ct_LkV_of 1214 1215 1216 (by decide +kernel) (by decide +kernel) (by decide +kernel) (by decide +kernel)
set_option maxRecDepth 100000 in
theorem lk_law_44 : ct_LkV R_law 44 m_X6_at 2 := ct_LkV_of 613 614 615 (by decide +kernel) (by decide +kernel) (by decide +kernel) (by decide +kernel)
set_option maxRecDepth 100000 in
theorem lk_law_47 : ct_LkV R_law 47 m_X7_at 2 := ct_LkV_of 1305 1306 1307 (by decide +kernel) (by decide +kernel) (by decide +kernel) (by decide +kernel)
set_option maxRecDepth 100000 in
theorem lk_law_48 : ct_LkV R_law 48 m_X6_square 3 := ct_LkV_of 705 706 707 (by decide +kernel) (by decide +kernel) (by decide +kernel) (by decide +kernel)
set_option maxRecDepth 100000 in
theorem lk_law_52 : ct_LkV R_law 52 m_X7_square 3 := ct_LkV_of 1369 1370 1371 (by decide +kernel) (by decide +kernel) (by decide +kernel) (by decide +kernel)
set_option maxRecDepth 100000 in
theorem lk_law_53 : ct_LkV R_law 53 m_X6_edge 2 := ct_LkV_of 716 717 718 (by decide +kernel) (by decide +kernel) (by decide +kernel) (by decide +kernel)
set_option maxRecDepth 100000 in
theorem lk_law_56 : ct_LkV R_law 56 m_X7_edge 2 := ct_LkV_of 1373 1374 1375 (by decide +kernel) (by decide +kernel) (by decide +kernel) (by decide +kernel)
set_option maxRecDepth 100000 in
theorem lk_law_57 : ct_LkV R_law 57 m_X6_line 3 := ct_LkV_of 724 725 726 (by decide +kernel) (by decide +kernel) (by decide +kernel) (by decide +kernel)
set_option maxRecDepth 100000 in
theorem lk_law_60 : ct_LkV R_law 60 m_X7_line 3 := ct_LkV_of 1377 1378 1379 (by decide +kernel) (by decide +kernel) (by decide +kernel) (by decide +kernel)
set_option maxRecDepth 100000 in
theorem lk_law_61 : ct_LkV R_law 61 m_X6_goes 3 := ct_LkV_of 771 772 773 (by decide +kernel) (by decide +kernel) (by decide +kernel) (by decide +kernel)
set_option maxRecDepth 100000 in
theorem lk_law_64 : ct_LkV R_law 64 m_X7_goes 3 := ct_LkV_of 1413 1414 1415 (by decide +kernel) (by decide +kernel) (by decide +kernel) (by decide +kernel)
set_option maxRecDepth 100000 in
theorem lk_law_65 : ct_LkV R_law 65 m_X6_holds 3 := ct_LkV_of 776 777 778 (by decide +kernel) (by decide +kernel) (by decide +kernel) (by decide +kernel)
set_option maxRecDepth 100000 in
theorem lk_law_68 : ct_LkV R_law 68 m_X7_holds 3 := ct_LkV_of 1417 1418 1419 (by decide +kernel) (by decide +kernel) (by decide +kernel) (by decide +kernel)
set_option maxRecDepth 100000 in
theorem lk_law_69 : ct_LkV R_law 69 m_X6_ways 3 := ct_LkV_of 782 783 784 (by decide +kernel) (by decide +kernel) (by decide +kernel) (by decide +kernel)
set_option maxRecDepth 100000 in
theorem lk_law_72 : ct_LkV R_law 72 m_X7_ways 3 := ct_LkV_of 1421 1422 1423 (by decide +kernel) (by decide +kernel) (by decide +kernel) (by decide +kernel)
set_option maxRecDepth 100000 in
theorem lk_law_73 : ct_LkV R_law 73 m_X6_picture 2 := ct_LkV_of 787 788 789 (by decide +kernel) (by decide +kernel) (by decide +kernel) (by decide +kernel)
set_option maxRecDepth 100000 in
theorem lk_law_76 : ct_LkV R_law 76 m_X7_picture 2 := ct_LkV_of 1429 1430 1431 (by decide +kernel) (by decide +kernel) (by decide +kernel) (by decide +kernel)
set_option maxRecDepth 100000 in
theorem lk_law_77 : ct_LkV R_law 77 m_X6_land 2 := ct_LkV_of 791 792 793 (by decide +kernel) (by decide +kernel) (by decide +kernel) (by decide +kernel)
set_option maxRecDepth 100000 in
theorem lk_law_80 : ct_LkV R_law 80 m_X7_land 2 := ct_LkV_of 1433 1434 1435 (by decide +kernel) (by decide +kernel) (by decide +kernel) (by decide +kernel)
set_option maxRecDepth 100000 in
theorem lk_law_81 : ct_LkV R_law 81 m_X6_landOf 3 := ct_LkV_of 795 796 797 (by decide +kernel) (by decide +kernel) (by decide +kernel) (by decide +kernel)
set_option maxRecDepth 100000 in
theorem lk_law_84 : ct_LkV R_law 84 m_X7_landOf 3 := ct_LkV_of 1437 1438 1439 (by decide +kernel) (by decide +kernel) (by decide +kernel) (by decide +kernel)
set_option maxRecDepth 100000 in
theorem lk_law_85 : ct_LkV R_law 85 m_X6_pass 2 := ct_LkV_of 808 809 810 (by decide +kernel) (by decide +kernel) (by decide +kernel) (by decide +kernel)
set_option maxRecDepth 100000 in
theorem lk_law_88 : ct_LkV R_law 88 m_X7_pass 2 := ct_LkV_of 1465 1466 1467 (by decide +kernel) (by decide +kernel) (by decide +kernel) (by decide +kernel)
set_option maxRecDepth 100000 in
theorem lk_law_89 : ct_LkV R_law 89 m_X6_stands 1 := ct_LkV_of 813 814 815 (by decide +kernel) (by decide +kernel) (by decide +kernel) (by decide +kernel)
set_option maxRecDepth 100000 in
theorem lk_law_92 : ct_LkV R_law 92 m_X7_stands 1 := ct_LkV_of 1469 1470 1471 (by decide +kernel) (by decide +kernel) (by decide +kernel) (by decide +kernel)
set_option maxRecDepth 100000 in
theorem lk_law_93 : ct_LkV R_law 93 m_X6_tree 2 := ct_LkV_of 821 822 823 (by decide +kernel) (by decide +kernel) (by decide +kernel) (by decide +kernel)
set_option maxRecDepth 100000 in
theorem lk_law_96 : ct_LkV R_law 96 m_X7_tree 2 := ct_LkV_of 1477 1478 1479 (by decide +kernel) (by decide +kernel) (by decide +kernel) (by decide +kernel)
set_option maxRecDepth 100000 in
theorem lk_law_97 : ct_LkV R_law 97 m_X6_between 2 := ct_LkV_of 845 846 847 (by decide +kernel) (by decide +kernel) (by decide +kernel) (by decide +kernel)
set_option maxRecDepth 100000 in
theorem lk_law_100 : ct_LkV R_law 100 m_X7_between 2 := ct_LkV_of 1490 1491 1492 (by decide +kernel) (by decide +kernel) (by decide +kernel) (by decide +kernel)
set_option maxRecDepth 100000 in
theorem lk_law_101 : ct_LkV R_law 101 m_X6_see 2 := ct_LkV_of 850 851 852 (by decide +kernel) (by decide +kernel) (by decide +kernel) (by decide +kernel)
set_option maxRecDepth 100000 in
theorem lk_law_104 : ct_LkV R_law 104 m_X7_see 2 := ct_LkV_of 1494 1495 1496 (by decide +kernel) (by decide +kernel) (by decide +kernel) (by decide +kernel)
set_option maxRecDepth 100000 in
theorem lk_law_105 : ct_LkV R_law 105 m_X6_fits 1 := ct_LkV_of 866 867 868 (by decide +kernel) (by decide +kernel) (by decide +kernel) (by decide +kernel)
set_option maxRecDepth 100000 in
theorem lk_law_108 : ct_LkV R_law 108 m_X7_fits 1 := ct_LkV_of 1498 1499 1500 (by decide +kernel) (by decide +kernel) (by decide +kernel) (by decide +kernel)
set_option maxRecDepth 100000 in
theorem lk_law_109 : ct_LkV R_law 109 m_X6_odds 2 := ct_LkV_of 870 871 872 (by decide +kernel) (by decide +kernel) (by decide +kernel) (by decide +kernel)
set_option maxRecDepth 100000 in
theorem lk_law_113 : ct_LkV R_law 113 m_X7_odds 2 := ct_LkV_of 1506 1507 1508 (by decide +kernel) (by decide +kernel) (by decide +kernel) (by decide +kernel)
set_option maxRecDepth 100000 in
theorem lk_law_114 : ct_LkV R_law 114 m_X6_mean 1 := ct_LkV_of 881 882 883 (by decide +kernel) (by decide +kernel) (by decide +kernel) (by decide +kernel)
set_option maxRecDepth 100000 in
theorem lk_law_118 : ct_LkV R_law 118 m_X7_mean 1 := ct_LkV_of 1517 1518 1519 (by decide +kernel) (by decide +kernel) (by decide +kernel) (by decide +kernel)
set_option maxRecDepth 100000 in
theorem lk_law_119 : ct_LkV R_law 119 m_X6_event 2 := ct_LkV_of 885 886 887 (by decide +kernel) (by decide +kernel) (by decide +kernel) (by decide +kernel)
set_option maxRecDepth 100000 in
theorem lk_law_122 : ct_LkV R_law 122 m_X7_event 2 := ct_LkV_of 1521 1522 1523 (by decide +kernel) (by decide +kernel) (by decide +kernel) (by decide +kernel)
set_option maxRecDepth 100000 in
theorem lk_law_123 : ct_LkV R_law 123 m_X6_after 2 := ct_LkV_of 889 890 891 (by decide +kernel) (by decide +kernel) (by decide +kernel) (by decide +kernel)
set_option maxRecDepth 100000 in
theorem lk_law_126 : ct_LkV R_law 126 m_X7_after 2 := ct_LkV_of 1528 1529 1530 (by decide +kernel) (by decide +kernel) (by decide +kernel) (by decide +kernel)
set_option maxRecDepth 100000 in
theorem lk_law_127 : ct_LkV R_law 127 m_X6_book 2 := ct_LkV_of 912 913 914 (by decide +kernel) (by decide +kernel) (by decide +kernel) (by decide +kernel)
set_option maxRecDepth 100000 in
theorem lk_law_130 : ct_LkV R_law 130 m_X7_book 2 := ct_LkV_of 1536 1537 1538 (by decide +kernel) (by decide +kernel) (by decide +kernel) (by decide +kernel)
set_option maxRecDepth 100000 in
theorem lk_law_131 : ct_LkV R_law 131 m_X6_looked 0 := ct_LkV_of 916 917 918 (by decide +kernel) (by decide +kernel) (by decide +kernel) (by decide +kernel)
set_option maxRecDepth 100000 in
theorem lk_law_134 : ct_LkV R_law 134 m_X7_looked 0 := ct_LkV_of 1540 1541 1542 (by decide +kernel) (by decide +kernel) (by decide +kernel) (by decide +kernel)
set_option maxRecDepth 100000 in
theorem lk_law_135 : ct_LkV R_law 135 m_X6_judge 2 := ct_LkV_of 920 921 922 (by decide +kernel) (by decide +kernel) (by decide +kernel) (by decide +kernel)
set_option maxRecDepth 100000 in
theorem lk_law_138 : ct_LkV R_law 138 m_X7_judge 2 := ct_LkV_of 1544 1545 1546 (by decide +kernel) (by decide +kernel) (by decide +kernel) (by decide +kernel)
set_option maxRecDepth 100000 in
theorem lk_law_139 : ct_LkV R_law 139 m_X6_image 0 := ct_LkV_of 936 937 938 (by decide +kernel) (by decide +kernel) (by decide +kernel) (by decide +kernel)
set_option maxRecDepth 100000 in
theorem lk_law_142 : ct_LkV R_law 142 m_X7_image 0 := ct_LkV_of 1551 1552 1553 (by decide +kernel) (by decide +kernel) (by decide +kernel) (by decide +kernel)
set_option maxRecDepth 100000 in
theorem lk_law_143 : ct_LkV R_law 143 m_X6_undo 0 := ct_LkV_of 948 949 950 (by decide +kernel) (by decide +kernel) (by decide +kernel) (by decide +kernel)
set_option maxRecDepth 100000 in
theorem lk_law_146 : ct_LkV R_law 146 m_X7_undo 0 := ct_LkV_of 1563 1564 1565 (by decide +kernel) (by decide +kernel) (by decide +kernel) (by decide +kernel)
set_option maxRecDepth 100000 in
theorem lk_law_147 : ct_LkV R_law 147 m_X6_count 1 := ct_LkV_of 952 953 954 (by decide +kernel) (by decide +kernel) (by decide +kernel) (by decide +kernel)
set_option maxRecDepth 100000 in
theorem lk_law_150 : ct_LkV R_law 150 m_X7_count 1 := ct_LkV_of 1567 1568 1569 (by decide +kernel) (by decide +kernel) (by decide +kernel) (by decide +kernel)
set_option maxRecDepth 100000 in
theorem lk_law_151 : ct_LkV R_law 151 m_X6_tape 3 := ct_LkV_of 956 957 958 (by decide +kernel) (by decide +kernel) (by decide +kernel) (by decide +kernel)
set_option maxRecDepth 100000 in
theorem lk_law_154 : ct_LkV R_law 154 m_X7_tape 3 := ct_LkV_of 1571 1572 1573 (by decide +kernel) (by decide +kernel) (by decide +kernel) (by decide +kernel)
set_option maxRecDepth 100000 in
theorem lk_law_157 : ct_LkV R_law 157 m_X6_item 3 := ct_LkV_of 970 971 972 (by decide +kernel) (by decide +kernel) (by decide +kernel) (by decide +kernel)
set_option maxRecDepth 100000 in
theorem lk_law_161 : ct_LkV R_law 161 m_X7_item 3 := ct_LkV_of 1575 1576 1577 (by decide +kernel) (by decide +kernel) (by decide +kernel) (by decide +kernel)
set_option maxRecDepth 100000 in
theorem lk_law_162 : ct_LkV R_law 162 m_X6_peek 2 := ct_LkV_of 978 979 980 (by decide +kernel) (by decide +kernel) (by decide +kernel) (by decide +kernel)
set_option maxRecDepth 100000 in
theorem lk_law_165 : ct_LkV R_law 165 m_X7_peek 2 := ct_LkV_of 1582 1583 1584 (by decide +kernel) (by decide +kernel) (by decide +kernel) (by decide +kernel)
set_option maxRecDepth 100000 in
theorem lk_law_166 : ct_LkV R_law 166 m_X6_shift 5 := ct_LkV_of 982 983 984 (by decide +kernel) (by decide +kernel) (by decide +kernel) (by decide +kernel)
set_option maxRecDepth 100000 in
theorem lk_law_170 : ct_LkV R_law 170 m_X7_shift 5 := ct_LkV_of 1586 1587 1588 (by decide +kernel) (by decide +kernel) (by decide +kernel) (by decide +kernel)
section
variable {p : Program} {l : Launch} {e : Env} {s : State} {m : MethodId} {below : List Frame} {meth : Method} {c : Code} {A : Nat → Prop} {D : va_G} {cA : Nat → ClassId} {ad : Nat → Nat} {Q : State → Prop} {b L i hi wi : Nat} {B : Int} {xs : Nat → Int32} {h : ct_H}
abbrev la_K (p : Program) (l : Launch) (e : Env) (s : State) (m : MethodId) (below : List Frame) (meth : Method) (c : Code) (A : Nat → Prop) (D : va_G) (cA : Nat → ClassId) (ad : Nat → Nat) (Q : State → Prop) (b i : Nat) (B : Int) : Prop := ∀ (h2 : ct_H) (hi2 wi2 : Nat), INV G0 h2 hi2 wi2 (B + 7000) → la_V p l e s m below meth c A D cA ad Q b 1400 (la_ls i) [] h2
abbrev la_itm (pc : Nat) : Prop := decode code pc = .ok (.i2l, 1) ∧ decode code (pc + 1) = .ok (.bipush 32, 2) ∧ decode code (pc + 3) = .ok (.lshl, 1)
abbrev la_itn (pc : Nat) : Prop := decode code pc = .ok (.i2l, 1) ∧ decode code (pc + 1) = .ok (.ldc2_w 155, 3) ∧ decode code (pc + 4) = .ok (.land, 1) ∧ decode code (pc + 5) = .ok (.lor, 1)
theorem la_c155 : Cond.constantLong R_law 155 4294967295 ∈ ct_GW := ct_GW_of 1594 (by decide +kernel) (by decide +kernel)
def la_lv (xs : Nat → Int32) (i : Nat) : Int64 := ((Int32.ofInt (xs (i + 3)).toInt).toInt64 <<< ((Int32.ofInt 32).toInt64 &&& 63)) ||| ((Int32.ofInt (xs (i + 4)).toInt).toInt64 &&& 4294967295)
theorem la_its (C : la_C p s m b c A D cA ad) (X : la_X s A ad b L xs) (hi6 : i + 6 ≤ L) {pc : Nat} {st : List ct_PV} (r1 : la_row pc ((1 : Nat) : Int)) (r2 : la_row (pc + 5) ((2 : Nat) : Int)) (r3 : la_row (pc + 10) ((3 : Nat) : Int)) (r4 : la_itm (pc + 15)) (r5 : la_row (pc + 19) ((4 : Nat) : Int)) (r6 : la_itn (pc + 24)) (kk : la_V p l e s m below meth c A D cA ad Q b (pc + 30) (la_ls i) ([.inl (xs (i + 1)).toInt, .inl (xs (i + 2)).toInt, .inr (.inl (la_lv xs i))].reverse ++ st) h) : la_V p l e s m below meth c A D cA ad Q b pc (la_ls i) st h := by
  refine la_arg C X (k := 1) r1 (by omega) (by omega) ?_
  refine la_arg C X (k := 2) r2 (by omega) (by omega) ?_
  refine la_arg C X (k := 3) r3 (by omega) (by omega) ?_
  refine ct_st1_ok C (q := (pc + 15, .i2l, 1, 0)) r4.1 rfl trivial rfl ?_
  refine ct_st1_ok C (q := (pc + 16, .bipush 32, 2, 0)) r4.2.1 rfl trivial rfl ?_
  refine ct_st1_ok C (q := (pc + 18, .lshl, 1, 0)) r4.2.2 rfl trivial rfl ?_
  refine la_arg C X (k := 4) r5 (by omega) (by omega) ?_
  refine ct_st1_ok C (q := (pc + 24, .i2l, 1, 0)) r6.1 rfl trivial rfl ?_
  refine ct_Vldc2 C la_c155 r6.2.1 ?_
  refine ct_st1_ok C (q := (pc + 28, .land, 1, 0)) r6.2.2.1 rfl trivial rfl ?_
  refine ct_st1_ok C (q := (pc + 29, .lor, 1, 0)) r6.2.2.2 rfl trivial rfl ?_
  exact kk
theorem la_item (C : la_C p s m b c A D cA ad) (X : la_X s A ad b L xs) (gs : GS G0) (hi6 : i + 6 ≤ L) (hB : B ≤ 2000000000) (inv : INV G0 h hi wi B) (kk : la_K p l e s m below meth c A D cA ad Q b i B) : la_V p l e s m below meth c A D cA ad Q b 1230 (la_ls i) [] h := by
  obtain ⟨r, h1, h2, e1, e2, hi2, wi2, inv2⟩ := s_item gs inv (xs (i + 1)).toInt (xs (i + 2)).toInt (la_lv xs i)
  have d1 : decode code 1230 = .ok (.aload_n 1, 1) := by decide +kernel
  have d2 : decode code 1261 = .ok (.invokevirtual 157, 3) := by decide +kernel
  have d3 : decode code 1264 = .ok (.aload_n 2, 1) := by decide +kernel
  have d4 : decode code 1295 = .ok (.invokevirtual 161, 3) := by decide +kernel
  refine ct_st1_ok C (q := (1230, .aload_n 1, 1, 0)) d1 rfl trivial rfl ?_
  refine la_its C X hi6 (pc := 1231) (by decide +kernel) (by decide +kernel) (by decide +kernel) (by decide +kernel) (by decide +kernel) (by decide +kernel) ?_
  refine la_call C ok_X6_item lk_law_157 (e_X6_item (d := 28) 0 _ _ _) e1 d2 rfl (by omega) rfl (by show 1 + (1 + (1 + (2 + 0))) ≤ 5; omega) (by decide) ?_
  refine ct_st1_ok C (q := (1264, .aload_n 2, 1, 0)) d3 rfl trivial rfl ?_
  refine la_its C X hi6 (pc := 1265) (by decide +kernel) (by decide +kernel) (by decide +kernel) (by decide +kernel) (by decide +kernel) (by decide +kernel) ?_
  refine la_call C ok_X7_item lk_law_161 (e_X7_item (d := 27) 73 _ _ _) e2 d4 rfl (by omega) rfl (by show 1 + (1 + (1 + (2 + 0))) ≤ 5; omega) (by show 1 + 0 ≤ 8; omega) ?_
  exact la_endI C (off := 102) (by decide +kernel) (kk h2 hi2 wi2 inv2)
theorem cs_0 (C : la_C p s m b c A D cA ad) (X : la_X s A ad b L xs) (gs : GS G0) (hi6 : i + 6 ≤ L) (hB : B ≤ 2000000000) (inv : INV G0 h hi wi B) (kk : la_K p l e s m below meth c A D cA ad Q b i B) : la_V p l e s m below meth c A D cA ad Q b 196 (la_ls i) [] h := by
  obtain ⟨r, h1, h2, e1, e2, hi2, wi2, inv2⟩ := s_size gs inv hB (xs (i + 1)).toInt (xs (i + 2)).toInt
  refine la_both C X hi6 (t := 196) (n := 2) (i1 := 13) (i2 := 17) (by decide +kernel) (by omega) (as := [.inl (xs (i + 1)).toInt, .inl (xs (i + 2)).toInt]) (a1 := (r, h1)) (a2 := (r, h2)) (r1 := .inl r) (r2 := .inl r) rfl ok_X6_size lk_law_13 (e_X6_size (d := 26) 0 (xs (i + 1)).toInt (xs (i + 2)).toInt) e1 rfl rfl rfl (Nat.le_of_ble_eq_true rfl) ok_X7_size lk_law_17 (e_X7_size (d := 28) 73 (xs (i + 1)).toInt (xs (i + 2)).toInt) e2 rfl rfl (Nat.le_of_ble_eq_true rfl) (by show 1 ≤ 2; omega) ?_
  exact la_endI C (off := 1176) (by decide +kernel) (kk h2 hi2 wi2 inv2)
theorem cs_1 (C : la_C p s m b c A D cA ad) (X : la_X s A ad b L xs) (gs : GS G0) (hi6 : i + 6 ≤ L) (hB : B ≤ 2000000000) (inv : INV G0 h hi wi B) (kk : la_K p l e s m below meth c A D cA ad Q b i B) : la_V p l e s m below meth c A D cA ad Q b 229 (la_ls i) [] h := by
  obtain ⟨r, h1, h2, e1, e2, hi2, wi2, inv2⟩ := s_height gs inv hB (xs (i + 1)).toInt (xs (i + 2)).toInt
  refine la_both C X hi6 (t := 229) (n := 2) (i1 := 18) (i2 := 21) (by decide +kernel) (by omega) (as := [.inl (xs (i + 1)).toInt, .inl (xs (i + 2)).toInt]) (a1 := (r, h1)) (a2 := (r, h2)) (r1 := .inl r) (r2 := .inl r) rfl ok_X6_height lk_law_18 (e_X6_height (d := 27) 0 (xs (i + 1)).toInt (xs (i + 2)).toInt) e1 rfl rfl rfl (Nat.le_of_ble_eq_true rfl) ok_X7_height lk_law_21 (e_X7_height (d := 27) 73 (xs (i + 1)).toInt (xs (i + 2)).toInt) e2 rfl rfl (Nat.le_of_ble_eq_true rfl) (by show 1 ≤ 2; omega) ?_
  exact la_endI C (off := 1143) (by decide +kernel) (kk h2 hi2 wi2 inv2)
theorem cs_2 (C : la_C p s m b c A D cA ad) (X : la_X s A ad b L xs) (gs : GS G0) (hi6 : i + 6 ≤ L) (hB : B ≤ 2000000000) (inv : INV G0 h hi wi B) (kk : la_K p l e s m below meth c A D cA ad Q b i B) : la_V p l e s m below meth c A D cA ad Q b 262 (la_ls i) [] h := by
  obtain ⟨r, h1, h2, e1, e2, hi2, wi2, inv2⟩ := s_rule gs inv hB (xs (i + 1)).toInt
  refine la_both C X hi6 (t := 262) (n := 1) (i1 := 22) (i2 := 26) (by decide +kernel) (by omega) (as := [.inl (xs (i + 1)).toInt]) (a1 := (r, h1)) (a2 := (r, h2)) (r1 := .inl r) (r2 := .inl r) rfl ok_X6_rule lk_law_22 (e_X6_rule (d := 28) 0 (xs (i + 1)).toInt) e1 rfl rfl rfl (Nat.le_of_ble_eq_true rfl) ok_X7_rule lk_law_26 (e_X7_rule (d := 28) 73 (xs (i + 1)).toInt) e2 rfl rfl (Nat.le_of_ble_eq_true rfl) (by show 1 ≤ 2; omega) ?_
  exact la_endI C (off := 1120) (by decide +kernel) (kk h2 hi2 wi2 inv2)
theorem cs_3 (C : la_C p s m b c A D cA ad) (X : la_X s A ad b L xs) (gs : GS G0) (hi6 : i + 6 ≤ L) (hB : B ≤ 2000000000) (inv : INV G0 h hi wi B) (kk : la_K p l e s m below meth c A D cA ad Q b i B) : la_V p l e s m below meth c A D cA ad Q b 285 (la_ls i) [] h := by
  obtain ⟨r, h1, h2, e1, e2, hi2, wi2, inv2⟩ := s_feed gs inv (xs (i + 1)).toInt
  refine la_both C X hi6 (t := 285) (n := 1) (i1 := 27) (i2 := 30) (by decide +kernel) (by omega) (as := [.inl (xs (i + 1)).toInt]) (a1 := (r, h1)) (a2 := (r, h2)) (r1 := .inl r) (r2 := .inl r) rfl ok_X6_feed lk_law_27 (e_X6_feed (d := 28) 0 (xs (i + 1)).toInt) e1 rfl rfl rfl (Nat.le_of_ble_eq_true rfl) ok_X7_feed lk_law_30 (e_X7_feed (d := 28) 73 (xs (i + 1)).toInt) e2 rfl rfl (Nat.le_of_ble_eq_true rfl) (by show 1 ≤ 2; omega) ?_
  exact la_endI C (off := 1097) (by decide +kernel) (kk h2 hi2 wi2 inv2)
theorem cs_4 (C : la_C p s m b c A D cA ad) (X : la_X s A ad b L xs) (gs : GS G0) (hi6 : i + 6 ≤ L) (hB : B ≤ 2000000000) (inv : INV G0 h hi wi B) (kk : la_K p l e s m below meth c A D cA ad Q b i B) : la_V p l e s m below meth c A D cA ad Q b 308 (la_ls i) [] h := by
  obtain ⟨r, h1, h2, e1, e2, hi2, wi2, inv2⟩ := s_read gs inv hB 
  refine la_both C X hi6 (t := 308) (n := 0) (i1 := 31) (i2 := 35) (by decide +kernel) (by omega) (as := []) (a1 := (r, h1)) (a2 := (r, h2)) (r1 := .inl r) (r2 := .inl r) rfl ok_X6_read lk_law_31 (e_X6_read (d := 23) 0 ) e1 rfl rfl rfl (Nat.le_of_ble_eq_true rfl) ok_X7_read lk_law_35 (e_X7_read (d := 22) 73 ) e2 rfl rfl (Nat.le_of_ble_eq_true rfl) (by show 1 ≤ 2; omega) ?_
  exact la_endI C (off := 1084) (by decide +kernel) (kk h2 hi2 wi2 inv2)
theorem cs_5 (C : la_C p s m b c A D cA ad) (X : la_X s A ad b L xs) (gs : GS G0) (hi6 : i + 6 ≤ L) (hB : B ≤ 2000000000) (inv : INV G0 h hi wi B) (kk : la_K p l e s m below meth c A D cA ad Q b i B) : la_V p l e s m below meth c A D cA ad Q b 321 (la_ls i) [] h := by
  obtain ⟨r, e1, e2⟩ := s_of gs inv (xs (i + 1)).toInt
  refine la_both C X hi6 (t := 321) (n := 1) (i1 := 36) (i2 := 39) (by decide +kernel) (by omega) (as := [.inl (xs (i + 1)).toInt]) (a1 := r) (a2 := r) (r1 := .inl r) (r2 := .inl r) rfl ok_X6_of lk_law_36 (e_X6_of (d := 27) 0 (xs (i + 1)).toInt) e1 rfl rfl rfl (Nat.le_of_ble_eq_true rfl) ok_X7_of lk_law_39 (e_X7_of (d := 27) 73 (xs (i + 1)).toInt) e2 rfl rfl (Nat.le_of_ble_eq_true rfl) (by show 1 ≤ 2; omega) ?_
  exact la_endI C (off := 1061) (by decide +kernel) (kk h hi wi (inv.up (by omega)))
theorem cs_6 (C : la_C p s m b c A D cA ad) (X : la_X s A ad b L xs) (gs : GS G0) (hi6 : i + 6 ≤ L) (hB : B ≤ 2000000000) (inv : INV G0 h hi wi B) (kk : la_K p l e s m below meth c A D cA ad Q b i B) : la_V p l e s m below meth c A D cA ad Q b 344 (la_ls i) [] h := by
  obtain ⟨r, h1, h2, e1, e2, hi2, wi2, inv2⟩ := s_told gs inv (xs (i + 1)).toInt
  refine la_both C X hi6 (t := 344) (n := 1) (i1 := 40) (i2 := 43) (by decide +kernel) (by omega) (as := [.inl (xs (i + 1)).toInt]) (a1 := (r, h1)) (a2 := (r, h2)) (r1 := .inl r) (r2 := .inl r) rfl ok_X6_told lk_law_40 (e_X6_told (d := 23) 0 (xs (i + 1)).toInt) e1 rfl rfl rfl (Nat.le_of_ble_eq_true rfl) ok_X7_told lk_law_43 (e_X7_told (d := 21) 73 (xs (i + 1)).toInt) e2 rfl rfl (Nat.le_of_ble_eq_true rfl) (by show 1 ≤ 2; omega) ?_
  exact la_endI C (off := 1038) (by decide +kernel) (kk h2 hi2 wi2 (inv2.up (by omega)))
theorem cs_7 (C : la_C p s m b c A D cA ad) (X : la_X s A ad b L xs) (gs : GS G0) (hi6 : i + 6 ≤ L) (hB : B ≤ 2000000000) (inv : INV G0 h hi wi B) (kk : la_K p l e s m below meth c A D cA ad Q b i B) : la_V p l e s m below meth c A D cA ad Q b 367 (la_ls i) [] h := by
  obtain ⟨r, h1, h2, e1, e2, hi2, wi2, inv2⟩ := s_at gs inv (xs (i + 1)).toInt (xs (i + 2)).toInt
  refine la_both C X hi6 (t := 367) (n := 2) (i1 := 44) (i2 := 47) (by decide +kernel) (by omega) (as := [.inl (xs (i + 1)).toInt, .inl (xs (i + 2)).toInt]) (a1 := (r, h1)) (a2 := (r, h2)) (r1 := .inl r) (r2 := .inl r) rfl ok_X6_at lk_law_44 (e_X6_at (d := 23) 0 (xs (i + 1)).toInt (xs (i + 2)).toInt) e1 rfl rfl rfl (Nat.le_of_ble_eq_true rfl) ok_X7_at lk_law_47 (e_X7_at (d := 22) 73 (xs (i + 1)).toInt (xs (i + 2)).toInt) e2 rfl rfl (Nat.le_of_ble_eq_true rfl) (by show 1 ≤ 2; omega) ?_
  exact la_endI C (off := 1005) (by decide +kernel) (kk h2 hi2 wi2 (inv2.up (by omega)))
theorem cs_8 (C : la_C p s m b c A D cA ad) (X : la_X s A ad b L xs) (gs : GS G0) (hi6 : i + 6 ≤ L) (hB : B ≤ 2000000000) (inv : INV G0 h hi wi B) (kk : la_K p l e s m below meth c A D cA ad Q b i B) : la_V p l e s m below meth c A D cA ad Q b 400 (la_ls i) [] h := by
  obtain ⟨r, e1, e2⟩ := s_square gs inv (xs (i + 1)).toInt (xs (i + 2)).toInt (xs (i + 3)).toInt
  refine la_both C X hi6 (t := 400) (n := 3) (i1 := 48) (i2 := 52) (by decide +kernel) (by omega) (as := [.inl (xs (i + 1)).toInt, .inl (xs (i + 2)).toInt, .inl (xs (i + 3)).toInt]) (a1 := r) (a2 := r) (r1 := .inl r) (r2 := .inl r) rfl ok_X6_square lk_law_48 (e_X6_square (d := 27) 0 (xs (i + 1)).toInt (xs (i + 2)).toInt (xs (i + 3)).toInt) e1 rfl rfl rfl (Nat.le_of_ble_eq_true rfl) ok_X7_square lk_law_52 (e_X7_square (d := 25) 73 (xs (i + 1)).toInt (xs (i + 2)).toInt (xs (i + 3)).toInt) e2 rfl rfl (Nat.le_of_ble_eq_true rfl) (by show 1 ≤ 2; omega) ?_
  exact la_endI C (off := 962) (by decide +kernel) (kk h hi wi (inv.up (by omega)))
theorem cs_9 (C : la_C p s m b c A D cA ad) (X : la_X s A ad b L xs) (gs : GS G0) (hi6 : i + 6 ≤ L) (hB : B ≤ 2000000000) (inv : INV G0 h hi wi B) (kk : la_K p l e s m below meth c A D cA ad Q b i B) : la_V p l e s m below meth c A D cA ad Q b 443 (la_ls i) [] h := by
  obtain ⟨r, h1, h2, e1, e2, hi2, wi2, inv2⟩ := s_edge gs inv (xs (i + 1)).toInt (xs (i + 2)).toInt
  refine la_both C X hi6 (t := 443) (n := 2) (i1 := 53) (i2 := 56) (by decide +kernel) (by omega) (as := [.inl (xs (i + 1)).toInt, .inl (xs (i + 2)).toInt]) (a1 := (r, h1)) (a2 := (r, h2)) (r1 := .inl r) (r2 := .inl r) rfl ok_X6_edge lk_law_53 (e_X6_edge (d := 24) 0 (xs (i + 1)).toInt (xs (i + 2)).toInt) e1 rfl rfl rfl (Nat.le_of_ble_eq_true rfl) ok_X7_edge lk_law_56 (e_X7_edge (d := 23) 73 (xs (i + 1)).toInt (xs (i + 2)).toInt) e2 rfl rfl (Nat.le_of_ble_eq_true rfl) (by show 1 ≤ 2; omega) ?_
  exact la_endI C (off := 929) (by decide +kernel) (kk h2 hi2 wi2 (inv2.up (by omega)))
theorem cs_10 (C : la_C p s m b c A D cA ad) (X : la_X s A ad b L xs) (gs : GS G0) (hi6 : i + 6 ≤ L) (hB : B ≤ 2000000000) (inv : INV G0 h hi wi B) (kk : la_K p l e s m below meth c A D cA ad Q b i B) : la_V p l e s m below meth c A D cA ad Q b 476 (la_ls i) [] h := by
  obtain ⟨r, h1, h2, e1, e2, hi2, wi2, inv2⟩ := s_line gs inv (xs (i + 1)).toInt (xs (i + 2)).toInt (xs (i + 3)).toInt
  refine la_both C X hi6 (t := 476) (n := 3) (i1 := 57) (i2 := 60) (by decide +kernel) (by omega) (as := [.inl (xs (i + 1)).toInt, .inl (xs (i + 2)).toInt, .inl (xs (i + 3)).toInt]) (a1 := (r, h1)) (a2 := (r, h2)) (r1 := .inl r) (r2 := .inl r) rfl ok_X6_line lk_law_57 (e_X6_line (d := 24) 0 (xs (i + 1)).toInt (xs (i + 2)).toInt (xs (i + 3)).toInt) e1 rfl rfl rfl (Nat.le_of_ble_eq_true rfl) ok_X7_line lk_law_60 (e_X7_line (d := 22) 73 (xs (i + 1)).toInt (xs (i + 2)).toInt (xs (i + 3)).toInt) e2 rfl rfl (Nat.le_of_ble_eq_true rfl) (by show 1 ≤ 2; omega) ?_
  exact la_endI C (off := 886) (by decide +kernel) (kk h2 hi2 wi2 (inv2.up (by omega)))
theorem cs_11 (C : la_C p s m b c A D cA ad) (X : la_X s A ad b L xs) (gs : GS G0) (hi6 : i + 6 ≤ L) (hB : B ≤ 2000000000) (inv : INV G0 h hi wi B) (kk : la_K p l e s m below meth c A D cA ad Q b i B) : la_V p l e s m below meth c A D cA ad Q b 519 (la_ls i) [] h := by
  obtain ⟨r, h1, h2, e1, e2, hi2, wi2, inv2⟩ := s_goes gs inv (xs (i + 1)).toInt (xs (i + 2)).toInt (xs (i + 3)).toInt
  refine la_both C X hi6 (t := 519) (n := 3) (i1 := 61) (i2 := 64) (by decide +kernel) (by omega) (as := [.inl (xs (i + 1)).toInt, .inl (xs (i + 2)).toInt, .inl (xs (i + 3)).toInt]) (a1 := (r, h1)) (a2 := (r, h2)) (r1 := .inl r) (r2 := .inl r) rfl ok_X6_goes lk_law_61 (e_X6_goes (d := 24) 0 (xs (i + 1)).toInt (xs (i + 2)).toInt (xs (i + 3)).toInt) e1 rfl rfl rfl (Nat.le_of_ble_eq_true rfl) ok_X7_goes lk_law_64 (e_X7_goes (d := 22) 73 (xs (i + 1)).toInt (xs (i + 2)).toInt (xs (i + 3)).toInt) e2 rfl rfl (Nat.le_of_ble_eq_true rfl) (by show 1 ≤ 2; omega) ?_
  exact la_endI C (off := 843) (by decide +kernel) (kk h2 hi2 wi2 (inv2.up (by omega)))
theorem cs_12 (C : la_C p s m b c A D cA ad) (X : la_X s A ad b L xs) (gs : GS G0) (hi6 : i + 6 ≤ L) (hB : B ≤ 2000000000) (inv : INV G0 h hi wi B) (kk : la_K p l e s m below meth c A D cA ad Q b i B) : la_V p l e s m below meth c A D cA ad Q b 562 (la_ls i) [] h := by
  obtain ⟨r, h1, h2, e1, e2, hi2, wi2, inv2⟩ := s_holds gs inv (xs (i + 1)).toInt (xs (i + 2)).toInt (xs (i + 3)).toInt
  refine la_both C X hi6 (t := 562) (n := 3) (i1 := 65) (i2 := 68) (by decide +kernel) (by omega) (as := [.inl (xs (i + 1)).toInt, .inl (xs (i + 2)).toInt, .inl (xs (i + 3)).toInt]) (a1 := (r, h1)) (a2 := (r, h2)) (r1 := .inl r) (r2 := .inl r) rfl ok_X6_holds lk_law_65 (e_X6_holds (d := 24) 0 (xs (i + 1)).toInt (xs (i + 2)).toInt (xs (i + 3)).toInt) e1 rfl rfl rfl (Nat.le_of_ble_eq_true rfl) ok_X7_holds lk_law_68 (e_X7_holds (d := 22) 73 (xs (i + 1)).toInt (xs (i + 2)).toInt (xs (i + 3)).toInt) e2 rfl rfl (Nat.le_of_ble_eq_true rfl) (by show 1 ≤ 2; omega) ?_
  exact la_endI C (off := 800) (by decide +kernel) (kk h2 hi2 wi2 (inv2.up (by omega)))
theorem cs_13 (C : la_C p s m b c A D cA ad) (X : la_X s A ad b L xs) (gs : GS G0) (hi6 : i + 6 ≤ L) (hB : B ≤ 2000000000) (inv : INV G0 h hi wi B) (kk : la_K p l e s m below meth c A D cA ad Q b i B) : la_V p l e s m below meth c A D cA ad Q b 605 (la_ls i) [] h := by
  obtain ⟨r, h1, h2, e1, e2, hi2, wi2, inv2⟩ := s_ways gs inv (xs (i + 1)).toInt (xs (i + 2)).toInt (xs (i + 3)).toInt
  refine la_both C X hi6 (t := 605) (n := 3) (i1 := 69) (i2 := 72) (by decide +kernel) (by omega) (as := [.inl (xs (i + 1)).toInt, .inl (xs (i + 2)).toInt, .inl (xs (i + 3)).toInt]) (a1 := (r, h1)) (a2 := (r, h2)) (r1 := .inl r) (r2 := .inl r) rfl ok_X6_ways lk_law_69 (e_X6_ways (d := 24) 0 (xs (i + 1)).toInt (xs (i + 2)).toInt (xs (i + 3)).toInt) e1 rfl rfl rfl (Nat.le_of_ble_eq_true rfl) ok_X7_ways lk_law_72 (e_X7_ways (d := 22) 73 (xs (i + 1)).toInt (xs (i + 2)).toInt (xs (i + 3)).toInt) e2 rfl rfl (Nat.le_of_ble_eq_true rfl) (by show 1 ≤ 2; omega) ?_
  exact la_endI C (off := 757) (by decide +kernel) (kk h2 hi2 wi2 (inv2.up (by omega)))
theorem cs_14 (C : la_C p s m b c A D cA ad) (X : la_X s A ad b L xs) (gs : GS G0) (hi6 : i + 6 ≤ L) (hB : B ≤ 2000000000) (inv : INV G0 h hi wi B) (kk : la_K p l e s m below meth c A D cA ad Q b i B) : la_V p l e s m below meth c A D cA ad Q b 648 (la_ls i) [] h := by
  obtain ⟨r, e1, e2⟩ := s_picture gs inv (xs (i + 1)).toInt (xs (i + 2)).toInt
  refine la_both C X hi6 (t := 648) (n := 2) (i1 := 73) (i2 := 76) (by decide +kernel) (by omega) (as := [.inl (xs (i + 1)).toInt, .inl (xs (i + 2)).toInt]) (a1 := r) (a2 := r) (r1 := .inl r) (r2 := .inl r) rfl ok_X6_picture lk_law_73 (e_X6_picture (d := 27) 0 (xs (i + 1)).toInt (xs (i + 2)).toInt) e1 rfl rfl rfl (Nat.le_of_ble_eq_true rfl) ok_X7_picture lk_law_76 (e_X7_picture (d := 27) 73 (xs (i + 1)).toInt (xs (i + 2)).toInt) e2 rfl rfl (Nat.le_of_ble_eq_true rfl) (by show 1 ≤ 2; omega) ?_
  exact la_endI C (off := 724) (by decide +kernel) (kk h hi wi (inv.up (by omega)))
theorem cs_15 (C : la_C p s m b c A D cA ad) (X : la_X s A ad b L xs) (gs : GS G0) (hi6 : i + 6 ≤ L) (hB : B ≤ 2000000000) (inv : INV G0 h hi wi B) (kk : la_K p l e s m below meth c A D cA ad Q b i B) : la_V p l e s m below meth c A D cA ad Q b 681 (la_ls i) [] h := by
  obtain ⟨r, h1, h2, e1, e2, hi2, wi2, inv2⟩ := s_land gs inv (xs (i + 1)).toInt (xs (i + 2)).toInt
  refine la_both C X hi6 (t := 681) (n := 2) (i1 := 77) (i2 := 80) (by decide +kernel) (by omega) (as := [.inl (xs (i + 1)).toInt, .inl (xs (i + 2)).toInt]) (a1 := (r, h1)) (a2 := (r, h2)) (r1 := .inl r) (r2 := .inl r) rfl ok_X6_land lk_law_77 (e_X6_land (d := 25) 0 (xs (i + 1)).toInt (xs (i + 2)).toInt) e1 rfl rfl rfl (Nat.le_of_ble_eq_true rfl) ok_X7_land lk_law_80 (e_X7_land (d := 23) 73 (xs (i + 1)).toInt (xs (i + 2)).toInt) e2 rfl rfl (Nat.le_of_ble_eq_true rfl) (by show 1 ≤ 2; omega) ?_
  exact la_endI C (off := 691) (by decide +kernel) (kk h2 hi2 wi2 (inv2.up (by omega)))
theorem cs_16 (C : la_C p s m b c A D cA ad) (X : la_X s A ad b L xs) (gs : GS G0) (hi6 : i + 6 ≤ L) (hB : B ≤ 2000000000) (inv : INV G0 h hi wi B) (kk : la_K p l e s m below meth c A D cA ad Q b i B) : la_V p l e s m below meth c A D cA ad Q b 714 (la_ls i) [] h := by
  obtain ⟨r, h1, h2, e1, e2, hi2, wi2, inv2⟩ := s_landOf gs inv (xs (i + 1)).toInt (xs (i + 2)).toInt (xs (i + 3)).toInt
  refine la_both C X hi6 (t := 714) (n := 3) (i1 := 81) (i2 := 84) (by decide +kernel) (by omega) (as := [.inl (xs (i + 1)).toInt, .inl (xs (i + 2)).toInt, .inl (xs (i + 3)).toInt]) (a1 := (r, h1)) (a2 := (r, h2)) (r1 := .inl r) (r2 := .inl r) rfl ok_X6_landOf lk_law_81 (e_X6_landOf (d := 23) 0 (xs (i + 1)).toInt (xs (i + 2)).toInt (xs (i + 3)).toInt) e1 rfl rfl rfl (Nat.le_of_ble_eq_true rfl) ok_X7_landOf lk_law_84 (e_X7_landOf (d := 22) 73 (xs (i + 1)).toInt (xs (i + 2)).toInt (xs (i + 3)).toInt) e2 rfl rfl (Nat.le_of_ble_eq_true rfl) (by show 1 ≤ 2; omega) ?_
  exact la_endI C (off := 648) (by decide +kernel) (kk h2 hi2 wi2 (inv2.up (by omega)))
theorem cs_17 (C : la_C p s m b c A D cA ad) (X : la_X s A ad b L xs) (gs : GS G0) (hi6 : i + 6 ≤ L) (hB : B ≤ 2000000000) (inv : INV G0 h hi wi B) (kk : la_K p l e s m below meth c A D cA ad Q b i B) : la_V p l e s m below meth c A D cA ad Q b 757 (la_ls i) [] h := by
  obtain ⟨r, h1, h2, e1, e2, hi2, wi2, inv2⟩ := s_pass gs inv (xs (i + 1)).toInt (xs (i + 2)).toInt
  refine la_both C X hi6 (t := 757) (n := 2) (i1 := 85) (i2 := 88) (by decide +kernel) (by omega) (as := [.inl (xs (i + 1)).toInt, .inl (xs (i + 2)).toInt]) (a1 := (r, h1)) (a2 := (r, h2)) (r1 := .inl r) (r2 := .inl r) rfl ok_X6_pass lk_law_85 (e_X6_pass (d := 25) 0 (xs (i + 1)).toInt (xs (i + 2)).toInt) e1 rfl rfl rfl (Nat.le_of_ble_eq_true rfl) ok_X7_pass lk_law_88 (e_X7_pass (d := 23) 73 (xs (i + 1)).toInt (xs (i + 2)).toInt) e2 rfl rfl (Nat.le_of_ble_eq_true rfl) (by show 1 ≤ 2; omega) ?_
  exact la_endI C (off := 615) (by decide +kernel) (kk h2 hi2 wi2 (inv2.up (by omega)))
theorem cs_18 (C : la_C p s m b c A D cA ad) (X : la_X s A ad b L xs) (gs : GS G0) (hi6 : i + 6 ≤ L) (hB : B ≤ 2000000000) (inv : INV G0 h hi wi B) (kk : la_K p l e s m below meth c A D cA ad Q b i B) : la_V p l e s m below meth c A D cA ad Q b 790 (la_ls i) [] h := by
  obtain ⟨r, h1, h2, e1, e2, hi2, wi2, inv2⟩ := s_stands gs inv (xs (i + 1)).toInt
  refine la_both C X hi6 (t := 790) (n := 1) (i1 := 89) (i2 := 92) (by decide +kernel) (by omega) (as := [.inl (xs (i + 1)).toInt]) (a1 := (r, h1)) (a2 := (r, h2)) (r1 := .inl r) (r2 := .inl r) rfl ok_X6_stands lk_law_89 (e_X6_stands (d := 25) 0 (xs (i + 1)).toInt) e1 rfl rfl rfl (Nat.le_of_ble_eq_true rfl) ok_X7_stands lk_law_92 (e_X7_stands (d := 23) 73 (xs (i + 1)).toInt) e2 rfl rfl (Nat.le_of_ble_eq_true rfl) (by show 1 ≤ 2; omega) ?_
  exact la_endI C (off := 592) (by decide +kernel) (kk h2 hi2 wi2 (inv2.up (by omega)))
theorem cs_19 (C : la_C p s m b c A D cA ad) (X : la_X s A ad b L xs) (gs : GS G0) (hi6 : i + 6 ≤ L) (hB : B ≤ 2000000000) (inv : INV G0 h hi wi B) (kk : la_K p l e s m below meth c A D cA ad Q b i B) : la_V p l e s m below meth c A D cA ad Q b 813 (la_ls i) [] h := by
  obtain ⟨r, h1, h2, e1, e2, hi2, wi2, inv2⟩ := s_tree gs inv (xs (i + 1)).toInt (xs (i + 2)).toInt
  refine la_both C X hi6 (t := 813) (n := 2) (i1 := 93) (i2 := 96) (by decide +kernel) (by omega) (as := [.inl (xs (i + 1)).toInt, .inl (xs (i + 2)).toInt]) (a1 := (r, h1)) (a2 := (r, h2)) (r1 := .inl r) (r2 := .inl r) rfl ok_X6_tree lk_law_93 (e_X6_tree (d := 24) 0 (xs (i + 1)).toInt (xs (i + 2)).toInt) e1 rfl rfl rfl (Nat.le_of_ble_eq_true rfl) ok_X7_tree lk_law_96 (e_X7_tree (d := 23) 73 (xs (i + 1)).toInt (xs (i + 2)).toInt) e2 rfl rfl (Nat.le_of_ble_eq_true rfl) (by show 1 ≤ 2; omega) ?_
  exact la_endI C (off := 559) (by decide +kernel) (kk h2 hi2 wi2 (inv2.up (by omega)))
theorem cs_20 (C : la_C p s m b c A D cA ad) (X : la_X s A ad b L xs) (gs : GS G0) (hi6 : i + 6 ≤ L) (hB : B ≤ 2000000000) (inv : INV G0 h hi wi B) (kk : la_K p l e s m below meth c A D cA ad Q b i B) : la_V p l e s m below meth c A D cA ad Q b 846 (la_ls i) [] h := by
  obtain ⟨r, e1, e2⟩ := s_between gs inv (xs (i + 1)).toInt (xs (i + 2)).toInt
  refine la_both C X hi6 (t := 846) (n := 2) (i1 := 97) (i2 := 100) (by decide +kernel) (by omega) (as := [.inl (xs (i + 1)).toInt, .inl (xs (i + 2)).toInt]) (a1 := r) (a2 := r) (r1 := .inl r) (r2 := .inl r) rfl ok_X6_between lk_law_97 (e_X6_between (d := 26) 0 (xs (i + 1)).toInt (xs (i + 2)).toInt) e1 rfl rfl rfl (Nat.le_of_ble_eq_true rfl) ok_X7_between lk_law_100 (e_X7_between (d := 26) 73 (xs (i + 1)).toInt (xs (i + 2)).toInt) e2 rfl rfl (Nat.le_of_ble_eq_true rfl) (by show 1 ≤ 2; omega) ?_
  exact la_endI C (off := 526) (by decide +kernel) (kk h hi wi (inv.up (by omega)))
theorem cs_21 (C : la_C p s m b c A D cA ad) (X : la_X s A ad b L xs) (gs : GS G0) (hi6 : i + 6 ≤ L) (hB : B ≤ 2000000000) (inv : INV G0 h hi wi B) (kk : la_K p l e s m below meth c A D cA ad Q b i B) : la_V p l e s m below meth c A D cA ad Q b 879 (la_ls i) [] h := by
  obtain ⟨r, h1, h2, e1, e2, hi2, wi2, inv2⟩ := s_see gs inv (xs (i + 1)).toInt (xs (i + 2)).toInt
  refine la_both C X hi6 (t := 879) (n := 2) (i1 := 101) (i2 := 104) (by decide +kernel) (by omega) (as := [.inl (xs (i + 1)).toInt, .inl (xs (i + 2)).toInt]) (a1 := (r, h1)) (a2 := (r, h2)) (r1 := .inl r) (r2 := .inl r) rfl ok_X6_see lk_law_101 (e_X6_see (d := 27) 0 (xs (i + 1)).toInt (xs (i + 2)).toInt) e1 rfl rfl rfl (Nat.le_of_ble_eq_true rfl) ok_X7_see lk_law_104 (e_X7_see (d := 27) 73 (xs (i + 1)).toInt (xs (i + 2)).toInt) e2 rfl rfl (Nat.le_of_ble_eq_true rfl) (by show 1 ≤ 2; omega) ?_
  exact la_endI C (off := 493) (by decide +kernel) (kk h2 hi2 wi2 inv2)
theorem cs_22 (C : la_C p s m b c A D cA ad) (X : la_X s A ad b L xs) (gs : GS G0) (hi6 : i + 6 ≤ L) (hB : B ≤ 2000000000) (inv : INV G0 h hi wi B) (kk : la_K p l e s m below meth c A D cA ad Q b i B) : la_V p l e s m below meth c A D cA ad Q b 912 (la_ls i) [] h := by
  obtain ⟨r, e1, e2⟩ := s_fits gs inv (xs (i + 1)).toInt
  refine la_both C X hi6 (t := 912) (n := 1) (i1 := 105) (i2 := 108) (by decide +kernel) (by omega) (as := [.inl (xs (i + 1)).toInt]) (a1 := r) (a2 := r) (r1 := .inl r) (r2 := .inl r) rfl ok_X6_fits lk_law_105 (e_X6_fits (d := 27) 0 (xs (i + 1)).toInt) e1 rfl rfl rfl (Nat.le_of_ble_eq_true rfl) ok_X7_fits lk_law_108 (e_X7_fits (d := 26) 73 (xs (i + 1)).toInt) e2 rfl rfl (Nat.le_of_ble_eq_true rfl) (by show 1 ≤ 2; omega) ?_
  exact la_endI C (off := 470) (by decide +kernel) (kk h hi wi (inv.up (by omega)))
theorem cs_23 (C : la_C p s m b c A D cA ad) (X : la_X s A ad b L xs) (gs : GS G0) (hi6 : i + 6 ≤ L) (hB : B ≤ 2000000000) (inv : INV G0 h hi wi B) (kk : la_K p l e s m below meth c A D cA ad Q b i B) : la_V p l e s m below meth c A D cA ad Q b 935 (la_ls i) [] h := by
  obtain ⟨r, e1, e2⟩ := s_odds gs inv (xs (i + 1)).toInt (xs (i + 2)).toInt
  refine la_both C X hi6 (t := 935) (n := 2) (i1 := 109) (i2 := 113) (by decide +kernel) (by omega) (as := [.inl (xs (i + 1)).toInt, .inl (xs (i + 2)).toInt]) (a1 := r) (a2 := r) (r1 := .inr (.inl r)) (r2 := .inr (.inl r)) rfl ok_X6_odds lk_law_109 (e_X6_odds (d := 27) 0 (xs (i + 1)).toInt (xs (i + 2)).toInt) e1 rfl rfl rfl (Nat.le_of_ble_eq_true rfl) ok_X7_odds lk_law_113 (e_X7_odds (d := 7) 73 (xs (i + 1)).toInt (xs (i + 2)).toInt) e2 rfl rfl (Nat.le_of_ble_eq_true rfl) (by show 2 ≤ 2; omega) ?_
  exact la_endL C (off := 436) (by decide +kernel) (kk h hi wi (inv.up (by omega)))
theorem cs_24 (C : la_C p s m b c A D cA ad) (X : la_X s A ad b L xs) (gs : GS G0) (hi6 : i + 6 ≤ L) (hB : B ≤ 2000000000) (inv : INV G0 h hi wi B) (kk : la_K p l e s m below meth c A D cA ad Q b i B) : la_V p l e s m below meth c A D cA ad Q b 969 (la_ls i) [] h := by
  obtain ⟨r, h1, h2, e1, e2, hi2, wi2, inv2⟩ := s_mean gs inv (xs (i + 1)).toInt
  refine la_both C X hi6 (t := 969) (n := 1) (i1 := 114) (i2 := 118) (by decide +kernel) (by omega) (as := [.inl (xs (i + 1)).toInt]) (a1 := (r, h1)) (a2 := (r, h2)) (r1 := .inr (.inl r)) (r2 := .inr (.inl r)) rfl ok_X6_mean lk_law_114 (e_X6_mean (d := 23) 0 (xs (i + 1)).toInt) e1 rfl rfl rfl (Nat.le_of_ble_eq_true rfl) ok_X7_mean lk_law_118 (e_X7_mean (d := 7) 73 (xs (i + 1)).toInt) e2 rfl rfl (Nat.le_of_ble_eq_true rfl) (by show 2 ≤ 2; omega) ?_
  exact la_endL C (off := 412) (by decide +kernel) (kk h2 hi2 wi2 (inv2.up (by omega)))
theorem cs_25 (C : la_C p s m b c A D cA ad) (X : la_X s A ad b L xs) (gs : GS G0) (hi6 : i + 6 ≤ L) (hB : B ≤ 2000000000) (inv : INV G0 h hi wi B) (kk : la_K p l e s m below meth c A D cA ad Q b i B) : la_V p l e s m below meth c A D cA ad Q b 993 (la_ls i) [] h := by
  obtain ⟨r, h1, h2, e1, e2, hi2, wi2, inv2⟩ := s_event gs inv (xs (i + 1)).toInt (xs (i + 2)).toInt
  refine la_both C X hi6 (t := 993) (n := 2) (i1 := 119) (i2 := 122) (by decide +kernel) (by omega) (as := [.inl (xs (i + 1)).toInt, .inl (xs (i + 2)).toInt]) (a1 := (r, h1)) (a2 := (r, h2)) (r1 := .inl r) (r2 := .inl r) rfl ok_X6_event lk_law_119 (e_X6_event (d := 27) 0 (xs (i + 1)).toInt (xs (i + 2)).toInt) e1 rfl rfl rfl (Nat.le_of_ble_eq_true rfl) ok_X7_event lk_law_122 (e_X7_event (d := 27) 73 (xs (i + 1)).toInt (xs (i + 2)).toInt) e2 rfl rfl (Nat.le_of_ble_eq_true rfl) (by show 1 ≤ 2; omega) ?_
  exact la_endI C (off := 379) (by decide +kernel) (kk h2 hi2 wi2 inv2)
theorem cs_26 (C : la_C p s m b c A D cA ad) (X : la_X s A ad b L xs) (gs : GS G0) (hi6 : i + 6 ≤ L) (hB : B ≤ 2000000000) (inv : INV G0 h hi wi B) (kk : la_K p l e s m below meth c A D cA ad Q b i B) : la_V p l e s m below meth c A D cA ad Q b 1026 (la_ls i) [] h := by
  obtain ⟨r, h1, h2, e1, e2, hi2, wi2, inv2⟩ := s_after gs inv hB (xs (i + 1)).toInt (xs (i + 2)).toInt
  refine la_both C X hi6 (t := 1026) (n := 2) (i1 := 123) (i2 := 126) (by decide +kernel) (by omega) (as := [.inl (xs (i + 1)).toInt, .inl (xs (i + 2)).toInt]) (a1 := (r, h1)) (a2 := (r, h2)) (r1 := .inl r) (r2 := .inl r) rfl ok_X6_after lk_law_123 (e_X6_after (d := 24) 0 (xs (i + 1)).toInt (xs (i + 2)).toInt) e1 rfl rfl rfl (Nat.le_of_ble_eq_true rfl) ok_X7_after lk_law_126 (e_X7_after (d := 23) 73 (xs (i + 1)).toInt (xs (i + 2)).toInt) e2 rfl rfl (Nat.le_of_ble_eq_true rfl) (by show 1 ≤ 2; omega) ?_
  exact la_endI C (off := 346) (by decide +kernel) (kk h2 hi2 wi2 inv2)
theorem cs_27 (C : la_C p s m b c A D cA ad) (X : la_X s A ad b L xs) (gs : GS G0) (hi6 : i + 6 ≤ L) (hB : B ≤ 2000000000) (inv : INV G0 h hi wi B) (kk : la_K p l e s m below meth c A D cA ad Q b i B) : la_V p l e s m below meth c A D cA ad Q b 1059 (la_ls i) [] h := by
  obtain ⟨r, h1, h2, e1, e2, hi2, wi2, inv2⟩ := s_book gs inv (xs (i + 1)).toInt (xs (i + 2)).toInt
  refine la_both C X hi6 (t := 1059) (n := 2) (i1 := 127) (i2 := 130) (by decide +kernel) (by omega) (as := [.inl (xs (i + 1)).toInt, .inl (xs (i + 2)).toInt]) (a1 := (r, h1)) (a2 := (r, h2)) (r1 := .inl r) (r2 := .inl r) rfl ok_X6_book lk_law_127 (e_X6_book (d := 27) 0 (xs (i + 1)).toInt (xs (i + 2)).toInt) e1 rfl rfl rfl (Nat.le_of_ble_eq_true rfl) ok_X7_book lk_law_130 (e_X7_book (d := 27) 73 (xs (i + 1)).toInt (xs (i + 2)).toInt) e2 rfl rfl (Nat.le_of_ble_eq_true rfl) (by show 1 ≤ 2; omega) ?_
  exact la_endI C (off := 313) (by decide +kernel) (kk h2 hi2 wi2 inv2)
theorem cs_28 (C : la_C p s m b c A D cA ad) (X : la_X s A ad b L xs) (gs : GS G0) (hi6 : i + 6 ≤ L) (hB : B ≤ 2000000000) (inv : INV G0 h hi wi B) (kk : la_K p l e s m below meth c A D cA ad Q b i B) : la_V p l e s m below meth c A D cA ad Q b 1092 (la_ls i) [] h := by
  obtain ⟨r, e1, e2⟩ := s_looked gs inv 
  refine la_both C X hi6 (t := 1092) (n := 0) (i1 := 131) (i2 := 134) (by decide +kernel) (by omega) (as := []) (a1 := r) (a2 := r) (r1 := .inl r) (r2 := .inl r) rfl ok_X6_looked lk_law_131 (e_X6_looked (d := 27) 0 ) e1 rfl rfl rfl (Nat.le_of_ble_eq_true rfl) ok_X7_looked lk_law_134 (e_X7_looked (d := 27) 73 ) e2 rfl rfl (Nat.le_of_ble_eq_true rfl) (by show 1 ≤ 2; omega) ?_
  exact la_endI C (off := 300) (by decide +kernel) (kk h hi wi (inv.up (by omega)))
theorem cs_29 (C : la_C p s m b c A D cA ad) (X : la_X s A ad b L xs) (gs : GS G0) (hi6 : i + 6 ≤ L) (hB : B ≤ 2000000000) (inv : INV G0 h hi wi B) (kk : la_K p l e s m below meth c A D cA ad Q b i B) : la_V p l e s m below meth c A D cA ad Q b 1105 (la_ls i) [] h := by
  obtain ⟨r, e1, e2⟩ := s_judge gs inv (xs (i + 1)).toInt (xs (i + 2)).toInt (Int32.le_toInt _) (Int32.toInt_lt _)
  refine la_both C X hi6 (t := 1105) (n := 2) (i1 := 135) (i2 := 138) (by decide +kernel) (by omega) (as := [.inl (xs (i + 1)).toInt, .inl (xs (i + 2)).toInt]) (a1 := r) (a2 := r) (r1 := .inl r) (r2 := .inl r) rfl ok_X6_judge lk_law_135 (e_X6_judge (d := 27) 0 (xs (i + 1)).toInt (xs (i + 2)).toInt) e1 rfl rfl rfl (Nat.le_of_ble_eq_true rfl) ok_X7_judge lk_law_138 (e_X7_judge (d := 27) 73 (xs (i + 1)).toInt (xs (i + 2)).toInt) e2 rfl rfl (Nat.le_of_ble_eq_true rfl) (by show 1 ≤ 2; omega) ?_
  exact la_endI C (off := 267) (by decide +kernel) (kk h hi wi (inv.up (by omega)))
theorem cs_30 (C : la_C p s m b c A D cA ad) (X : la_X s A ad b L xs) (gs : GS G0) (hi6 : i + 6 ≤ L) (hB : B ≤ 2000000000) (inv : INV G0 h hi wi B) (kk : la_K p l e s m below meth c A D cA ad Q b i B) : la_V p l e s m below meth c A D cA ad Q b 1138 (la_ls i) [] h := by
  obtain ⟨r, h1, h2, e1, e2, hi2, wi2, inv2⟩ := s_image gs inv hB 
  refine la_both C X hi6 (t := 1138) (n := 0) (i1 := 139) (i2 := 142) (by decide +kernel) (by omega) (as := []) (a1 := (r, h1)) (a2 := (r, h2)) (r1 := .inl r) (r2 := .inl r) rfl ok_X6_image lk_law_139 (e_X6_image (d := 25) 0 ) e1 rfl rfl rfl (Nat.le_of_ble_eq_true rfl) ok_X7_image lk_law_142 (e_X7_image (d := 27) 73 ) e2 rfl rfl (Nat.le_of_ble_eq_true rfl) (by show 1 ≤ 2; omega) ?_
  exact la_endI C (off := 254) (by decide +kernel) (kk h2 hi2 wi2 inv2)
theorem cs_31 (C : la_C p s m b c A D cA ad) (X : la_X s A ad b L xs) (gs : GS G0) (hi6 : i + 6 ≤ L) (hB : B ≤ 2000000000) (inv : INV G0 h hi wi B) (kk : la_K p l e s m below meth c A D cA ad Q b i B) : la_V p l e s m below meth c A D cA ad Q b 1151 (la_ls i) [] h := by
  obtain ⟨r, h1, h2, e1, e2, hi2, wi2, inv2⟩ := s_undo gs inv hB 
  refine la_both C X hi6 (t := 1151) (n := 0) (i1 := 143) (i2 := 146) (by decide +kernel) (by omega) (as := []) (a1 := (r, h1)) (a2 := (r, h2)) (r1 := .inl r) (r2 := .inl r) rfl ok_X6_undo lk_law_143 (e_X6_undo (d := 25) 0 ) e1 rfl rfl rfl (Nat.le_of_ble_eq_true rfl) ok_X7_undo lk_law_146 (e_X7_undo (d := 27) 73 ) e2 rfl rfl (Nat.le_of_ble_eq_true rfl) (by show 1 ≤ 2; omega) ?_
  exact la_endI C (off := 241) (by decide +kernel) (kk h2 hi2 wi2 inv2)
theorem cs_32 (C : la_C p s m b c A D cA ad) (X : la_X s A ad b L xs) (gs : GS G0) (hi6 : i + 6 ≤ L) (hB : B ≤ 2000000000) (inv : INV G0 h hi wi B) (kk : la_K p l e s m below meth c A D cA ad Q b i B) : la_V p l e s m below meth c A D cA ad Q b 1164 (la_ls i) [] h := by
  obtain ⟨r, e1, e2⟩ := s_count gs inv (xs (i + 1)).toInt
  refine la_both C X hi6 (t := 1164) (n := 1) (i1 := 147) (i2 := 150) (by decide +kernel) (by omega) (as := [.inl (xs (i + 1)).toInt]) (a1 := r) (a2 := r) (r1 := .inl r) (r2 := .inl r) rfl ok_X6_count lk_law_147 (e_X6_count (d := 29) 0 (xs (i + 1)).toInt) e1 rfl rfl rfl (Nat.le_of_ble_eq_true rfl) ok_X7_count lk_law_150 (e_X7_count (d := 29) 73 (xs (i + 1)).toInt) e2 rfl rfl (Nat.le_of_ble_eq_true rfl) (by show 1 ≤ 2; omega) ?_
  exact la_endI C (off := 218) (by decide +kernel) (kk h hi wi (inv.up (by omega)))
theorem cs_33 (C : la_C p s m b c A D cA ad) (X : la_X s A ad b L xs) (gs : GS G0) (hi6 : i + 6 ≤ L) (hB : B ≤ 2000000000) (inv : INV G0 h hi wi B) (kk : la_K p l e s m below meth c A D cA ad Q b i B) : la_V p l e s m below meth c A D cA ad Q b 1187 (la_ls i) [] h := by
  obtain ⟨r, h1, h2, e1, e2, hi2, wi2, inv2⟩ := s_tape gs inv (xs (i + 1)).toInt (xs (i + 2)).toInt (xs (i + 3)).toInt
  refine la_both C X hi6 (t := 1187) (n := 3) (i1 := 151) (i2 := 154) (by decide +kernel) (by omega) (as := [.inl (xs (i + 1)).toInt, .inl (xs (i + 2)).toInt, .inl (xs (i + 3)).toInt]) (a1 := (r, h1)) (a2 := (r, h2)) (r1 := .inl r) (r2 := .inl r) rfl ok_X6_tape lk_law_151 (e_X6_tape (d := 27) 0 (xs (i + 1)).toInt (xs (i + 2)).toInt (xs (i + 3)).toInt) e1 rfl rfl rfl (Nat.le_of_ble_eq_true rfl) ok_X7_tape lk_law_154 (e_X7_tape (d := 27) 73 (xs (i + 1)).toInt (xs (i + 2)).toInt (xs (i + 3)).toInt) e2 rfl rfl (Nat.le_of_ble_eq_true rfl) (by show 1 ≤ 2; omega) ?_
  exact la_endI C (off := 175) (by decide +kernel) (kk h2 hi2 wi2 inv2)
theorem cs_34 (C : la_C p s m b c A D cA ad) (X : la_X s A ad b L xs) (gs : GS G0) (hi6 : i + 6 ≤ L) (hB : B ≤ 2000000000) (inv : INV G0 h hi wi B) (kk : la_K p l e s m below meth c A D cA ad Q b i B) : la_V p l e s m below meth c A D cA ad Q b 1230 (la_ls i) [] h := by
  exact la_item C X gs hi6 hB inv kk
theorem cs_35 (C : la_C p s m b c A D cA ad) (X : la_X s A ad b L xs) (gs : GS G0) (hi6 : i + 6 ≤ L) (hB : B ≤ 2000000000) (inv : INV G0 h hi wi B) (kk : la_K p l e s m below meth c A D cA ad Q b i B) : la_V p l e s m below meth c A D cA ad Q b 1303 (la_ls i) [] h := by
  obtain ⟨r, e1, e2⟩ := s_peek gs inv (xs (i + 1)).toInt (xs (i + 2)).toInt
  refine la_both C X hi6 (t := 1303) (n := 2) (i1 := 162) (i2 := 165) (by decide +kernel) (by omega) (as := [.inl (xs (i + 1)).toInt, .inl (xs (i + 2)).toInt]) (a1 := r) (a2 := r) (r1 := .inr (.inl r)) (r2 := .inr (.inl r)) rfl ok_X6_peek lk_law_162 (e_X6_peek (d := 28) 0 (xs (i + 1)).toInt (xs (i + 2)).toInt) e1 rfl rfl rfl (Nat.le_of_ble_eq_true rfl) ok_X7_peek lk_law_165 (e_X7_peek (d := 27) 73 (xs (i + 1)).toInt (xs (i + 2)).toInt) e2 rfl rfl (Nat.le_of_ble_eq_true rfl) (by show 2 ≤ 2; omega) ?_
  exact la_endL C (off := 68) (by decide +kernel) (kk h hi wi (inv.up (by omega)))
theorem cs_36 (C : la_C p s m b c A D cA ad) (X : la_X s A ad b L xs) (gs : GS G0) (hi6 : i + 6 ≤ L) (hB : B ≤ 2000000000) (inv : INV G0 h hi wi B) (kk : la_K p l e s m below meth c A D cA ad Q b i B) : la_V p l e s m below meth c A D cA ad Q b 1337 (la_ls i) [] h := by
  obtain ⟨r, h1, h2, e1, e2, hi2, wi2, inv2⟩ := s_shift gs inv (xs (i + 1)).toInt (xs (i + 2)).toInt (xs (i + 3)).toInt (xs (i + 4)).toInt (xs (i + 5)).toInt (Int32.toInt_lt _)
  refine la_both C X hi6 (t := 1337) (n := 5) (i1 := 166) (i2 := 170) (by decide +kernel) (by omega) (as := [.inl (xs (i + 1)).toInt, .inl (xs (i + 2)).toInt, .inl (xs (i + 3)).toInt, .inl (xs (i + 4)).toInt, .inl (xs (i + 5)).toInt]) (a1 := (r, h1)) (a2 := (r, h2)) (r1 := .inl r) (r2 := .inl r) rfl ok_X6_shift lk_law_166 (e_X6_shift (d := 28) 0 (xs (i + 1)).toInt (xs (i + 2)).toInt (xs (i + 3)).toInt (xs (i + 4)).toInt (xs (i + 5)).toInt) e1 rfl rfl rfl (Nat.le_of_ble_eq_true rfl) ok_X7_shift lk_law_170 (e_X7_shift (d := 27) 73 (xs (i + 1)).toInt (xs (i + 2)).toInt (xs (i + 3)).toInt (xs (i + 4)).toInt (xs (i + 5)).toInt) e2 rfl rfl (Nat.le_of_ble_eq_true rfl) (by show 1 ≤ 2; omega) ?_
  exact la_endI C (off := 5) (by decide +kernel) (kk h2 hi2 wi2 inv2)
end
