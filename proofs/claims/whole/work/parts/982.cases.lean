/-! the law: its cases, its loop -/
theorem mvl_X7_write : MWv yX7_write cX7_write 2 (some .int) 1 := ⟨⟨gI 648 (by decide +kernel) rfl, gI 74 (by decide +kernel) rfl, ⟨by decide +kernel, by decide +kernel⟩, by decide +kernel⟩, gI 646 (by decide +kernel) rfl, gI 647 (by decide +kernel) rfl⟩
theorem lnl_13 : Cond.methodLink R_law 13 yX7_write ∈ gT := gI 645 (by decide +kernel) rfl
theorem mvl_X8_write : MWv yX8_write cX8_write 2 (some .int) 1 := ⟨⟨gI 1187 (by decide +kernel) rfl, gI 89 (by decide +kernel) rfl, ⟨by decide +kernel, by decide +kernel⟩, by decide +kernel⟩, gI 1185 (by decide +kernel) rfl, gI 1186 (by decide +kernel) rfl⟩
theorem lnl_17 : Cond.methodLink R_law 17 yX8_write ∈ gT := gI 1184 (by decide +kernel) rfl
theorem mvl_X7_wipe : MWv yX7_wipe cX7_wipe 1 (some .int) 0 := ⟨⟨gI 652 (by decide +kernel) rfl, gI 74 (by decide +kernel) rfl, ⟨by decide +kernel, by decide +kernel⟩, by decide +kernel⟩, gI 650 (by decide +kernel) rfl, gI 651 (by decide +kernel) rfl⟩
theorem lnl_18 : Cond.methodLink R_law 18 yX7_wipe ∈ gT := gI 649 (by decide +kernel) rfl
theorem mvl_X8_wipe : MWv yX8_wipe cX8_wipe 2 (some .int) 0 := ⟨⟨gI 1194 (by decide +kernel) rfl, gI 89 (by decide +kernel) rfl, ⟨by decide +kernel, by decide +kernel⟩, by decide +kernel⟩, gI 1192 (by decide +kernel) rfl, gI 1193 (by decide +kernel) rfl⟩
theorem lnl_22 : Cond.methodLink R_law 22 yX8_wipe ∈ gT := gI 1191 (by decide +kernel) rfl
theorem mvl_X7_fault : MWv yX7_fault cX7_fault 1 (some .int) 0 := ⟨⟨gI 656 (by decide +kernel) rfl, gI 74 (by decide +kernel) rfl, ⟨by decide +kernel, by decide +kernel⟩, by decide +kernel⟩, gI 654 (by decide +kernel) rfl, gI 655 (by decide +kernel) rfl⟩
theorem lnl_23 : Cond.methodLink R_law 23 yX7_fault ∈ gT := gI 653 (by decide +kernel) rfl
theorem mvl_X8_fault : MWv yX8_fault cX8_fault 1 (some .int) 0 := ⟨⟨gI 1198 (by decide +kernel) rfl, gI 89 (by decide +kernel) rfl, ⟨by decide +kernel, by decide +kernel⟩, by decide +kernel⟩, gI 1196 (by decide +kernel) rfl, gI 1197 (by decide +kernel) rfl⟩
theorem lnl_26 : Cond.methodLink R_law 26 yX8_fault ∈ gT := gI 1195 (by decide +kernel) rfl
theorem mvl_X7_lay : MWv yX7_lay cX7_lay 1 (some .int) 0 := ⟨⟨gI 660 (by decide +kernel) rfl, gI 74 (by decide +kernel) rfl, ⟨by decide +kernel, by decide +kernel⟩, by decide +kernel⟩, gI 658 (by decide +kernel) rfl, gI 659 (by decide +kernel) rfl⟩
theorem lnl_27 : Cond.methodLink R_law 27 yX7_lay ∈ gT := gI 657 (by decide +kernel) rfl
theorem mvl_X8_lay : MWv yX8_lay cX8_lay 1 (some .int) 0 := ⟨⟨gI 1220 (by decide +kernel) rfl, gI 89 (by decide +kernel) rfl, ⟨by decide +kernel, by decide +kernel⟩, by decide +kernel⟩, gI 1218 (by decide +kernel) rfl, gI 1219 (by decide +kernel) rfl⟩
theorem lnl_30 : Cond.methodLink R_law 30 yX8_lay ∈ gT := gI 1217 (by decide +kernel) rfl
theorem mvl_X7_cause : MWv yX7_cause cX7_cause 2 (some .int) 1 := ⟨⟨gI 677 (by decide +kernel) rfl, gI 74 (by decide +kernel) rfl, ⟨by decide +kernel, by decide +kernel⟩, by decide +kernel⟩, gI 675 (by decide +kernel) rfl, gI 676 (by decide +kernel) rfl⟩
theorem lnl_31 : Cond.methodLink R_law 31 yX7_cause ∈ gT := gI 674 (by decide +kernel) rfl
theorem mvl_X8_cause : MWv yX8_cause cX8_cause 2 (some .int) 1 := ⟨⟨gI 1224 (by decide +kernel) rfl, gI 89 (by decide +kernel) rfl, ⟨by decide +kernel, by decide +kernel⟩, by decide +kernel⟩, gI 1222 (by decide +kernel) rfl, gI 1223 (by decide +kernel) rfl⟩
theorem lnl_34 : Cond.methodLink R_law 34 yX8_cause ∈ gT := gI 1221 (by decide +kernel) rfl
theorem mvl_X7_code : MWv yX7_code cX7_code 3 (some .int) 2 := ⟨⟨gI 681 (by decide +kernel) rfl, gI 74 (by decide +kernel) rfl, ⟨by decide +kernel, by decide +kernel⟩, by decide +kernel⟩, gI 679 (by decide +kernel) rfl, gI 680 (by decide +kernel) rfl⟩
theorem lnl_35 : Cond.methodLink R_law 35 yX7_code ∈ gT := gI 678 (by decide +kernel) rfl
theorem mvl_X8_code : MWv yX8_code cX8_code 3 (some .int) 2 := ⟨⟨gI 1228 (by decide +kernel) rfl, gI 89 (by decide +kernel) rfl, ⟨by decide +kernel, by decide +kernel⟩, by decide +kernel⟩, gI 1226 (by decide +kernel) rfl, gI 1227 (by decide +kernel) rfl⟩
theorem lnl_39 : Cond.methodLink R_law 39 yX8_code ∈ gT := gI 1225 (by decide +kernel) rfl
theorem mvl_X7_registers : MWv yX7_registers cX7_registers 3 (some .int) 1 := ⟨⟨gI 692 (by decide +kernel) rfl, gI 74 (by decide +kernel) rfl, ⟨by decide +kernel, by decide +kernel⟩, by decide +kernel⟩, gI 690 (by decide +kernel) rfl, gI 691 (by decide +kernel) rfl⟩
theorem lnl_40 : Cond.methodLink R_law 40 yX7_registers ∈ gT := gI 689 (by decide +kernel) rfl
theorem mvl_X8_registers : MWv yX8_registers cX8_registers 3 (some .int) 1 := ⟨⟨gI 1236 (by decide +kernel) rfl, gI 89 (by decide +kernel) rfl, ⟨by decide +kernel, by decide +kernel⟩, by decide +kernel⟩, gI 1234 (by decide +kernel) rfl, gI 1235 (by decide +kernel) rfl⟩
theorem lnl_43 : Cond.methodLink R_law 43 yX8_registers ∈ gT := gI 1233 (by decide +kernel) rfl
theorem mvl_X7_costs : MWv yX7_costs cX7_costs 5 (some .int) 3 := ⟨⟨gI 704 (by decide +kernel) rfl, gI 74 (by decide +kernel) rfl, ⟨by decide +kernel, by decide +kernel⟩, by decide +kernel⟩, gI 702 (by decide +kernel) rfl, gI 703 (by decide +kernel) rfl⟩
theorem lnl_44 : Cond.methodLink R_law 44 yX7_costs ∈ gT := gI 701 (by decide +kernel) rfl
theorem mvl_X8_costs : MWv yX8_costs cX8_costs 5 (some .int) 3 := ⟨⟨gI 1248 (by decide +kernel) rfl, gI 89 (by decide +kernel) rfl, ⟨by decide +kernel, by decide +kernel⟩, by decide +kernel⟩, gI 1246 (by decide +kernel) rfl, gI 1247 (by decide +kernel) rfl⟩
theorem lnl_48 : Cond.methodLink R_law 48 yX8_costs ∈ gT := gI 1245 (by decide +kernel) rfl
theorem mvl_X7_weigh : MWv yX7_weigh cX7_weigh 4 (some .int) 2 := ⟨⟨gI 711 (by decide +kernel) rfl, gI 74 (by decide +kernel) rfl, ⟨by decide +kernel, by decide +kernel⟩, by decide +kernel⟩, gI 709 (by decide +kernel) rfl, gI 710 (by decide +kernel) rfl⟩
theorem lnl_49 : Cond.methodLink R_law 49 yX7_weigh ∈ gT := gI 708 (by decide +kernel) rfl
theorem mvl_X8_weigh : MWv yX8_weigh cX8_weigh 4 (some .int) 2 := ⟨⟨gI 1252 (by decide +kernel) rfl, gI 89 (by decide +kernel) rfl, ⟨by decide +kernel, by decide +kernel⟩, by decide +kernel⟩, gI 1250 (by decide +kernel) rfl, gI 1251 (by decide +kernel) rfl⟩
theorem lnl_52 : Cond.methodLink R_law 52 yX8_weigh ∈ gT := gI 1249 (by decide +kernel) rfl
theorem mvl_X7_profile : MWv yX7_profile cX7_profile 3 (some .int) 0 := ⟨⟨gI 715 (by decide +kernel) rfl, gI 74 (by decide +kernel) rfl, ⟨by decide +kernel, by decide +kernel⟩, by decide +kernel⟩, gI 713 (by decide +kernel) rfl, gI 714 (by decide +kernel) rfl⟩
theorem lnl_53 : Cond.methodLink R_law 53 yX7_profile ∈ gT := gI 712 (by decide +kernel) rfl
theorem mvl_X8_profile : MWv yX8_profile cX8_profile 3 (some .int) 0 := ⟨⟨gI 1256 (by decide +kernel) rfl, gI 89 (by decide +kernel) rfl, ⟨by decide +kernel, by decide +kernel⟩, by decide +kernel⟩, gI 1254 (by decide +kernel) rfl, gI 1255 (by decide +kernel) rfl⟩
theorem lnl_56 : Cond.methodLink R_law 56 yX8_profile ∈ gT := gI 1253 (by decide +kernel) rfl
theorem mvl_X7_undo : MWv yX7_undo cX7_undo 1 (some .int) 0 := ⟨⟨gI 724 (by decide +kernel) rfl, gI 74 (by decide +kernel) rfl, ⟨by decide +kernel, by decide +kernel⟩, by decide +kernel⟩, gI 722 (by decide +kernel) rfl, gI 723 (by decide +kernel) rfl⟩
theorem lnl_57 : Cond.methodLink R_law 57 yX7_undo ∈ gT := gI 721 (by decide +kernel) rfl
theorem mvl_X8_undo : MWv yX8_undo cX8_undo 2 (some .int) 0 := ⟨⟨gI 1263 (by decide +kernel) rfl, gI 89 (by decide +kernel) rfl, ⟨by decide +kernel, by decide +kernel⟩, by decide +kernel⟩, gI 1261 (by decide +kernel) rfl, gI 1262 (by decide +kernel) rfl⟩
theorem lnl_60 : Cond.methodLink R_law 60 yX8_undo ∈ gT := gI 1260 (by decide +kernel) rfl
theorem mvl_X7_states : MWv yX7_states cX7_states 1 (some .int) 0 := ⟨⟨gI 732 (by decide +kernel) rfl, gI 74 (by decide +kernel) rfl, ⟨by decide +kernel, by decide +kernel⟩, by decide +kernel⟩, gI 730 (by decide +kernel) rfl, gI 731 (by decide +kernel) rfl⟩
theorem lnl_61 : Cond.methodLink R_law 61 yX7_states ∈ gT := gI 729 (by decide +kernel) rfl
theorem mvl_X8_states : MWv yX8_states cX8_states 1 (some .int) 0 := ⟨⟨gI 1267 (by decide +kernel) rfl, gI 89 (by decide +kernel) rfl, ⟨by decide +kernel, by decide +kernel⟩, by decide +kernel⟩, gI 1265 (by decide +kernel) rfl, gI 1266 (by decide +kernel) rfl⟩
theorem lnl_64 : Cond.methodLink R_law 64 yX8_states ∈ gT := gI 1264 (by decide +kernel) rfl
theorem mvl_X7_state : MWv yX7_state cX7_state 4 (some .int) 2 := ⟨⟨gI 736 (by decide +kernel) rfl, gI 74 (by decide +kernel) rfl, ⟨by decide +kernel, by decide +kernel⟩, by decide +kernel⟩, gI 734 (by decide +kernel) rfl, gI 735 (by decide +kernel) rfl⟩
theorem lnl_65 : Cond.methodLink R_law 65 yX7_state ∈ gT := gI 733 (by decide +kernel) rfl
theorem mvl_X8_state : MWv yX8_state cX8_state 3 (some .int) 2 := ⟨⟨gI 1279 (by decide +kernel) rfl, gI 89 (by decide +kernel) rfl, ⟨by decide +kernel, by decide +kernel⟩, by decide +kernel⟩, gI 1277 (by decide +kernel) rfl, gI 1278 (by decide +kernel) rfl⟩
theorem lnl_68 : Cond.methodLink R_law 68 yX8_state ∈ gT := gI 1276 (by decide +kernel) rfl
theorem mvl_X7_passage : MWv yX7_passage cX7_passage 3 (some .int) 2 := ⟨⟨gI 749 (by decide +kernel) rfl, gI 74 (by decide +kernel) rfl, ⟨by decide +kernel, by decide +kernel⟩, by decide +kernel⟩, gI 747 (by decide +kernel) rfl, gI 748 (by decide +kernel) rfl⟩
theorem lnl_69 : Cond.methodLink R_law 69 yX7_passage ∈ gT := gI 746 (by decide +kernel) rfl
theorem mvl_X8_passage : MWv yX8_passage cX8_passage 3 (some .int) 2 := ⟨⟨gI 1311 (by decide +kernel) rfl, gI 89 (by decide +kernel) rfl, ⟨by decide +kernel, by decide +kernel⟩, by decide +kernel⟩, gI 1309 (by decide +kernel) rfl, gI 1310 (by decide +kernel) rfl⟩
theorem lnl_72 : Cond.methodLink R_law 72 yX8_passage ∈ gT := gI 1308 (by decide +kernel) rfl
theorem mvl_X7_version : MWv yX7_version cX7_version 5 (some .int) 3 := ⟨⟨gI 757 (by decide +kernel) rfl, gI 74 (by decide +kernel) rfl, ⟨by decide +kernel, by decide +kernel⟩, by decide +kernel⟩, gI 755 (by decide +kernel) rfl, gI 756 (by decide +kernel) rfl⟩
theorem lnl_73 : Cond.methodLink R_law 73 yX7_version ∈ gT := gI 754 (by decide +kernel) rfl
theorem mvl_X8_version : MWv yX8_version cX8_version 4 (some .int) 3 := ⟨⟨gI 1287 (by decide +kernel) rfl, gI 89 (by decide +kernel) rfl, ⟨by decide +kernel, by decide +kernel⟩, by decide +kernel⟩, gI 1285 (by decide +kernel) rfl, gI 1286 (by decide +kernel) rfl⟩
theorem lnl_76 : Cond.methodLink R_law 76 yX8_version ∈ gT := gI 1284 (by decide +kernel) rfl
theorem mvl_X7_best : MWv yX7_best cX7_best 1 (some .int) 0 := ⟨⟨gI 787 (by decide +kernel) rfl, gI 74 (by decide +kernel) rfl, ⟨by decide +kernel, by decide +kernel⟩, by decide +kernel⟩, gI 785 (by decide +kernel) rfl, gI 786 (by decide +kernel) rfl⟩
theorem lnl_77 : Cond.methodLink R_law 77 yX7_best ∈ gT := gI 784 (by decide +kernel) rfl
theorem mvl_X8_best : MWv yX8_best cX8_best 1 (some .int) 0 := ⟨⟨gI 1342 (by decide +kernel) rfl, gI 89 (by decide +kernel) rfl, ⟨by decide +kernel, by decide +kernel⟩, by decide +kernel⟩, gI 1340 (by decide +kernel) rfl, gI 1341 (by decide +kernel) rfl⟩
theorem lnl_80 : Cond.methodLink R_law 80 yX8_best ∈ gT := gI 1339 (by decide +kernel) rfl
theorem mvl_X7_meets : MWv yX7_meets cX7_meets 4 (some .int) 2 := ⟨⟨gI 881 (by decide +kernel) rfl, gI 74 (by decide +kernel) rfl, ⟨by decide +kernel, by decide +kernel⟩, by decide +kernel⟩, gI 879 (by decide +kernel) rfl, gI 880 (by decide +kernel) rfl⟩
theorem lnl_81 : Cond.methodLink R_law 81 yX7_meets ∈ gT := gI 878 (by decide +kernel) rfl
theorem mvl_X8_meets : MWv yX8_meets cX8_meets 3 (some .int) 2 := ⟨⟨gI 1374 (by decide +kernel) rfl, gI 89 (by decide +kernel) rfl, ⟨by decide +kernel, by decide +kernel⟩, by decide +kernel⟩, gI 1372 (by decide +kernel) rfl, gI 1373 (by decide +kernel) rfl⟩
theorem lnl_84 : Cond.methodLink R_law 84 yX8_meets ∈ gT := gI 1371 (by decide +kernel) rfl
theorem mvl_X7_ifMeets : MWv yX7_ifMeets cX7_ifMeets 3 (some .int) 2 := ⟨⟨gI 885 (by decide +kernel) rfl, gI 74 (by decide +kernel) rfl, ⟨by decide +kernel, by decide +kernel⟩, by decide +kernel⟩, gI 883 (by decide +kernel) rfl, gI 884 (by decide +kernel) rfl⟩
theorem lnl_85 : Cond.methodLink R_law 85 yX7_ifMeets ∈ gT := gI 882 (by decide +kernel) rfl
theorem mvl_X8_ifMeets : MWv yX8_ifMeets cX8_ifMeets 4 (some .int) 2 := ⟨⟨gI 1378 (by decide +kernel) rfl, gI 89 (by decide +kernel) rfl, ⟨by decide +kernel, by decide +kernel⟩, by decide +kernel⟩, gI 1376 (by decide +kernel) rfl, gI 1377 (by decide +kernel) rfl⟩
theorem lnl_88 : Cond.methodLink R_law 88 yX8_ifMeets ∈ gT := gI 1375 (by decide +kernel) rfl
theorem mvl_X7_start : MWv yX7_start cX7_start 1 (some .int) 0 := ⟨⟨gI 897 (by decide +kernel) rfl, gI 74 (by decide +kernel) rfl, ⟨by decide +kernel, by decide +kernel⟩, by decide +kernel⟩, gI 895 (by decide +kernel) rfl, gI 896 (by decide +kernel) rfl⟩
theorem lnl_89 : Cond.methodLink R_law 89 yX7_start ∈ gT := gI 894 (by decide +kernel) rfl
theorem mvl_X8_start : MWv yX8_start cX8_start 2 (some .int) 0 := ⟨⟨gI 1382 (by decide +kernel) rfl, gI 89 (by decide +kernel) rfl, ⟨by decide +kernel, by decide +kernel⟩, by decide +kernel⟩, gI 1380 (by decide +kernel) rfl, gI 1381 (by decide +kernel) rfl⟩
theorem lnl_92 : Cond.methodLink R_law 92 yX8_start ∈ gT := gI 1379 (by decide +kernel) rfl
theorem mvl_X7_step : MWv yX7_step cX7_step 4 (some .int) 1 := ⟨⟨gI 906 (by decide +kernel) rfl, gI 74 (by decide +kernel) rfl, ⟨by decide +kernel, by decide +kernel⟩, by decide +kernel⟩, gI 904 (by decide +kernel) rfl, gI 905 (by decide +kernel) rfl⟩
theorem lnl_93 : Cond.methodLink R_law 93 yX7_step ∈ gT := gI 903 (by decide +kernel) rfl
theorem mvl_X8_step : MWv yX8_step cX8_step 3 (some .int) 1 := ⟨⟨gI 1386 (by decide +kernel) rfl, gI 89 (by decide +kernel) rfl, ⟨by decide +kernel, by decide +kernel⟩, by decide +kernel⟩, gI 1384 (by decide +kernel) rfl, gI 1385 (by decide +kernel) rfl⟩
theorem lnl_96 : Cond.methodLink R_law 96 yX8_step ∈ gT := gI 1383 (by decide +kernel) rfl
theorem mvl_X7_now : MWv yX7_now cX7_now 2 (some .int) 1 := ⟨⟨gI 938 (by decide +kernel) rfl, gI 74 (by decide +kernel) rfl, ⟨by decide +kernel, by decide +kernel⟩, by decide +kernel⟩, gI 936 (by decide +kernel) rfl, gI 937 (by decide +kernel) rfl⟩
theorem lnl_97 : Cond.methodLink R_law 97 yX7_now ∈ gT := gI 935 (by decide +kernel) rfl
theorem mvl_X8_now : MWv yX8_now cX8_now 2 (some .int) 1 := ⟨⟨gI 1414 (by decide +kernel) rfl, gI 89 (by decide +kernel) rfl, ⟨by decide +kernel, by decide +kernel⟩, by decide +kernel⟩, gI 1412 (by decide +kernel) rfl, gI 1413 (by decide +kernel) rfl⟩
theorem lnl_100 : Cond.methodLink R_law 100 yX8_now ∈ gT := gI 1411 (by decide +kernel) rfl
theorem mvl_X7_cell : MWv yX7_cell cX7_cell 2 (some .int) 1 := ⟨⟨gI 942 (by decide +kernel) rfl, gI 74 (by decide +kernel) rfl, ⟨by decide +kernel, by decide +kernel⟩, by decide +kernel⟩, gI 940 (by decide +kernel) rfl, gI 941 (by decide +kernel) rfl⟩
theorem lnl_101 : Cond.methodLink R_law 101 yX7_cell ∈ gT := gI 939 (by decide +kernel) rfl
theorem mvl_X8_cell : MWv yX8_cell cX8_cell 2 (some .int) 1 := ⟨⟨gI 1418 (by decide +kernel) rfl, gI 89 (by decide +kernel) rfl, ⟨by decide +kernel, by decide +kernel⟩, by decide +kernel⟩, gI 1416 (by decide +kernel) rfl, gI 1417 (by decide +kernel) rfl⟩
theorem lnl_104 : Cond.methodLink R_law 104 yX8_cell ∈ gT := gI 1415 (by decide +kernel) rfl
theorem mvl_X7_register : MWv yX7_register cX7_register 4 (some .int) 1 := ⟨⟨gI 955 (by decide +kernel) rfl, gI 74 (by decide +kernel) rfl, ⟨by decide +kernel, by decide +kernel⟩, by decide +kernel⟩, gI 953 (by decide +kernel) rfl, gI 954 (by decide +kernel) rfl⟩
theorem lnl_105 : Cond.methodLink R_law 105 yX7_register ∈ gT := gI 952 (by decide +kernel) rfl
theorem mvl_X8_register : MWv yX8_register cX8_register 3 (some .int) 1 := ⟨⟨gI 1425 (by decide +kernel) rfl, gI 89 (by decide +kernel) rfl, ⟨by decide +kernel, by decide +kernel⟩, by decide +kernel⟩, gI 1423 (by decide +kernel) rfl, gI 1424 (by decide +kernel) rfl⟩
theorem lnl_108 : Cond.methodLink R_law 108 yX8_register ∈ gT := gI 1422 (by decide +kernel) rfl
theorem mvl_X7_memory : MWv yX7_memory cX7_memory 3 (some .int) 1 := ⟨⟨gI 959 (by decide +kernel) rfl, gI 74 (by decide +kernel) rfl, ⟨by decide +kernel, by decide +kernel⟩, by decide +kernel⟩, gI 957 (by decide +kernel) rfl, gI 958 (by decide +kernel) rfl⟩
theorem lnl_109 : Cond.methodLink R_law 109 yX7_memory ∈ gT := gI 956 (by decide +kernel) rfl
theorem mvl_X8_memory : MWv yX8_memory cX8_memory 2 (some .int) 1 := ⟨⟨gI 1429 (by decide +kernel) rfl, gI 89 (by decide +kernel) rfl, ⟨by decide +kernel, by decide +kernel⟩, by decide +kernel⟩, gI 1427 (by decide +kernel) rfl, gI 1428 (by decide +kernel) rfl⟩
theorem lnl_112 : Cond.methodLink R_law 112 yX8_memory ∈ gT := gI 1426 (by decide +kernel) rfl
theorem mvl_X7_variable : MWv yX7_variable cX7_variable 2 (some .int) 1 := ⟨⟨gI 963 (by decide +kernel) rfl, gI 74 (by decide +kernel) rfl, ⟨by decide +kernel, by decide +kernel⟩, by decide +kernel⟩, gI 961 (by decide +kernel) rfl, gI 962 (by decide +kernel) rfl⟩
theorem lnl_113 : Cond.methodLink R_law 113 yX7_variable ∈ gT := gI 960 (by decide +kernel) rfl
theorem mvl_X8_variable : MWv yX8_variable cX8_variable 2 (some .int) 1 := ⟨⟨gI 1433 (by decide +kernel) rfl, gI 89 (by decide +kernel) rfl, ⟨by decide +kernel, by decide +kernel⟩, by decide +kernel⟩, gI 1431 (by decide +kernel) rfl, gI 1432 (by decide +kernel) rfl⟩
theorem lnl_116 : Cond.methodLink R_law 116 yX8_variable ∈ gT := gI 1430 (by decide +kernel) rfl
theorem mvl_X7_out : MWv yX7_out cX7_out 2 (some .int) 1 := ⟨⟨gI 967 (by decide +kernel) rfl, gI 74 (by decide +kernel) rfl, ⟨by decide +kernel, by decide +kernel⟩, by decide +kernel⟩, gI 965 (by decide +kernel) rfl, gI 966 (by decide +kernel) rfl⟩
theorem lnl_117 : Cond.methodLink R_law 117 yX7_out ∈ gT := gI 964 (by decide +kernel) rfl
theorem mvl_X8_out : MWv yX8_out cX8_out 2 (some .int) 1 := ⟨⟨gI 1437 (by decide +kernel) rfl, gI 89 (by decide +kernel) rfl, ⟨by decide +kernel, by decide +kernel⟩, by decide +kernel⟩, gI 1435 (by decide +kernel) rfl, gI 1436 (by decide +kernel) rfl⟩
theorem lnl_120 : Cond.methodLink R_law 120 yX8_out ∈ gT := gI 1434 (by decide +kernel) rfl
theorem mvl_X7_went : MWv yX7_went cX7_went 2 (some .int) 1 := ⟨⟨gI 971 (by decide +kernel) rfl, gI 74 (by decide +kernel) rfl, ⟨by decide +kernel, by decide +kernel⟩, by decide +kernel⟩, gI 969 (by decide +kernel) rfl, gI 970 (by decide +kernel) rfl⟩
theorem lnl_121 : Cond.methodLink R_law 121 yX7_went ∈ gT := gI 968 (by decide +kernel) rfl
theorem mvl_X8_went : MWv yX8_went cX8_went 2 (some .int) 1 := ⟨⟨gI 1441 (by decide +kernel) rfl, gI 89 (by decide +kernel) rfl, ⟨by decide +kernel, by decide +kernel⟩, by decide +kernel⟩, gI 1439 (by decide +kernel) rfl, gI 1440 (by decide +kernel) rfl⟩
theorem lnl_124 : Cond.methodLink R_law 124 yX8_went ∈ gT := gI 1438 (by decide +kernel) rfl
theorem mvl_X7_count : MWv yX7_count cX7_count 2 (some .int) 1 := ⟨⟨gI 975 (by decide +kernel) rfl, gI 74 (by decide +kernel) rfl, ⟨by decide +kernel, by decide +kernel⟩, by decide +kernel⟩, gI 973 (by decide +kernel) rfl, gI 974 (by decide +kernel) rfl⟩
theorem lnl_125 : Cond.methodLink R_law 125 yX7_count ∈ gT := gI 972 (by decide +kernel) rfl
theorem mvl_X8_count : MWv yX8_count cX8_count 4 (some .int) 1 := ⟨⟨gI 1445 (by decide +kernel) rfl, gI 89 (by decide +kernel) rfl, ⟨by decide +kernel, by decide +kernel⟩, by decide +kernel⟩, gI 1443 (by decide +kernel) rfl, gI 1444 (by decide +kernel) rfl⟩
theorem lnl_128 : Cond.methodLink R_law 128 yX8_count ∈ gT := gI 1442 (by decide +kernel) rfl
section LR
variable {E : EL} {i m : Int} {X Y : Mem}
set_option maxHeartbeats 4000000 in
theorem law_write (C : LC E) (hm : 0 ≤ m ∧ m < 4000000) (hi : 0 ≤ i ∧ i + 3 < elL E) (hR : Rel m X Y) (k : ∀ X' Y', Rel (m + 1) X' Y' → LW E 824 i [] X' Y') : LW E 160 i [] X Y := by
  refine l_al1 C dL_law_160 ?_
  refine l_arg C 1 ⟨hi.1, by omega⟩ dL_law_161 dL_law_162 dL_law_163 dL_law_164 dL_law_165 ?_
  refine l_callX C [.inl (elV E (i + ((1 : Nat) : Int)))] [] dL_law_166 (cSt_write _) mvl_X7_write lnl_13 rfl ⟨rfl, Nat.le_of_ble_eq_true rfl, Nat.le_of_ble_eq_true rfl⟩ (Nat.le_of_ble_eq_true rfl) (rS_cons.mpr ⟨elV_in _, (fun v hv => absurd hv List.not_mem_nil)⟩) rfl (o_write hR) (fun r X' hp => ?_)
  refine l_al2 C dL_law_169 ?_
  refine l_arg C 1 ⟨hi.1, by omega⟩ dL_law_170 dL_law_171 dL_law_172 dL_law_173 dL_law_174 ?_
  refine l_callM C [.inl (elV E (i + ((1 : Nat) : Int)))] [.int (Int32.ofInt r)] dL_law_175 (cMd_write _) mvl_X8_write lnl_17 rfl ⟨rfl, Nat.le_of_ble_eq_true rfl, Nat.le_of_ble_eq_true rfl⟩ (Nat.le_of_ble_eq_true rfl) (rS_cons.mpr ⟨elV_in _, (fun v hv => absurd hv List.not_mem_nil)⟩) rfl hp (fun r' Y' hq => ?_)
  obtain ⟨rfl, hR'⟩ := hq
  exact l_eq C dL_law_178 (by decide) (k X' Y' hR')
set_option maxHeartbeats 4000000 in
theorem law_wipe (C : LC E) (hm : 0 ≤ m ∧ m < 4000000) (hi : 0 ≤ i ∧ i + 3 < elL E) (hR : Rel m X Y) (k : ∀ X' Y', Rel (m + 1) X' Y' → LW E 824 i [] X' Y') : LW E 183 i [] X Y := by
  refine l_al1 C dL_law_183 ?_
  refine l_callX C [] [] dL_law_184 (cSt_wipe) mvl_X7_wipe lnl_18 rfl ⟨rfl, Nat.le_of_ble_eq_true rfl, Nat.le_of_ble_eq_true rfl⟩ (Nat.le_of_ble_eq_true rfl) (fun v hv => absurd hv List.not_mem_nil) rfl (o_wipe hR) (fun r X' hp => ?_)
  refine l_al2 C dL_law_187 ?_
  refine l_callM C [] [.int (Int32.ofInt r)] dL_law_188 (cMd_wipe) mvl_X8_wipe lnl_22 rfl ⟨rfl, Nat.le_of_ble_eq_true rfl, Nat.le_of_ble_eq_true rfl⟩ (Nat.le_of_ble_eq_true rfl) (fun v hv => absurd hv List.not_mem_nil) rfl hp (fun r' Y' hq => ?_)
  obtain ⟨rfl, hR'⟩ := hq
  exact l_eq C dL_law_191 (by decide) (k X' Y' hR')
set_option maxHeartbeats 4000000 in
theorem law_fault (C : LC E) (hm : 0 ≤ m ∧ m < 4000000) (hi : 0 ≤ i ∧ i + 3 < elL E) (hR : Rel m X Y) (k : ∀ X' Y', Rel (m + 1) X' Y' → LW E 824 i [] X' Y') : LW E 196 i [] X Y := by
  refine l_al1 C dL_law_196 ?_
  refine l_callX C [] [] dL_law_197 (cSt_fault) mvl_X7_fault lnl_23 rfl ⟨rfl, Nat.le_of_ble_eq_true rfl, Nat.le_of_ble_eq_true rfl⟩ (Nat.le_of_ble_eq_true rfl) (fun v hv => absurd hv List.not_mem_nil) rfl (o_fault hR) (fun r X' hp => ?_)
  refine l_al2 C dL_law_200 ?_
  refine l_callM C [] [.int (Int32.ofInt r)] dL_law_201 (cMd_fault) mvl_X8_fault lnl_26 rfl ⟨rfl, Nat.le_of_ble_eq_true rfl, Nat.le_of_ble_eq_true rfl⟩ (Nat.le_of_ble_eq_true rfl) (fun v hv => absurd hv List.not_mem_nil) rfl hp (fun r' Y' hq => ?_)
  obtain ⟨rfl, hR'⟩ := hq
  exact l_eq C dL_law_204 (by decide) (k X' Y' hR')
set_option maxHeartbeats 4000000 in
theorem law_lay (C : LC E) (hm : 0 ≤ m ∧ m < 4000000) (hi : 0 ≤ i ∧ i + 3 < elL E) (hR : Rel m X Y) (k : ∀ X' Y', Rel (m + 1) X' Y' → LW E 824 i [] X' Y') : LW E 209 i [] X Y := by
  refine l_al1 C dL_law_209 ?_
  refine l_callX C [] [] dL_law_210 (cSt_lay) mvl_X7_lay lnl_27 rfl ⟨rfl, Nat.le_of_ble_eq_true rfl, Nat.le_of_ble_eq_true rfl⟩ (Nat.le_of_ble_eq_true rfl) (fun v hv => absurd hv List.not_mem_nil) rfl (o_lay hR) (fun r X' hp => ?_)
  refine l_al2 C dL_law_213 ?_
  refine l_callM C [] [.int (Int32.ofInt r)] dL_law_214 (cMd_lay) mvl_X8_lay lnl_30 rfl ⟨rfl, Nat.le_of_ble_eq_true rfl, Nat.le_of_ble_eq_true rfl⟩ (Nat.le_of_ble_eq_true rfl) (fun v hv => absurd hv List.not_mem_nil) rfl hp (fun r' Y' hq => ?_)
  obtain ⟨rfl, hR'⟩ := hq
  exact l_eq C dL_law_217 (by decide) (k X' Y' hR')
set_option maxHeartbeats 4000000 in
theorem law_cause (C : LC E) (hm : 0 ≤ m ∧ m < 4000000) (hi : 0 ≤ i ∧ i + 3 < elL E) (hR : Rel m X Y) (k : ∀ X' Y', Rel (m + 1) X' Y' → LW E 824 i [] X' Y') : LW E 222 i [] X Y := by
  refine l_al1 C dL_law_222 ?_
  refine l_arg C 1 ⟨hi.1, by omega⟩ dL_law_223 dL_law_224 dL_law_225 dL_law_226 dL_law_227 ?_
  refine l_callX C [.inl (elV E (i + ((1 : Nat) : Int)))] [] dL_law_228 (cSt_cause _) mvl_X7_cause lnl_31 rfl ⟨rfl, Nat.le_of_ble_eq_true rfl, Nat.le_of_ble_eq_true rfl⟩ (Nat.le_of_ble_eq_true rfl) (rS_cons.mpr ⟨elV_in _, (fun v hv => absurd hv List.not_mem_nil)⟩) rfl (o_cause hR) (fun r X' hp => ?_)
  refine l_al2 C dL_law_231 ?_
  refine l_arg C 1 ⟨hi.1, by omega⟩ dL_law_232 dL_law_233 dL_law_234 dL_law_235 dL_law_236 ?_
  refine l_callM C [.inl (elV E (i + ((1 : Nat) : Int)))] [.int (Int32.ofInt r)] dL_law_237 (cMd_cause _) mvl_X8_cause lnl_34 rfl ⟨rfl, Nat.le_of_ble_eq_true rfl, Nat.le_of_ble_eq_true rfl⟩ (Nat.le_of_ble_eq_true rfl) (rS_cons.mpr ⟨elV_in _, (fun v hv => absurd hv List.not_mem_nil)⟩) rfl hp (fun r' Y' hq => ?_)
  obtain ⟨rfl, hR'⟩ := hq
  exact l_eq C dL_law_240 (by decide) (k X' Y' hR')
set_option maxHeartbeats 4000000 in
theorem law_code (C : LC E) (hm : 0 ≤ m ∧ m < 4000000) (hi : 0 ≤ i ∧ i + 3 < elL E) (hR : Rel m X Y) (k : ∀ X' Y', Rel (m + 1) X' Y' → LW E 824 i [] X' Y') : LW E 245 i [] X Y := by
  refine l_al1 C dL_law_245 ?_
  refine l_arg C 1 ⟨hi.1, by omega⟩ dL_law_246 dL_law_247 dL_law_248 dL_law_249 dL_law_250 ?_
  refine l_arg C 2 ⟨hi.1, by omega⟩ dL_law_251 dL_law_252 dL_law_253 dL_law_254 dL_law_255 ?_
  refine l_callX C [.inl (elV E (i + ((1 : Nat) : Int))), .inl (elV E (i + ((2 : Nat) : Int)))] [] dL_law_256 (cSt_code _ _) mvl_X7_code lnl_35 rfl ⟨rfl, Nat.le_of_ble_eq_true rfl, Nat.le_of_ble_eq_true rfl⟩ (Nat.le_of_ble_eq_true rfl) (rS_cons.mpr ⟨elV_in _, (rS_cons.mpr ⟨elV_in _, (fun v hv => absurd hv List.not_mem_nil)⟩)⟩) rfl (o_code hR) (fun r X' hp => ?_)
  refine l_al2 C dL_law_259 ?_
  refine l_arg C 1 ⟨hi.1, by omega⟩ dL_law_260 dL_law_261 dL_law_262 dL_law_263 dL_law_264 ?_
  refine l_arg C 2 ⟨hi.1, by omega⟩ dL_law_265 dL_law_266 dL_law_267 dL_law_268 dL_law_269 ?_
  refine l_callM C [.inl (elV E (i + ((1 : Nat) : Int))), .inl (elV E (i + ((2 : Nat) : Int)))] [.int (Int32.ofInt r)] dL_law_270 (cMd_code _ _) mvl_X8_code lnl_39 rfl ⟨rfl, Nat.le_of_ble_eq_true rfl, Nat.le_of_ble_eq_true rfl⟩ (Nat.le_of_ble_eq_true rfl) (rS_cons.mpr ⟨elV_in _, (rS_cons.mpr ⟨elV_in _, (fun v hv => absurd hv List.not_mem_nil)⟩)⟩) rfl hp (fun r' Y' hq => ?_)
  obtain ⟨rfl, hR'⟩ := hq
  exact l_eq C dL_law_273 (by decide) (k X' Y' hR')
set_option maxHeartbeats 4000000 in
theorem law_registers (C : LC E) (hm : 0 ≤ m ∧ m < 4000000) (hi : 0 ≤ i ∧ i + 3 < elL E) (hR : Rel m X Y) (k : ∀ X' Y', Rel (m + 1) X' Y' → LW E 824 i [] X' Y') : LW E 278 i [] X Y := by
  refine l_al1 C dL_law_278 ?_
  refine l_arg C 1 ⟨hi.1, by omega⟩ dL_law_279 dL_law_280 dL_law_281 dL_law_282 dL_law_283 ?_
  refine l_callX C [.inl (elV E (i + ((1 : Nat) : Int)))] [] dL_law_284 (cSt_registers _) mvl_X7_registers lnl_40 rfl ⟨rfl, Nat.le_of_ble_eq_true rfl, Nat.le_of_ble_eq_true rfl⟩ (Nat.le_of_ble_eq_true rfl) (rS_cons.mpr ⟨elV_in _, (fun v hv => absurd hv List.not_mem_nil)⟩) rfl (o_registers hR) (fun r X' hp => ?_)
  refine l_al2 C dL_law_287 ?_
  refine l_arg C 1 ⟨hi.1, by omega⟩ dL_law_288 dL_law_289 dL_law_290 dL_law_291 dL_law_292 ?_
  refine l_callM C [.inl (elV E (i + ((1 : Nat) : Int)))] [.int (Int32.ofInt r)] dL_law_293 (cMd_registers _) mvl_X8_registers lnl_43 rfl ⟨rfl, Nat.le_of_ble_eq_true rfl, Nat.le_of_ble_eq_true rfl⟩ (Nat.le_of_ble_eq_true rfl) (rS_cons.mpr ⟨elV_in _, (fun v hv => absurd hv List.not_mem_nil)⟩) rfl hp (fun r' Y' hq => ?_)
  obtain ⟨rfl, hR'⟩ := hq
  exact l_eq C dL_law_296 (by decide) (k X' Y' hR')
set_option maxHeartbeats 4000000 in
theorem law_costs (C : LC E) (hm : 0 ≤ m ∧ m < 4000000) (hi : 0 ≤ i ∧ i + 3 < elL E) (hR : Rel m X Y) (k : ∀ X' Y', Rel (m + 1) X' Y' → LW E 824 i [] X' Y') : LW E 301 i [] X Y := by
  refine l_al1 C dL_law_301 ?_
  refine l_arg C 1 ⟨hi.1, by omega⟩ dL_law_302 dL_law_303 dL_law_304 dL_law_305 dL_law_306 ?_
  refine l_arg C 2 ⟨hi.1, by omega⟩ dL_law_307 dL_law_308 dL_law_309 dL_law_310 dL_law_311 ?_
  refine l_arg C 3 ⟨hi.1, by omega⟩ dL_law_312 dL_law_313 dL_law_314 dL_law_315 dL_law_316 ?_
  refine l_callX C [.inl (elV E (i + ((1 : Nat) : Int))), .inl (elV E (i + ((2 : Nat) : Int))), .inl (elV E (i + ((3 : Nat) : Int)))] [] dL_law_317 (cSt_costs _ _ _) mvl_X7_costs lnl_44 rfl ⟨rfl, Nat.le_of_ble_eq_true rfl, Nat.le_of_ble_eq_true rfl⟩ (Nat.le_of_ble_eq_true rfl) (rS_cons.mpr ⟨elV_in _, (rS_cons.mpr ⟨elV_in _, (rS_cons.mpr ⟨elV_in _, (fun v hv => absurd hv List.not_mem_nil)⟩)⟩)⟩) rfl (o_costs hR) (fun r X' hp => ?_)
  refine l_al2 C dL_law_320 ?_
  refine l_arg C 1 ⟨hi.1, by omega⟩ dL_law_321 dL_law_322 dL_law_323 dL_law_324 dL_law_325 ?_
  refine l_arg C 2 ⟨hi.1, by omega⟩ dL_law_326 dL_law_327 dL_law_328 dL_law_329 dL_law_330 ?_
  refine l_arg C 3 ⟨hi.1, by omega⟩ dL_law_331 dL_law_332 dL_law_333 dL_law_334 dL_law_335 ?_
  refine l_callM C [.inl (elV E (i + ((1 : Nat) : Int))), .inl (elV E (i + ((2 : Nat) : Int))), .inl (elV E (i + ((3 : Nat) : Int)))] [.int (Int32.ofInt r)] dL_law_336 (cMd_costs _ _ _) mvl_X8_costs lnl_48 rfl ⟨rfl, Nat.le_of_ble_eq_true rfl, Nat.le_of_ble_eq_true rfl⟩ (Nat.le_of_ble_eq_true rfl) (rS_cons.mpr ⟨elV_in _, (rS_cons.mpr ⟨elV_in _, (rS_cons.mpr ⟨elV_in _, (fun v hv => absurd hv List.not_mem_nil)⟩)⟩)⟩) rfl hp (fun r' Y' hq => ?_)
  obtain ⟨rfl, hR'⟩ := hq
  exact l_eq C dL_law_339 (by decide) (k X' Y' hR')
set_option maxHeartbeats 4000000 in
theorem law_weigh (C : LC E) (hm : 0 ≤ m ∧ m < 4000000) (hi : 0 ≤ i ∧ i + 3 < elL E) (hR : Rel m X Y) (k : ∀ X' Y', Rel (m + 1) X' Y' → LW E 824 i [] X' Y') : LW E 344 i [] X Y := by
  refine l_al1 C dL_law_344 ?_
  refine l_arg C 1 ⟨hi.1, by omega⟩ dL_law_345 dL_law_346 dL_law_347 dL_law_348 dL_law_349 ?_
  refine l_arg C 2 ⟨hi.1, by omega⟩ dL_law_350 dL_law_351 dL_law_352 dL_law_353 dL_law_354 ?_
  refine l_callX C [.inl (elV E (i + ((1 : Nat) : Int))), .inl (elV E (i + ((2 : Nat) : Int)))] [] dL_law_355 (cSt_weigh _ _) mvl_X7_weigh lnl_49 rfl ⟨rfl, Nat.le_of_ble_eq_true rfl, Nat.le_of_ble_eq_true rfl⟩ (Nat.le_of_ble_eq_true rfl) (rS_cons.mpr ⟨elV_in _, (rS_cons.mpr ⟨elV_in _, (fun v hv => absurd hv List.not_mem_nil)⟩)⟩) rfl (o_weigh hR) (fun r X' hp => ?_)
  refine l_al2 C dL_law_358 ?_
  refine l_arg C 1 ⟨hi.1, by omega⟩ dL_law_359 dL_law_360 dL_law_361 dL_law_362 dL_law_363 ?_
  refine l_arg C 2 ⟨hi.1, by omega⟩ dL_law_364 dL_law_365 dL_law_366 dL_law_367 dL_law_368 ?_
  refine l_callM C [.inl (elV E (i + ((1 : Nat) : Int))), .inl (elV E (i + ((2 : Nat) : Int)))] [.int (Int32.ofInt r)] dL_law_369 (cMd_weigh _ _) mvl_X8_weigh lnl_52 rfl ⟨rfl, Nat.le_of_ble_eq_true rfl, Nat.le_of_ble_eq_true rfl⟩ (Nat.le_of_ble_eq_true rfl) (rS_cons.mpr ⟨elV_in _, (rS_cons.mpr ⟨elV_in _, (fun v hv => absurd hv List.not_mem_nil)⟩)⟩) rfl hp (fun r' Y' hq => ?_)
  obtain ⟨rfl, hR'⟩ := hq
  exact l_eq C dL_law_372 (by decide) (k X' Y' hR')
set_option maxHeartbeats 4000000 in
theorem law_profile (C : LC E) (hm : 0 ≤ m ∧ m < 4000000) (hi : 0 ≤ i ∧ i + 3 < elL E) (hR : Rel m X Y) (k : ∀ X' Y', Rel (m + 1) X' Y' → LW E 824 i [] X' Y') : LW E 377 i [] X Y := by
  refine l_al1 C dL_law_377 ?_
  refine l_callX C [] [] dL_law_378 (cSt_profile) mvl_X7_profile lnl_53 rfl ⟨rfl, Nat.le_of_ble_eq_true rfl, Nat.le_of_ble_eq_true rfl⟩ (Nat.le_of_ble_eq_true rfl) (fun v hv => absurd hv List.not_mem_nil) rfl (o_profile hm hR) (fun r X' hp => ?_)
  refine l_al2 C dL_law_381 ?_
  refine l_callM C [] [.int (Int32.ofInt r)] dL_law_382 (cMd_profile) mvl_X8_profile lnl_56 rfl ⟨rfl, Nat.le_of_ble_eq_true rfl, Nat.le_of_ble_eq_true rfl⟩ (Nat.le_of_ble_eq_true rfl) (fun v hv => absurd hv List.not_mem_nil) rfl hp (fun r' Y' hq => ?_)
  obtain ⟨rfl, hR'⟩ := hq
  exact l_eq C dL_law_385 (by decide) (k X' Y' hR')
set_option maxHeartbeats 4000000 in
theorem law_undo (C : LC E) (hm : 0 ≤ m ∧ m < 4000000) (hi : 0 ≤ i ∧ i + 3 < elL E) (hR : Rel m X Y) (k : ∀ X' Y', Rel (m + 1) X' Y' → LW E 824 i [] X' Y') : LW E 390 i [] X Y := by
  refine l_al1 C dL_law_390 ?_
  refine l_callX C [] [] dL_law_391 (cSt_undo) mvl_X7_undo lnl_57 rfl ⟨rfl, Nat.le_of_ble_eq_true rfl, Nat.le_of_ble_eq_true rfl⟩ (Nat.le_of_ble_eq_true rfl) (fun v hv => absurd hv List.not_mem_nil) rfl (o_undo hR) (fun r X' hp => ?_)
  refine l_al2 C dL_law_394 ?_
  refine l_callM C [] [.int (Int32.ofInt r)] dL_law_395 (cMd_undo) mvl_X8_undo lnl_60 rfl ⟨rfl, Nat.le_of_ble_eq_true rfl, Nat.le_of_ble_eq_true rfl⟩ (Nat.le_of_ble_eq_true rfl) (fun v hv => absurd hv List.not_mem_nil) rfl hp (fun r' Y' hq => ?_)
  obtain ⟨rfl, hR'⟩ := hq
  exact l_eq C dL_law_398 (by decide) (k X' Y' hR')
set_option maxHeartbeats 4000000 in
theorem law_states (C : LC E) (hm : 0 ≤ m ∧ m < 4000000) (hi : 0 ≤ i ∧ i + 3 < elL E) (hR : Rel m X Y) (k : ∀ X' Y', Rel (m + 1) X' Y' → LW E 824 i [] X' Y') : LW E 403 i [] X Y := by
  refine l_al1 C dL_law_403 ?_
  refine l_callX C [] [] dL_law_404 (cSt_states) mvl_X7_states lnl_61 rfl ⟨rfl, Nat.le_of_ble_eq_true rfl, Nat.le_of_ble_eq_true rfl⟩ (Nat.le_of_ble_eq_true rfl) (fun v hv => absurd hv List.not_mem_nil) rfl (o_states hR) (fun r X' hp => ?_)
  refine l_al2 C dL_law_407 ?_
  refine l_callM C [] [.int (Int32.ofInt r)] dL_law_408 (cMd_states) mvl_X8_states lnl_64 rfl ⟨rfl, Nat.le_of_ble_eq_true rfl, Nat.le_of_ble_eq_true rfl⟩ (Nat.le_of_ble_eq_true rfl) (fun v hv => absurd hv List.not_mem_nil) rfl hp (fun r' Y' hq => ?_)
  obtain ⟨rfl, hR'⟩ := hq
  exact l_eq C dL_law_411 (by decide) (k X' Y' hR')
set_option maxHeartbeats 4000000 in
theorem law_state (C : LC E) (hm : 0 ≤ m ∧ m < 4000000) (hi : 0 ≤ i ∧ i + 3 < elL E) (hR : Rel m X Y) (k : ∀ X' Y', Rel (m + 1) X' Y' → LW E 824 i [] X' Y') : LW E 416 i [] X Y := by
  refine l_al1 C dL_law_416 ?_
  refine l_arg C 1 ⟨hi.1, by omega⟩ dL_law_417 dL_law_418 dL_law_419 dL_law_420 dL_law_421 ?_
  refine l_arg C 2 ⟨hi.1, by omega⟩ dL_law_422 dL_law_423 dL_law_424 dL_law_425 dL_law_426 ?_
  refine l_callX C [.inl (elV E (i + ((1 : Nat) : Int))), .inl (elV E (i + ((2 : Nat) : Int)))] [] dL_law_427 (cSt_state _ _) mvl_X7_state lnl_65 rfl ⟨rfl, Nat.le_of_ble_eq_true rfl, Nat.le_of_ble_eq_true rfl⟩ (Nat.le_of_ble_eq_true rfl) (rS_cons.mpr ⟨elV_in _, (rS_cons.mpr ⟨elV_in _, (fun v hv => absurd hv List.not_mem_nil)⟩)⟩) rfl (o_state hR) (fun r X' hp => ?_)
  refine l_al2 C dL_law_430 ?_
  refine l_arg C 1 ⟨hi.1, by omega⟩ dL_law_431 dL_law_432 dL_law_433 dL_law_434 dL_law_435 ?_
  refine l_arg C 2 ⟨hi.1, by omega⟩ dL_law_436 dL_law_437 dL_law_438 dL_law_439 dL_law_440 ?_
  refine l_callM C [.inl (elV E (i + ((1 : Nat) : Int))), .inl (elV E (i + ((2 : Nat) : Int)))] [.int (Int32.ofInt r)] dL_law_441 (cMd_state _ _) mvl_X8_state lnl_68 rfl ⟨rfl, Nat.le_of_ble_eq_true rfl, Nat.le_of_ble_eq_true rfl⟩ (Nat.le_of_ble_eq_true rfl) (rS_cons.mpr ⟨elV_in _, (rS_cons.mpr ⟨elV_in _, (fun v hv => absurd hv List.not_mem_nil)⟩)⟩) rfl hp (fun r' Y' hq => ?_)
  obtain ⟨rfl, hR'⟩ := hq
  exact l_eq C dL_law_444 (by decide) (k X' Y' hR')
set_option maxHeartbeats 4000000 in
theorem law_passage (C : LC E) (hm : 0 ≤ m ∧ m < 4000000) (hi : 0 ≤ i ∧ i + 3 < elL E) (hR : Rel m X Y) (k : ∀ X' Y', Rel (m + 1) X' Y' → LW E 824 i [] X' Y') : LW E 449 i [] X Y := by
  refine l_al1 C dL_law_449 ?_
  refine l_arg C 1 ⟨hi.1, by omega⟩ dL_law_450 dL_law_451 dL_law_452 dL_law_453 dL_law_454 ?_
  refine l_arg C 2 ⟨hi.1, by omega⟩ dL_law_455 dL_law_456 dL_law_457 dL_law_458 dL_law_459 ?_
  refine l_callX C [.inl (elV E (i + ((1 : Nat) : Int))), .inl (elV E (i + ((2 : Nat) : Int)))] [] dL_law_460 (cSt_passage _ _) mvl_X7_passage lnl_69 rfl ⟨rfl, Nat.le_of_ble_eq_true rfl, Nat.le_of_ble_eq_true rfl⟩ (Nat.le_of_ble_eq_true rfl) (rS_cons.mpr ⟨elV_in _, (rS_cons.mpr ⟨elV_in _, (fun v hv => absurd hv List.not_mem_nil)⟩)⟩) rfl (o_passage hR) (fun r X' hp => ?_)
  refine l_al2 C dL_law_463 ?_
  refine l_arg C 1 ⟨hi.1, by omega⟩ dL_law_464 dL_law_465 dL_law_466 dL_law_467 dL_law_468 ?_
  refine l_arg C 2 ⟨hi.1, by omega⟩ dL_law_469 dL_law_470 dL_law_471 dL_law_472 dL_law_473 ?_
  refine l_callM C [.inl (elV E (i + ((1 : Nat) : Int))), .inl (elV E (i + ((2 : Nat) : Int)))] [.int (Int32.ofInt r)] dL_law_474 (cMd_passage _ _) mvl_X8_passage lnl_72 rfl ⟨rfl, Nat.le_of_ble_eq_true rfl, Nat.le_of_ble_eq_true rfl⟩ (Nat.le_of_ble_eq_true rfl) (rS_cons.mpr ⟨elV_in _, (rS_cons.mpr ⟨elV_in _, (fun v hv => absurd hv List.not_mem_nil)⟩)⟩) rfl hp (fun r' Y' hq => ?_)
  obtain ⟨rfl, hR'⟩ := hq
  exact l_eq C dL_law_477 (by decide) (k X' Y' hR')
set_option maxHeartbeats 4000000 in
theorem law_version (C : LC E) (hm : 0 ≤ m ∧ m < 4000000) (hi : 0 ≤ i ∧ i + 3 < elL E) (hR : Rel m X Y) (k : ∀ X' Y', Rel (m + 1) X' Y' → LW E 824 i [] X' Y') : LW E 482 i [] X Y := by
  refine l_al1 C dL_law_482 ?_
  refine l_arg C 1 ⟨hi.1, by omega⟩ dL_law_483 dL_law_484 dL_law_485 dL_law_486 dL_law_487 ?_
  refine l_arg C 2 ⟨hi.1, by omega⟩ dL_law_488 dL_law_489 dL_law_490 dL_law_491 dL_law_492 ?_
  refine l_arg C 3 ⟨hi.1, by omega⟩ dL_law_493 dL_law_494 dL_law_495 dL_law_496 dL_law_497 ?_
  refine l_callX C [.inl (elV E (i + ((1 : Nat) : Int))), .inl (elV E (i + ((2 : Nat) : Int))), .inl (elV E (i + ((3 : Nat) : Int)))] [] dL_law_498 (cSt_version _ _ _) mvl_X7_version lnl_73 rfl ⟨rfl, Nat.le_of_ble_eq_true rfl, Nat.le_of_ble_eq_true rfl⟩ (Nat.le_of_ble_eq_true rfl) (rS_cons.mpr ⟨elV_in _, (rS_cons.mpr ⟨elV_in _, (rS_cons.mpr ⟨elV_in _, (fun v hv => absurd hv List.not_mem_nil)⟩)⟩)⟩) rfl (o_version hR) (fun r X' hp => ?_)
  refine l_al2 C dL_law_501 ?_
  refine l_arg C 1 ⟨hi.1, by omega⟩ dL_law_502 dL_law_503 dL_law_504 dL_law_505 dL_law_506 ?_
  refine l_arg C 2 ⟨hi.1, by omega⟩ dL_law_507 dL_law_508 dL_law_509 dL_law_510 dL_law_511 ?_
  refine l_arg C 3 ⟨hi.1, by omega⟩ dL_law_512 dL_law_513 dL_law_514 dL_law_515 dL_law_516 ?_
  refine l_callM C [.inl (elV E (i + ((1 : Nat) : Int))), .inl (elV E (i + ((2 : Nat) : Int))), .inl (elV E (i + ((3 : Nat) : Int)))] [.int (Int32.ofInt r)] dL_law_517 (cMd_version _ _ _) mvl_X8_version lnl_76 rfl ⟨rfl, Nat.le_of_ble_eq_true rfl, Nat.le_of_ble_eq_true rfl⟩ (Nat.le_of_ble_eq_true rfl) (rS_cons.mpr ⟨elV_in _, (rS_cons.mpr ⟨elV_in _, (rS_cons.mpr ⟨elV_in _, (fun v hv => absurd hv List.not_mem_nil)⟩)⟩)⟩) rfl hp (fun r' Y' hq => ?_)
  obtain ⟨rfl, hR'⟩ := hq
  exact l_eq C dL_law_520 (by decide) (k X' Y' hR')
set_option maxHeartbeats 4000000 in
theorem law_best (C : LC E) (hm : 0 ≤ m ∧ m < 4000000) (hi : 0 ≤ i ∧ i + 3 < elL E) (hR : Rel m X Y) (k : ∀ X' Y', Rel (m + 1) X' Y' → LW E 824 i [] X' Y') : LW E 525 i [] X Y := by
  refine l_al1 C dL_law_525 ?_
  refine l_callX C [] [] dL_law_526 (cSt_best) mvl_X7_best lnl_77 rfl ⟨rfl, Nat.le_of_ble_eq_true rfl, Nat.le_of_ble_eq_true rfl⟩ (Nat.le_of_ble_eq_true rfl) (fun v hv => absurd hv List.not_mem_nil) rfl (o_best hR) (fun r X' hp => ?_)
  refine l_al2 C dL_law_529 ?_
  refine l_callM C [] [.int (Int32.ofInt r)] dL_law_530 (cMd_best) mvl_X8_best lnl_80 rfl ⟨rfl, Nat.le_of_ble_eq_true rfl, Nat.le_of_ble_eq_true rfl⟩ (Nat.le_of_ble_eq_true rfl) (fun v hv => absurd hv List.not_mem_nil) rfl hp (fun r' Y' hq => ?_)
  obtain ⟨rfl, hR'⟩ := hq
  exact l_eq C dL_law_533 (by decide) (k X' Y' hR')
set_option maxHeartbeats 4000000 in
theorem law_meets (C : LC E) (hm : 0 ≤ m ∧ m < 4000000) (hi : 0 ≤ i ∧ i + 3 < elL E) (hR : Rel m X Y) (k : ∀ X' Y', Rel (m + 1) X' Y' → LW E 824 i [] X' Y') : LW E 538 i [] X Y := by
  refine l_al1 C dL_law_538 ?_
  refine l_arg C 1 ⟨hi.1, by omega⟩ dL_law_539 dL_law_540 dL_law_541 dL_law_542 dL_law_543 ?_
  refine l_arg C 2 ⟨hi.1, by omega⟩ dL_law_544 dL_law_545 dL_law_546 dL_law_547 dL_law_548 ?_
  refine l_callX C [.inl (elV E (i + ((1 : Nat) : Int))), .inl (elV E (i + ((2 : Nat) : Int)))] [] dL_law_549 (cSt_meets _ _) mvl_X7_meets lnl_81 rfl ⟨rfl, Nat.le_of_ble_eq_true rfl, Nat.le_of_ble_eq_true rfl⟩ (Nat.le_of_ble_eq_true rfl) (rS_cons.mpr ⟨elV_in _, (rS_cons.mpr ⟨elV_in _, (fun v hv => absurd hv List.not_mem_nil)⟩)⟩) rfl (o_meets hR) (fun r X' hp => ?_)
  refine l_al2 C dL_law_552 ?_
  refine l_arg C 1 ⟨hi.1, by omega⟩ dL_law_553 dL_law_554 dL_law_555 dL_law_556 dL_law_557 ?_
  refine l_arg C 2 ⟨hi.1, by omega⟩ dL_law_558 dL_law_559 dL_law_560 dL_law_561 dL_law_562 ?_
  refine l_callM C [.inl (elV E (i + ((1 : Nat) : Int))), .inl (elV E (i + ((2 : Nat) : Int)))] [.int (Int32.ofInt r)] dL_law_563 (cMd_meets _ _) mvl_X8_meets lnl_84 rfl ⟨rfl, Nat.le_of_ble_eq_true rfl, Nat.le_of_ble_eq_true rfl⟩ (Nat.le_of_ble_eq_true rfl) (rS_cons.mpr ⟨elV_in _, (rS_cons.mpr ⟨elV_in _, (fun v hv => absurd hv List.not_mem_nil)⟩)⟩) rfl hp (fun r' Y' hq => ?_)
  obtain ⟨rfl, hR'⟩ := hq
  exact l_eq C dL_law_566 (by decide) (k X' Y' hR')
set_option maxHeartbeats 4000000 in
theorem law_ifMeets (C : LC E) (hm : 0 ≤ m ∧ m < 4000000) (hi : 0 ≤ i ∧ i + 3 < elL E) (hR : Rel m X Y) (k : ∀ X' Y', Rel (m + 1) X' Y' → LW E 824 i [] X' Y') : LW E 571 i [] X Y := by
  refine l_al1 C dL_law_571 ?_
  refine l_arg C 1 ⟨hi.1, by omega⟩ dL_law_572 dL_law_573 dL_law_574 dL_law_575 dL_law_576 ?_
  refine l_arg C 2 ⟨hi.1, by omega⟩ dL_law_577 dL_law_578 dL_law_579 dL_law_580 dL_law_581 ?_
  refine l_callX C [.inl (elV E (i + ((1 : Nat) : Int))), .inl (elV E (i + ((2 : Nat) : Int)))] [] dL_law_582 (cSt_ifMeets _ _) mvl_X7_ifMeets lnl_85 rfl ⟨rfl, Nat.le_of_ble_eq_true rfl, Nat.le_of_ble_eq_true rfl⟩ (Nat.le_of_ble_eq_true rfl) (rS_cons.mpr ⟨elV_in _, (rS_cons.mpr ⟨elV_in _, (fun v hv => absurd hv List.not_mem_nil)⟩)⟩) rfl (o_ifMeets hR) (fun r X' hp => ?_)
  refine l_al2 C dL_law_585 ?_
  refine l_arg C 1 ⟨hi.1, by omega⟩ dL_law_586 dL_law_587 dL_law_588 dL_law_589 dL_law_590 ?_
  refine l_arg C 2 ⟨hi.1, by omega⟩ dL_law_591 dL_law_592 dL_law_593 dL_law_594 dL_law_595 ?_
  refine l_callM C [.inl (elV E (i + ((1 : Nat) : Int))), .inl (elV E (i + ((2 : Nat) : Int)))] [.int (Int32.ofInt r)] dL_law_596 (cMd_ifMeets _ _) mvl_X8_ifMeets lnl_88 rfl ⟨rfl, Nat.le_of_ble_eq_true rfl, Nat.le_of_ble_eq_true rfl⟩ (Nat.le_of_ble_eq_true rfl) (rS_cons.mpr ⟨elV_in _, (rS_cons.mpr ⟨elV_in _, (fun v hv => absurd hv List.not_mem_nil)⟩)⟩) rfl hp (fun r' Y' hq => ?_)
  obtain ⟨rfl, hR'⟩ := hq
  exact l_eq C dL_law_599 (by decide) (k X' Y' hR')
set_option maxHeartbeats 4000000 in
theorem law_start (C : LC E) (hm : 0 ≤ m ∧ m < 4000000) (hi : 0 ≤ i ∧ i + 3 < elL E) (hR : Rel m X Y) (k : ∀ X' Y', Rel (m + 1) X' Y' → LW E 824 i [] X' Y') : LW E 604 i [] X Y := by
  refine l_al1 C dL_law_604 ?_
  refine l_callX C [] [] dL_law_605 (cSt_start) mvl_X7_start lnl_89 rfl ⟨rfl, Nat.le_of_ble_eq_true rfl, Nat.le_of_ble_eq_true rfl⟩ (Nat.le_of_ble_eq_true rfl) (fun v hv => absurd hv List.not_mem_nil) rfl (o_start hm.1 hR) (fun r X' hp => ?_)
  refine l_al2 C dL_law_608 ?_
  refine l_callM C [] [.int (Int32.ofInt r)] dL_law_609 (cMd_start) mvl_X8_start lnl_92 rfl ⟨rfl, Nat.le_of_ble_eq_true rfl, Nat.le_of_ble_eq_true rfl⟩ (Nat.le_of_ble_eq_true rfl) (fun v hv => absurd hv List.not_mem_nil) rfl hp (fun r' Y' hq => ?_)
  obtain ⟨rfl, hR'⟩ := hq
  exact l_eq C dL_law_612 (by decide) (k X' Y' hR')
set_option maxHeartbeats 4000000 in
theorem law_step (C : LC E) (hm : 0 ≤ m ∧ m < 4000000) (hi : 0 ≤ i ∧ i + 3 < elL E) (hR : Rel m X Y) (k : ∀ X' Y', Rel (m + 1) X' Y' → LW E 824 i [] X' Y') : LW E 617 i [] X Y := by
  refine l_al1 C dL_law_617 ?_
  refine l_arg C 1 ⟨hi.1, by omega⟩ dL_law_618 dL_law_619 dL_law_620 dL_law_621 dL_law_622 ?_
  refine l_callX C [.inl (elV E (i + ((1 : Nat) : Int)))] [] dL_law_623 (cSt_step _) mvl_X7_step lnl_93 rfl ⟨rfl, Nat.le_of_ble_eq_true rfl, Nat.le_of_ble_eq_true rfl⟩ (Nat.le_of_ble_eq_true rfl) (rS_cons.mpr ⟨elV_in _, (fun v hv => absurd hv List.not_mem_nil)⟩) rfl (o_step hm hR) (fun r X' hp => ?_)
  refine l_al2 C dL_law_626 ?_
  refine l_arg C 1 ⟨hi.1, by omega⟩ dL_law_627 dL_law_628 dL_law_629 dL_law_630 dL_law_631 ?_
  refine l_callM C [.inl (elV E (i + ((1 : Nat) : Int)))] [.int (Int32.ofInt r)] dL_law_632 (cMd_step _) mvl_X8_step lnl_96 rfl ⟨rfl, Nat.le_of_ble_eq_true rfl, Nat.le_of_ble_eq_true rfl⟩ (Nat.le_of_ble_eq_true rfl) (rS_cons.mpr ⟨elV_in _, (fun v hv => absurd hv List.not_mem_nil)⟩) rfl hp (fun r' Y' hq => ?_)
  obtain ⟨rfl, hR'⟩ := hq
  exact l_eq C dL_law_635 (by decide) (k X' Y' hR')
set_option maxHeartbeats 4000000 in
theorem law_now (C : LC E) (hm : 0 ≤ m ∧ m < 4000000) (hi : 0 ≤ i ∧ i + 3 < elL E) (hR : Rel m X Y) (k : ∀ X' Y', Rel (m + 1) X' Y' → LW E 824 i [] X' Y') : LW E 640 i [] X Y := by
  refine l_al1 C dL_law_640 ?_
  refine l_arg C 1 ⟨hi.1, by omega⟩ dL_law_641 dL_law_642 dL_law_643 dL_law_644 dL_law_645 ?_
  refine l_callX C [.inl (elV E (i + ((1 : Nat) : Int)))] [] dL_law_646 (cSt_now _) mvl_X7_now lnl_97 rfl ⟨rfl, Nat.le_of_ble_eq_true rfl, Nat.le_of_ble_eq_true rfl⟩ (Nat.le_of_ble_eq_true rfl) (rS_cons.mpr ⟨elV_in _, (fun v hv => absurd hv List.not_mem_nil)⟩) rfl (o_now hR) (fun r X' hp => ?_)
  refine l_al2 C dL_law_649 ?_
  refine l_arg C 1 ⟨hi.1, by omega⟩ dL_law_650 dL_law_651 dL_law_652 dL_law_653 dL_law_654 ?_
  refine l_callM C [.inl (elV E (i + ((1 : Nat) : Int)))] [.int (Int32.ofInt r)] dL_law_655 (cMd_now _) mvl_X8_now lnl_100 rfl ⟨rfl, Nat.le_of_ble_eq_true rfl, Nat.le_of_ble_eq_true rfl⟩ (Nat.le_of_ble_eq_true rfl) (rS_cons.mpr ⟨elV_in _, (fun v hv => absurd hv List.not_mem_nil)⟩) rfl hp (fun r' Y' hq => ?_)
  obtain ⟨rfl, hR'⟩ := hq
  exact l_eq C dL_law_658 (by decide) (k X' Y' hR')
set_option maxHeartbeats 4000000 in
theorem law_cell (C : LC E) (hm : 0 ≤ m ∧ m < 4000000) (hi : 0 ≤ i ∧ i + 3 < elL E) (hR : Rel m X Y) (k : ∀ X' Y', Rel (m + 1) X' Y' → LW E 824 i [] X' Y') : LW E 663 i [] X Y := by
  refine l_al1 C dL_law_663 ?_
  refine l_arg C 1 ⟨hi.1, by omega⟩ dL_law_664 dL_law_665 dL_law_666 dL_law_667 dL_law_668 ?_
  refine l_callX C [.inl (elV E (i + ((1 : Nat) : Int)))] [] dL_law_669 (cSt_cell _) mvl_X7_cell lnl_101 rfl ⟨rfl, Nat.le_of_ble_eq_true rfl, Nat.le_of_ble_eq_true rfl⟩ (Nat.le_of_ble_eq_true rfl) (rS_cons.mpr ⟨elV_in _, (fun v hv => absurd hv List.not_mem_nil)⟩) rfl (o_cell hR) (fun r X' hp => ?_)
  refine l_al2 C dL_law_672 ?_
  refine l_arg C 1 ⟨hi.1, by omega⟩ dL_law_673 dL_law_674 dL_law_675 dL_law_676 dL_law_677 ?_
  refine l_callM C [.inl (elV E (i + ((1 : Nat) : Int)))] [.int (Int32.ofInt r)] dL_law_678 (cMd_cell _) mvl_X8_cell lnl_104 rfl ⟨rfl, Nat.le_of_ble_eq_true rfl, Nat.le_of_ble_eq_true rfl⟩ (Nat.le_of_ble_eq_true rfl) (rS_cons.mpr ⟨elV_in _, (fun v hv => absurd hv List.not_mem_nil)⟩) rfl hp (fun r' Y' hq => ?_)
  obtain ⟨rfl, hR'⟩ := hq
  exact l_eq C dL_law_681 (by decide) (k X' Y' hR')
set_option maxHeartbeats 4000000 in
theorem law_register (C : LC E) (hm : 0 ≤ m ∧ m < 4000000) (hi : 0 ≤ i ∧ i + 3 < elL E) (hR : Rel m X Y) (k : ∀ X' Y', Rel (m + 1) X' Y' → LW E 824 i [] X' Y') : LW E 686 i [] X Y := by
  refine l_al1 C dL_law_686 ?_
  refine l_arg C 1 ⟨hi.1, by omega⟩ dL_law_687 dL_law_688 dL_law_689 dL_law_690 dL_law_691 ?_
  refine l_callX C [.inl (elV E (i + ((1 : Nat) : Int)))] [] dL_law_692 (cSt_register _) mvl_X7_register lnl_105 rfl ⟨rfl, Nat.le_of_ble_eq_true rfl, Nat.le_of_ble_eq_true rfl⟩ (Nat.le_of_ble_eq_true rfl) (rS_cons.mpr ⟨elV_in _, (fun v hv => absurd hv List.not_mem_nil)⟩) rfl (o_register hR) (fun r X' hp => ?_)
  refine l_al2 C dL_law_695 ?_
  refine l_arg C 1 ⟨hi.1, by omega⟩ dL_law_696 dL_law_697 dL_law_698 dL_law_699 dL_law_700 ?_
  refine l_callM C [.inl (elV E (i + ((1 : Nat) : Int)))] [.int (Int32.ofInt r)] dL_law_701 (cMd_register _) mvl_X8_register lnl_108 rfl ⟨rfl, Nat.le_of_ble_eq_true rfl, Nat.le_of_ble_eq_true rfl⟩ (Nat.le_of_ble_eq_true rfl) (rS_cons.mpr ⟨elV_in _, (fun v hv => absurd hv List.not_mem_nil)⟩) rfl hp (fun r' Y' hq => ?_)
  obtain ⟨rfl, hR'⟩ := hq
  exact l_eq C dL_law_704 (by decide) (k X' Y' hR')
set_option maxHeartbeats 4000000 in
theorem law_memory (C : LC E) (hm : 0 ≤ m ∧ m < 4000000) (hi : 0 ≤ i ∧ i + 3 < elL E) (hR : Rel m X Y) (k : ∀ X' Y', Rel (m + 1) X' Y' → LW E 824 i [] X' Y') : LW E 709 i [] X Y := by
  refine l_al1 C dL_law_709 ?_
  refine l_arg C 1 ⟨hi.1, by omega⟩ dL_law_710 dL_law_711 dL_law_712 dL_law_713 dL_law_714 ?_
  refine l_callX C [.inl (elV E (i + ((1 : Nat) : Int)))] [] dL_law_715 (cSt_memory _) mvl_X7_memory lnl_109 rfl ⟨rfl, Nat.le_of_ble_eq_true rfl, Nat.le_of_ble_eq_true rfl⟩ (Nat.le_of_ble_eq_true rfl) (rS_cons.mpr ⟨elV_in _, (fun v hv => absurd hv List.not_mem_nil)⟩) rfl (o_memory hR) (fun r X' hp => ?_)
  refine l_al2 C dL_law_718 ?_
  refine l_arg C 1 ⟨hi.1, by omega⟩ dL_law_719 dL_law_720 dL_law_721 dL_law_722 dL_law_723 ?_
  refine l_callM C [.inl (elV E (i + ((1 : Nat) : Int)))] [.int (Int32.ofInt r)] dL_law_724 (cMd_memory _) mvl_X8_memory lnl_112 rfl ⟨rfl, Nat.le_of_ble_eq_true rfl, Nat.le_of_ble_eq_true rfl⟩ (Nat.le_of_ble_eq_true rfl) (rS_cons.mpr ⟨elV_in _, (fun v hv => absurd hv List.not_mem_nil)⟩) rfl hp (fun r' Y' hq => ?_)
  obtain ⟨rfl, hR'⟩ := hq
  exact l_eq C dL_law_727 (by decide) (k X' Y' hR')
set_option maxHeartbeats 4000000 in
theorem law_variable (C : LC E) (hm : 0 ≤ m ∧ m < 4000000) (hi : 0 ≤ i ∧ i + 3 < elL E) (hR : Rel m X Y) (k : ∀ X' Y', Rel (m + 1) X' Y' → LW E 824 i [] X' Y') : LW E 732 i [] X Y := by
  refine l_al1 C dL_law_732 ?_
  refine l_arg C 1 ⟨hi.1, by omega⟩ dL_law_733 dL_law_734 dL_law_735 dL_law_736 dL_law_737 ?_
  refine l_callX C [.inl (elV E (i + ((1 : Nat) : Int)))] [] dL_law_738 (cSt_variable _) mvl_X7_variable lnl_113 rfl ⟨rfl, Nat.le_of_ble_eq_true rfl, Nat.le_of_ble_eq_true rfl⟩ (Nat.le_of_ble_eq_true rfl) (rS_cons.mpr ⟨elV_in _, (fun v hv => absurd hv List.not_mem_nil)⟩) rfl (o_variable hR) (fun r X' hp => ?_)
  refine l_al2 C dL_law_741 ?_
  refine l_arg C 1 ⟨hi.1, by omega⟩ dL_law_742 dL_law_743 dL_law_744 dL_law_745 dL_law_746 ?_
  refine l_callM C [.inl (elV E (i + ((1 : Nat) : Int)))] [.int (Int32.ofInt r)] dL_law_747 (cMd_variable _) mvl_X8_variable lnl_116 rfl ⟨rfl, Nat.le_of_ble_eq_true rfl, Nat.le_of_ble_eq_true rfl⟩ (Nat.le_of_ble_eq_true rfl) (rS_cons.mpr ⟨elV_in _, (fun v hv => absurd hv List.not_mem_nil)⟩) rfl hp (fun r' Y' hq => ?_)
  obtain ⟨rfl, hR'⟩ := hq
  exact l_eq C dL_law_750 (by decide) (k X' Y' hR')
set_option maxHeartbeats 4000000 in
theorem law_out (C : LC E) (hm : 0 ≤ m ∧ m < 4000000) (hi : 0 ≤ i ∧ i + 3 < elL E) (hR : Rel m X Y) (k : ∀ X' Y', Rel (m + 1) X' Y' → LW E 824 i [] X' Y') : LW E 755 i [] X Y := by
  refine l_al1 C dL_law_755 ?_
  refine l_arg C 1 ⟨hi.1, by omega⟩ dL_law_756 dL_law_757 dL_law_758 dL_law_759 dL_law_760 ?_
  refine l_callX C [.inl (elV E (i + ((1 : Nat) : Int)))] [] dL_law_761 (cSt_out _) mvl_X7_out lnl_117 rfl ⟨rfl, Nat.le_of_ble_eq_true rfl, Nat.le_of_ble_eq_true rfl⟩ (Nat.le_of_ble_eq_true rfl) (rS_cons.mpr ⟨elV_in _, (fun v hv => absurd hv List.not_mem_nil)⟩) rfl (o_out hR) (fun r X' hp => ?_)
  refine l_al2 C dL_law_764 ?_
  refine l_arg C 1 ⟨hi.1, by omega⟩ dL_law_765 dL_law_766 dL_law_767 dL_law_768 dL_law_769 ?_
  refine l_callM C [.inl (elV E (i + ((1 : Nat) : Int)))] [.int (Int32.ofInt r)] dL_law_770 (cMd_out _) mvl_X8_out lnl_120 rfl ⟨rfl, Nat.le_of_ble_eq_true rfl, Nat.le_of_ble_eq_true rfl⟩ (Nat.le_of_ble_eq_true rfl) (rS_cons.mpr ⟨elV_in _, (fun v hv => absurd hv List.not_mem_nil)⟩) rfl hp (fun r' Y' hq => ?_)
  obtain ⟨rfl, hR'⟩ := hq
  exact l_eq C dL_law_773 (by decide) (k X' Y' hR')
set_option maxHeartbeats 4000000 in
theorem law_went (C : LC E) (hm : 0 ≤ m ∧ m < 4000000) (hi : 0 ≤ i ∧ i + 3 < elL E) (hR : Rel m X Y) (k : ∀ X' Y', Rel (m + 1) X' Y' → LW E 824 i [] X' Y') : LW E 778 i [] X Y := by
  refine l_al1 C dL_law_778 ?_
  refine l_arg C 1 ⟨hi.1, by omega⟩ dL_law_779 dL_law_780 dL_law_781 dL_law_782 dL_law_783 ?_
  refine l_callX C [.inl (elV E (i + ((1 : Nat) : Int)))] [] dL_law_784 (cSt_went _) mvl_X7_went lnl_121 rfl ⟨rfl, Nat.le_of_ble_eq_true rfl, Nat.le_of_ble_eq_true rfl⟩ (Nat.le_of_ble_eq_true rfl) (rS_cons.mpr ⟨elV_in _, (fun v hv => absurd hv List.not_mem_nil)⟩) rfl (o_went hR) (fun r X' hp => ?_)
  refine l_al2 C dL_law_787 ?_
  refine l_arg C 1 ⟨hi.1, by omega⟩ dL_law_788 dL_law_789 dL_law_790 dL_law_791 dL_law_792 ?_
  refine l_callM C [.inl (elV E (i + ((1 : Nat) : Int)))] [.int (Int32.ofInt r)] dL_law_793 (cMd_went _) mvl_X8_went lnl_124 rfl ⟨rfl, Nat.le_of_ble_eq_true rfl, Nat.le_of_ble_eq_true rfl⟩ (Nat.le_of_ble_eq_true rfl) (rS_cons.mpr ⟨elV_in _, (fun v hv => absurd hv List.not_mem_nil)⟩) rfl hp (fun r' Y' hq => ?_)
  obtain ⟨rfl, hR'⟩ := hq
  exact l_eq C dL_law_796 (by decide) (k X' Y' hR')
set_option maxHeartbeats 4000000 in
theorem law_count (C : LC E) (hm : 0 ≤ m ∧ m < 4000000) (hi : 0 ≤ i ∧ i + 3 < elL E) (hR : Rel m X Y) (k : ∀ X' Y', Rel (m + 1) X' Y' → LW E 824 i [] X' Y') : LW E 801 i [] X Y := by
  refine l_al1 C dL_law_801 ?_
  refine l_arg C 1 ⟨hi.1, by omega⟩ dL_law_802 dL_law_803 dL_law_804 dL_law_805 dL_law_806 ?_
  refine l_callX C [.inl (elV E (i + ((1 : Nat) : Int)))] [] dL_law_807 (cSt_count _) mvl_X7_count lnl_125 rfl ⟨rfl, Nat.le_of_ble_eq_true rfl, Nat.le_of_ble_eq_true rfl⟩ (Nat.le_of_ble_eq_true rfl) (rS_cons.mpr ⟨elV_in _, (fun v hv => absurd hv List.not_mem_nil)⟩) rfl (o_count hR) (fun r X' hp => ?_)
  refine l_al2 C dL_law_810 ?_
  refine l_arg C 1 ⟨hi.1, by omega⟩ dL_law_811 dL_law_812 dL_law_813 dL_law_814 dL_law_815 ?_
  refine l_callM C [.inl (elV E (i + ((1 : Nat) : Int)))] [.int (Int32.ofInt r)] dL_law_816 (cMd_count _) mvl_X8_count lnl_128 rfl ⟨rfl, Nat.le_of_ble_eq_true rfl, Nat.le_of_ble_eq_true rfl⟩ (Nat.le_of_ble_eq_true rfl) (rS_cons.mpr ⟨elV_in _, (fun v hv => absurd hv List.not_mem_nil)⟩) rfl hp (fun r' Y' hq => ?_)
  obtain ⟨rfl, hR'⟩ := hq
  exact l_eq C dL_law_819 (by decide) (k X' Y' hR')
theorem l_sw (C : LC E) (hi : 0 ≤ i ∧ i < elL E) (k : ∀ z : Int32, LW E 32 i [.int z] X Y) : LW E 26 i [] X Y := by
  obtain ⟨p, l, e, s, m, below, meth, c, b, L, xs, D, cA, adx, adm⟩ := E
  obtain ⟨hx, hb, hr, hml, ho, ht, hX, hbl, hlk, hK, hwx, hwm, hdis, hL⟩ := C
  have hi : 0 ≤ i ∧ i < (L : Int) := hi
  have hin : inR i := by unfold inR; omega
  intro H ls h1 h2 h3 h4 h5 h6
  refine lv_aload_n hx hb dL_law_26 rfl (lv_at h4 0 rfl) ?_
  refine lv_iload_n hx hb dL_law_27 rfl (lv_at h4 3 rfl) ?_
  refine va_sld (A := fun q => s.heap.size ≤ q) hx hb hX hbl (Nat.not_le.mpr hbl) ⟨h3.1, fun q q1 _ => h3.2 q q1, fun q hq => absurd hq List.not_mem_nil⟩ (vp_in_of_inb hin ⟨by omega, hi.2⟩) dL_law_28 ?_
  refine lv_bipush hx hb dL_law_29 rfl ?_
  refine lv_iand hx hb dL_law_31 ?_
  exact k _ H ls h1 h2 h3 h4 h5 h6
theorem l_out (C : LC E) {z : Int32} (h : z.toInt < 0 ∨ 27 < z.toInt) (k : LW E 824 i [] X Y) : LW E 32 i [.int z] X Y := by
  obtain ⟨p, l, e, s, m, below, meth, c, b, L, xs, D, cA, adx, adm⟩ := E
  obtain ⟨hx, hb, -⟩ := C
  intro H ls h1 h2 h3 h4 h5 h6
  exact lv_tableOut (tgt := 824) hx hb dL_law_32 h (by decide) (k H ls h1 h2 h3 h4 h5 h6)
theorem l_in (C : LC E) {z : Int32} (n : Nat) (off : Int) (tgt : Nat) (hz : z.toInt = n) (hn : n ≤ 27) (hof : (#[128, 151, 164, 177, 190, 213, 246, 269, 312, 345, 358, 371, 384, 417, 450, 493, 506, 539, 572, 585, 608, 631, 654, 677, 700, 723, 746, 769] : Array Int)[n]? = some off) (htg : (32 : Int) + off = (tgt : Int)) (k : LW E tgt i [] X Y) : LW E 32 i [.int z] X Y := by
  obtain ⟨p, l, e, s, m, below, meth, c, b, L, xs, D, cA, adx, adm⟩ := E
  obtain ⟨hx, hb, -⟩ := C
  intro H ls h1 h2 h3 h4 h5 h6
  have e1 : (z.toInt - 0).toNat = n := by omega
  exact lv_tableIn (tgt := tgt) (off := off) hx hb dL_law_32 (by omega) (by omega) (by rw [e1]; exact hof) htg (k H ls h1 h2 h3 h4 h5 h6)
set_option maxHeartbeats 4000000 in
theorem law_switch (C : LC E) (hm : 0 ≤ m ∧ m < 4000000) (hi : 0 ≤ i ∧ i + 3 < elL E) (hR : Rel m X Y) (k : ∀ X' Y', Rel (m + 1) X' Y' → LW E 824 i [] X' Y') : LW E 26 i [] X Y := by
  refine l_sw C ⟨hi.1, by omega⟩ (fun z => ?_)
  by_cases h0 : z.toInt < 0 ∨ 27 < z.toInt
  · exact l_out C h0 (k X Y (hR.mono (by omega)))
  have hz : z.toInt = 0 ∨ z.toInt = 1 ∨ z.toInt = 2 ∨ z.toInt = 3 ∨ z.toInt = 4 ∨ z.toInt = 5 ∨ z.toInt = 6 ∨ z.toInt = 7 ∨ z.toInt = 8 ∨ z.toInt = 9 ∨ z.toInt = 10 ∨ z.toInt = 11 ∨ z.toInt = 12 ∨ z.toInt = 13 ∨ z.toInt = 14 ∨ z.toInt = 15 ∨ z.toInt = 16 ∨ z.toInt = 17 ∨ z.toInt = 18 ∨ z.toInt = 19 ∨ z.toInt = 20 ∨ z.toInt = 21 ∨ z.toInt = 22 ∨ z.toInt = 23 ∨ z.toInt = 24 ∨ z.toInt = 25 ∨ z.toInt = 26 ∨ z.toInt = 27 := by omega
  rcases hz with hz | hz | hz | hz | hz | hz | hz | hz | hz | hz | hz | hz | hz | hz | hz | hz | hz | hz | hz | hz | hz | hz | hz | hz | hz | hz | hz | hz
  · exact l_in C 0 128 160 hz (by decide) rfl (by decide) (law_write C hm hi hR k)
  · exact l_in C 1 151 183 hz (by decide) rfl (by decide) (law_wipe C hm hi hR k)
  · exact l_in C 2 164 196 hz (by decide) rfl (by decide) (law_fault C hm hi hR k)
  · exact l_in C 3 177 209 hz (by decide) rfl (by decide) (law_lay C hm hi hR k)
  · exact l_in C 4 190 222 hz (by decide) rfl (by decide) (law_cause C hm hi hR k)
  · exact l_in C 5 213 245 hz (by decide) rfl (by decide) (law_code C hm hi hR k)
  · exact l_in C 6 246 278 hz (by decide) rfl (by decide) (law_registers C hm hi hR k)
  · exact l_in C 7 269 301 hz (by decide) rfl (by decide) (law_costs C hm hi hR k)
  · exact l_in C 8 312 344 hz (by decide) rfl (by decide) (law_weigh C hm hi hR k)
  · exact l_in C 9 345 377 hz (by decide) rfl (by decide) (law_profile C hm hi hR k)
  · exact l_in C 10 358 390 hz (by decide) rfl (by decide) (law_undo C hm hi hR k)
  · exact l_in C 11 371 403 hz (by decide) rfl (by decide) (law_states C hm hi hR k)
  · exact l_in C 12 384 416 hz (by decide) rfl (by decide) (law_state C hm hi hR k)
  · exact l_in C 13 417 449 hz (by decide) rfl (by decide) (law_passage C hm hi hR k)
  · exact l_in C 14 450 482 hz (by decide) rfl (by decide) (law_version C hm hi hR k)
  · exact l_in C 15 493 525 hz (by decide) rfl (by decide) (law_best C hm hi hR k)
  · exact l_in C 16 506 538 hz (by decide) rfl (by decide) (law_meets C hm hi hR k)
  · exact l_in C 17 539 571 hz (by decide) rfl (by decide) (law_ifMeets C hm hi hR k)
  · exact l_in C 18 572 604 hz (by decide) rfl (by decide) (law_start C hm hi hR k)
  · exact l_in C 19 585 617 hz (by decide) rfl (by decide) (law_step C hm hi hR k)
  · exact l_in C 20 608 640 hz (by decide) rfl (by decide) (law_now C hm hi hR k)
  · exact l_in C 21 631 663 hz (by decide) rfl (by decide) (law_cell C hm hi hR k)
  · exact l_in C 22 654 686 hz (by decide) rfl (by decide) (law_register C hm hi hR k)
  · exact l_in C 23 677 709 hz (by decide) rfl (by decide) (law_memory C hm hi hR k)
  · exact l_in C 24 700 732 hz (by decide) rfl (by decide) (law_variable C hm hi hR k)
  · exact l_in C 25 723 755 hz (by decide) rfl (by decide) (law_out C hm hi hR k)
  · exact l_in C 26 746 778 hz (by decide) rfl (by decide) (law_went C hm hi hR k)
  · exact l_in C 27 769 801 hz (by decide) rfl (by decide) (law_count C hm hi hR k)
theorem elL_le (C : LC E) : elL E ≤ 2048 := by
  obtain ⟨p, l, e, s, m, below, meth, c, b, L, xs, D, cA, adx, adm⟩ := E
  obtain ⟨hx, hb, hr, hml, ho, ht, hX, hbl, hlk, hK, hwx, hwm, hdis, hL⟩ := C
  exact hL
theorem law_loop (C : LC E) : ∀ (n : Nat) (m : Int) (X Y : Mem), 0 ≤ m → m ≤ 600 → (elL E : Int) + 4 - 4 * m ≤ 4 * n → Rel m X Y → LW E 18 (4 * m) [] X Y := by
  have hL := elL_le C
  intro n
  induction n with
  | zero =>
    intro m X Y m0 m1 hn hR
    exact l_head C ⟨by omega, by omega⟩ (fun _ => l_end C) (fun z => absurd z (by omega))
  | succ n ih =>
    intro m X Y m0 m1 hn hR
    refine l_head C ⟨by omega, by omega⟩ (fun _ => l_end C) (fun z => law_switch C ⟨m0, by omega⟩ ⟨by omega, by omega⟩ hR (fun X' Y' hR' => l_next C ⟨by omega, by omega⟩ ?_))
    have e : 4 * m + 4 = 4 * (m + 1) := by omega
    rw [e]
    exact ih (m + 1) X' Y' (by omega) (by omega) (by omega) hR'
end LR
