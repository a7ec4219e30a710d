/-! THE LAW'S HELPERS (written by gen_help.py) -/
def wq_0 : List Cond := [Cond.initialized RL, Cond.classLink RL 13 sIAE, Cond.classLink RL 19 sISE, Cond.classLink RL 28 sIOB, Cond.classLink RL 30 sNSE, Cond.codeWith yL_acts cL_acts 3 (some .int) [(0, 8, 11, 13)], Cond.static yL_acts, Cond.methodLink RL 7 yX8_acts, Cond.code yX8_acts cX8_acts 4 (some .int), Cond.instanceMethod yX8_acts, Cond.selects RX8 yX8_acts yX8_acts, Cond.codeWith yL_join cL_join 7 (some .int) [(0, 14, 17, 13), (0, 14, 21, 19)], Cond.static yL_join, Cond.methodLink RL 15 yX8_join, Cond.code yX8_join cX8_join 5 (some .int), Cond.instanceMethod yX8_join, Cond.selects RX8 yX8_join yX8_join, Cond.codeWith yL_near cL_near 5 (some .int) [(0, 10, 13, 13), (0, 10, 17, 19)], Cond.static yL_near, Cond.methodLink RL 21 yX8_near, Cond.code yX8_near cX8_near 3 (some .int), Cond.instanceMethod yX8_near, Cond.selects RX8 yX8_near yX8_near, Cond.codeWith yL_go cL_go 5 (some .int) [(0, 10, 13, 28), (0, 10, 17, 30), (0, 10, 21, 19)], Cond.static yL_go, Cond.methodLink RL 25 yX8_go, Cond.code yX8_go cX8_go 3 (some .int), Cond.instanceMethod yX8_go, Cond.selects RX8 yX8_go yX8_go, Cond.codeWith yL_tidy cL_tidy 3 (some .int) [(0, 8, 11, 19)], Cond.static yL_tidy, Cond.methodLink RL 32 yX8_tidy, Cond.code yX8_tidy cX8_tidy 1 (some .int), Cond.instanceMethod yX8_tidy, Cond.selects RX8 yX8_tidy yX8_tidy, Cond.codeWith yL_put cL_put 5 (some .int) [(0, 10, 13, 28), (0, 10, 17, 13), (0, 10, 21, 19)], Cond.static yL_put, Cond.methodLink RL 35 yX8_put, Cond.code yX8_put cX8_put 3 (some .int), Cond.instanceMethod yX8_put]
theorem wr_0 : ∀ w ∈ wq_0, w ∈ TBL := tb_ch _ [125, 733, 863, 886, 887, 732, 731, 734, 737, 735, 736, 862, 861, 864, 867, 865, 866, 877, 876, 878, 881, 879, 880, 885, 884, 888, 891, 889, 890, 932, 931, 933, 936, 934, 935, 939, 938, 940, 943, 941] (by decide +kernel) (by decide +kernel)
theorem qini : Cond.initialized RL ∈ TBL := wr_0 _ (List.mem_of_getElem? (i := 0) rfl)
theorem qcl_13 : Cond.classLink RL 13 sIAE ∈ TBL := wr_0 _ (List.mem_of_getElem? (i := 1) rfl)
theorem qcl_19 : Cond.classLink RL 19 sISE ∈ TBL := wr_0 _ (List.mem_of_getElem? (i := 2) rfl)
theorem qcl_28 : Cond.classLink RL 28 sIOB ∈ TBL := wr_0 _ (List.mem_of_getElem? (i := 3) rfl)
theorem qcl_30 : Cond.classLink RL 30 sNSE ∈ TBL := wr_0 _ (List.mem_of_getElem? (i := 4) rfl)
theorem qco_acts : Cond.codeWith yL_acts cL_acts 3 (some .int) [(0, 8, 11, 13)] ∈ TBL := wr_0 _ (List.mem_of_getElem? (i := 5) rfl)
theorem qst_acts : Cond.static yL_acts ∈ TBL := wr_0 _ (List.mem_of_getElem? (i := 6) rfl)
theorem qlm_7 : Cond.methodLink RL 7 yX8_acts ∈ TBL := wr_0 _ (List.mem_of_getElem? (i := 7) rfl)
theorem lc_X8_acts : Cond.code yX8_acts cX8_acts 4 (some .int) ∈ TBL := wr_0 _ (List.mem_of_getElem? (i := 8) rfl)
theorem li_X8_acts : Cond.instanceMethod yX8_acts ∈ TBL := wr_0 _ (List.mem_of_getElem? (i := 9) rfl)
theorem ls_X8_acts : Cond.selects RX8 yX8_acts yX8_acts ∈ TBL := wr_0 _ (List.mem_of_getElem? (i := 10) rfl)
theorem qco_join : Cond.codeWith yL_join cL_join 7 (some .int) [(0, 14, 17, 13), (0, 14, 21, 19)] ∈ TBL := wr_0 _ (List.mem_of_getElem? (i := 11) rfl)
theorem qst_join : Cond.static yL_join ∈ TBL := wr_0 _ (List.mem_of_getElem? (i := 12) rfl)
theorem qlm_15 : Cond.methodLink RL 15 yX8_join ∈ TBL := wr_0 _ (List.mem_of_getElem? (i := 13) rfl)
theorem lc_X8_join : Cond.code yX8_join cX8_join 5 (some .int) ∈ TBL := wr_0 _ (List.mem_of_getElem? (i := 14) rfl)
theorem li_X8_join : Cond.instanceMethod yX8_join ∈ TBL := wr_0 _ (List.mem_of_getElem? (i := 15) rfl)
theorem ls_X8_join : Cond.selects RX8 yX8_join yX8_join ∈ TBL := wr_0 _ (List.mem_of_getElem? (i := 16) rfl)
theorem qco_near : Cond.codeWith yL_near cL_near 5 (some .int) [(0, 10, 13, 13), (0, 10, 17, 19)] ∈ TBL := wr_0 _ (List.mem_of_getElem? (i := 17) rfl)
theorem qst_near : Cond.static yL_near ∈ TBL := wr_0 _ (List.mem_of_getElem? (i := 18) rfl)
theorem qlm_21 : Cond.methodLink RL 21 yX8_near ∈ TBL := wr_0 _ (List.mem_of_getElem? (i := 19) rfl)
theorem lc_X8_near : Cond.code yX8_near cX8_near 3 (some .int) ∈ TBL := wr_0 _ (List.mem_of_getElem? (i := 20) rfl)
theorem li_X8_near : Cond.instanceMethod yX8_near ∈ TBL := wr_0 _ (List.mem_of_getElem? (i := 21) rfl)
theorem ls_X8_near : Cond.selects RX8 yX8_near yX8_near ∈ TBL := wr_0 _ (List.mem_of_getElem? (i := 22) rfl)
theorem qco_go : Cond.codeWith yL_go cL_go 5 (some .int) [(0, 10, 13, 28), (0, 10, 17, 30), (0, 10, 21, 19)] ∈ TBL := wr_0 _ (List.mem_of_getElem? (i := 23) rfl)
theorem qst_go : Cond.static yL_go ∈ TBL := wr_0 _ (List.mem_of_getElem? (i := 24) rfl)
theorem qlm_25 : Cond.methodLink RL 25 yX8_go ∈ TBL := wr_0 _ (List.mem_of_getElem? (i := 25) rfl)
theorem lc_X8_go : Cond.code yX8_go cX8_go 3 (some .int) ∈ TBL := wr_0 _ (List.mem_of_getElem? (i := 26) rfl)
theorem li_X8_go : Cond.instanceMethod yX8_go ∈ TBL := wr_0 _ (List.mem_of_getElem? (i := 27) rfl)
theorem ls_X8_go : Cond.selects RX8 yX8_go yX8_go ∈ TBL := wr_0 _ (List.mem_of_getElem? (i := 28) rfl)
theorem qco_tidy : Cond.codeWith yL_tidy cL_tidy 3 (some .int) [(0, 8, 11, 19)] ∈ TBL := wr_0 _ (List.mem_of_getElem? (i := 29) rfl)
theorem qst_tidy : Cond.static yL_tidy ∈ TBL := wr_0 _ (List.mem_of_getElem? (i := 30) rfl)
theorem qlm_32 : Cond.methodLink RL 32 yX8_tidy ∈ TBL := wr_0 _ (List.mem_of_getElem? (i := 31) rfl)
theorem lc_X8_tidy : Cond.code yX8_tidy cX8_tidy 1 (some .int) ∈ TBL := wr_0 _ (List.mem_of_getElem? (i := 32) rfl)
theorem li_X8_tidy : Cond.instanceMethod yX8_tidy ∈ TBL := wr_0 _ (List.mem_of_getElem? (i := 33) rfl)
theorem ls_X8_tidy : Cond.selects RX8 yX8_tidy yX8_tidy ∈ TBL := wr_0 _ (List.mem_of_getElem? (i := 34) rfl)
theorem qco_put : Cond.codeWith yL_put cL_put 5 (some .int) [(0, 10, 13, 28), (0, 10, 17, 13), (0, 10, 21, 19)] ∈ TBL := wr_0 _ (List.mem_of_getElem? (i := 35) rfl)
theorem qst_put : Cond.static yL_put ∈ TBL := wr_0 _ (List.mem_of_getElem? (i := 36) rfl)
theorem qlm_35 : Cond.methodLink RL 35 yX8_put ∈ TBL := wr_0 _ (List.mem_of_getElem? (i := 37) rfl)
theorem lc_X8_put : Cond.code yX8_put cX8_put 3 (some .int) ∈ TBL := wr_0 _ (List.mem_of_getElem? (i := 38) rfl)
theorem li_X8_put : Cond.instanceMethod yX8_put ∈ TBL := wr_0 _ (List.mem_of_getElem? (i := 39) rfl)
def wq_1 : List Cond := [Cond.selects RX8 yX8_put yX8_put, Cond.codeWith yL_cut cL_cut 4 (some .int) [(0, 9, 12, 28), (0, 9, 15, 19)], Cond.static yL_cut, Cond.methodLink RL 38 yX8_cut, Cond.code yX8_cut cX8_cut 2 (some .int), Cond.instanceMethod yX8_cut, Cond.selects RX8 yX8_cut yX8_cut, Cond.codeWith yL_undo cL_undo 3 (some .int) [(0, 8, 11, 19)], Cond.static yL_undo, Cond.methodLink RL 42 yX8_undo, Cond.code yX8_undo cX8_undo 1 (some .int), Cond.instanceMethod yX8_undo, Cond.selects RX8 yX8_undo yX8_undo, Cond.codeWith yL_node cL_node 5 (some .int) [(0, 10, 13, 28), (0, 10, 17, 30)], Cond.static yL_node, Cond.methodLink RL 45 yX8_node, Cond.code yX8_node cX8_node 3 (some .int), Cond.instanceMethod yX8_node, Cond.selects RX8 yX8_node yX8_node, Cond.codeWith yL_held cL_held 6 (some .int) [(0, 12, 15, 28), (0, 12, 19, 30)], Cond.static yL_held, Cond.methodLink RL 48 yX8_held, Cond.code yX8_held cX8_held 5 (some .int), Cond.instanceMethod yX8_held, Cond.selects RX8 yX8_held yX8_held, Cond.codeWith yL_zone cL_zone 6 (some .int) [(0, 12, 15, 28)], Cond.static yL_zone, Cond.methodLink RL 52 yX8_zone, Cond.code yX8_zone cX8_zone 4 (some .int), Cond.instanceMethod yX8_zone, Cond.selects RX8 yX8_zone yX8_zone, Cond.codeWith yL_box cL_box 5 (some .int) [(0, 10, 13, 13), (0, 10, 17, 30)], Cond.static yL_box, Cond.methodLink RL 55 yX8_box, Cond.code yX8_box cX8_box 4 (some .int), Cond.instanceMethod yX8_box, Cond.selects RX8 yX8_box yX8_box, Cond.codeWith yL_cell cL_cell 7 (some .int) [(0, 14, 17, 28), (0, 14, 21, 13), (0, 14, 25, 30)], Cond.static yL_cell, Cond.methodLink RL 58 yX8_cell]
theorem wr_1 : ∀ w ∈ wq_1, w ∈ TBL := tb_ch _ [942, 951, 950, 952, 955, 953, 954, 958, 957, 959, 962, 960, 961, 970, 969, 971, 974, 972, 973, 977, 976, 978, 981, 979, 980, 1008, 1007, 1009, 1012, 1010, 1011, 1016, 1015, 1017, 1020, 1018, 1019, 1029, 1028, 1030] (by decide +kernel) (by decide +kernel)
theorem ls_X8_put : Cond.selects RX8 yX8_put yX8_put ∈ TBL := wr_1 _ (List.mem_of_getElem? (i := 0) rfl)
theorem qco_cut : Cond.codeWith yL_cut cL_cut 4 (some .int) [(0, 9, 12, 28), (0, 9, 15, 19)] ∈ TBL := wr_1 _ (List.mem_of_getElem? (i := 1) rfl)
theorem qst_cut : Cond.static yL_cut ∈ TBL := wr_1 _ (List.mem_of_getElem? (i := 2) rfl)
theorem qlm_38 : Cond.methodLink RL 38 yX8_cut ∈ TBL := wr_1 _ (List.mem_of_getElem? (i := 3) rfl)
theorem lc_X8_cut : Cond.code yX8_cut cX8_cut 2 (some .int) ∈ TBL := wr_1 _ (List.mem_of_getElem? (i := 4) rfl)
theorem li_X8_cut : Cond.instanceMethod yX8_cut ∈ TBL := wr_1 _ (List.mem_of_getElem? (i := 5) rfl)
theorem ls_X8_cut : Cond.selects RX8 yX8_cut yX8_cut ∈ TBL := wr_1 _ (List.mem_of_getElem? (i := 6) rfl)
theorem qco_undo : Cond.codeWith yL_undo cL_undo 3 (some .int) [(0, 8, 11, 19)] ∈ TBL := wr_1 _ (List.mem_of_getElem? (i := 7) rfl)
theorem qst_undo : Cond.static yL_undo ∈ TBL := wr_1 _ (List.mem_of_getElem? (i := 8) rfl)
theorem qlm_42 : Cond.methodLink RL 42 yX8_undo ∈ TBL := wr_1 _ (List.mem_of_getElem? (i := 9) rfl)
theorem lc_X8_undo : Cond.code yX8_undo cX8_undo 1 (some .int) ∈ TBL := wr_1 _ (List.mem_of_getElem? (i := 10) rfl)
theorem li_X8_undo : Cond.instanceMethod yX8_undo ∈ TBL := wr_1 _ (List.mem_of_getElem? (i := 11) rfl)
theorem ls_X8_undo : Cond.selects RX8 yX8_undo yX8_undo ∈ TBL := wr_1 _ (List.mem_of_getElem? (i := 12) rfl)
theorem qco_node : Cond.codeWith yL_node cL_node 5 (some .int) [(0, 10, 13, 28), (0, 10, 17, 30)] ∈ TBL := wr_1 _ (List.mem_of_getElem? (i := 13) rfl)
theorem qst_node : Cond.static yL_node ∈ TBL := wr_1 _ (List.mem_of_getElem? (i := 14) rfl)
theorem qlm_45 : Cond.methodLink RL 45 yX8_node ∈ TBL := wr_1 _ (List.mem_of_getElem? (i := 15) rfl)
theorem lc_X8_node : Cond.code yX8_node cX8_node 3 (some .int) ∈ TBL := wr_1 _ (List.mem_of_getElem? (i := 16) rfl)
theorem li_X8_node : Cond.instanceMethod yX8_node ∈ TBL := wr_1 _ (List.mem_of_getElem? (i := 17) rfl)
theorem ls_X8_node : Cond.selects RX8 yX8_node yX8_node ∈ TBL := wr_1 _ (List.mem_of_getElem? (i := 18) rfl)
theorem qco_held : Cond.codeWith yL_held cL_held 6 (some .int) [(0, 12, 15, 28), (0, 12, 19, 30)] ∈ TBL := wr_1 _ (List.mem_of_getElem? (i := 19) rfl)
theorem qst_held : Cond.static yL_held ∈ TBL := wr_1 _ (List.mem_of_getElem? (i := 20) rfl)
theorem qlm_48 : Cond.methodLink RL 48 yX8_held ∈ TBL := wr_1 _ (List.mem_of_getElem? (i := 21) rfl)
theorem lc_X8_held : Cond.code yX8_held cX8_held 5 (some .int) ∈ TBL := wr_1 _ (List.mem_of_getElem? (i := 22) rfl)
theorem li_X8_held : Cond.instanceMethod yX8_held ∈ TBL := wr_1 _ (List.mem_of_getElem? (i := 23) rfl)
theorem ls_X8_held : Cond.selects RX8 yX8_held yX8_held ∈ TBL := wr_1 _ (List.mem_of_getElem? (i := 24) rfl)
theorem qco_zone : Cond.codeWith yL_zone cL_zone 6 (some .int) [(0, 12, 15, 28)] ∈ TBL := wr_1 _ (List.mem_of_getElem? (i := 25) rfl)
theorem qst_zone : Cond.static yL_zone ∈ TBL := wr_1 _ (List.mem_of_getElem? (i := 26) rfl)
theorem qlm_52 : Cond.methodLink RL 52 yX8_zone ∈ TBL := wr_1 _ (List.mem_of_getElem? (i := 27) rfl)
theorem lc_X8_zone : Cond.code yX8_zone cX8_zone 4 (some .int) ∈ TBL := wr_1 _ (List.mem_of_getElem? (i := 28) rfl)
theorem li_X8_zone : Cond.instanceMethod yX8_zone ∈ TBL := wr_1 _ (List.mem_of_getElem? (i := 29) rfl)
theorem ls_X8_zone : Cond.selects RX8 yX8_zone yX8_zone ∈ TBL := wr_1 _ (List.mem_of_getElem? (i := 30) rfl)
theorem qco_box : Cond.codeWith yL_box cL_box 5 (some .int) [(0, 10, 13, 13), (0, 10, 17, 30)] ∈ TBL := wr_1 _ (List.mem_of_getElem? (i := 31) rfl)
theorem qst_box : Cond.static yL_box ∈ TBL := wr_1 _ (List.mem_of_getElem? (i := 32) rfl)
theorem qlm_55 : Cond.methodLink RL 55 yX8_box ∈ TBL := wr_1 _ (List.mem_of_getElem? (i := 33) rfl)
theorem lc_X8_box : Cond.code yX8_box cX8_box 4 (some .int) ∈ TBL := wr_1 _ (List.mem_of_getElem? (i := 34) rfl)
theorem li_X8_box : Cond.instanceMethod yX8_box ∈ TBL := wr_1 _ (List.mem_of_getElem? (i := 35) rfl)
theorem ls_X8_box : Cond.selects RX8 yX8_box yX8_box ∈ TBL := wr_1 _ (List.mem_of_getElem? (i := 36) rfl)
theorem qco_cell : Cond.codeWith yL_cell cL_cell 7 (some .int) [(0, 14, 17, 28), (0, 14, 21, 13), (0, 14, 25, 30)] ∈ TBL := wr_1 _ (List.mem_of_getElem? (i := 37) rfl)
theorem qst_cell : Cond.static yL_cell ∈ TBL := wr_1 _ (List.mem_of_getElem? (i := 38) rfl)
theorem qlm_58 : Cond.methodLink RL 58 yX8_cell ∈ TBL := wr_1 _ (List.mem_of_getElem? (i := 39) rfl)
def wq_2 : List Cond := [Cond.code yX8_cell cX8_cell 7 (some .int), Cond.instanceMethod yX8_cell, Cond.selects RX8 yX8_cell yX8_cell, Cond.codeWith yL_heir cL_heir 6 (some .int) [(0, 12, 15, 28)], Cond.static yL_heir, Cond.methodLink RL 61 yX8_heir, Cond.code yX8_heir cX8_heir 6 (some .int), Cond.instanceMethod yX8_heir, Cond.selects RX8 yX8_heir yX8_heir, Cond.codeWith yL_key cL_key 5 (some .int) [(0, 10, 13, 28), (0, 10, 17, 30)], Cond.static yL_key, Cond.methodLink RL 64 yX8_key, Cond.code yX8_key cX8_key 3 (some .int), Cond.instanceMethod yX8_key, Cond.selects RX8 yX8_key yX8_key, Cond.codeWith yL_point cL_point 6 (some .int) [(0, 12, 15, 28), (0, 12, 19, 30)], Cond.static yL_point, Cond.methodLink RL 67 yX8_point, Cond.code yX8_point cX8_point 6 (some .int), Cond.instanceMethod yX8_point, Cond.selects RX8 yX8_point yX8_point, Cond.codeWith yL_way cL_way 8 (some .int) [(0, 16, 19, 28), (0, 16, 23, 13), (0, 16, 27, 19)], Cond.static yL_way, Cond.methodLink RL 70 yX8_way, Cond.code yX8_way cX8_way 7 (some .int), Cond.instanceMethod yX8_way, Cond.selects RX8 yX8_way yX8_way, Cond.codeWith yL_seek cL_seek 6 (some .int) [(0, 12, 15, 28), (0, 12, 19, 30), (0, 12, 23, 19)], Cond.static yL_seek, Cond.methodLink RL 74 yX8_seek, Cond.code yX8_seek cX8_seek 5 (some .int), Cond.instanceMethod yX8_seek, Cond.selects RX8 yX8_seek yX8_seek, Cond.codeWith yL_risk cL_risk 4 (some .int) [(0, 9, 12, 28)], Cond.static yL_risk, Cond.methodLink RL 77 yX8_risk, Cond.code yX8_risk cX8_risk 4 (some .int), Cond.instanceMethod yX8_risk, Cond.selects RX8 yX8_risk yX8_risk, Cond.codeWith yL_order cL_order 5 (some .int) [(0, 10, 13, 13)]]
theorem wr_2 : ∀ w ∈ wq_2, w ∈ TBL := tb_ch _ [1033, 1031, 1032, 1042, 1041, 1043, 1046, 1044, 1045, 1050, 1049, 1051, 1054, 1052, 1053, 1057, 1056, 1058, 1061, 1059, 1060, 1066, 1065, 1067, 1070, 1068, 1069, 1109, 1108, 1110, 1113, 1111, 1112, 1132, 1131, 1133, 1136, 1134, 1135, 1143] (by decide +kernel) (by decide +kernel)
theorem lc_X8_cell : Cond.code yX8_cell cX8_cell 7 (some .int) ∈ TBL := wr_2 _ (List.mem_of_getElem? (i := 0) rfl)
theorem li_X8_cell : Cond.instanceMethod yX8_cell ∈ TBL := wr_2 _ (List.mem_of_getElem? (i := 1) rfl)
theorem ls_X8_cell : Cond.selects RX8 yX8_cell yX8_cell ∈ TBL := wr_2 _ (List.mem_of_getElem? (i := 2) rfl)
theorem qco_heir : Cond.codeWith yL_heir cL_heir 6 (some .int) [(0, 12, 15, 28)] ∈ TBL := wr_2 _ (List.mem_of_getElem? (i := 3) rfl)
theorem qst_heir : Cond.static yL_heir ∈ TBL := wr_2 _ (List.mem_of_getElem? (i := 4) rfl)
theorem qlm_61 : Cond.methodLink RL 61 yX8_heir ∈ TBL := wr_2 _ (List.mem_of_getElem? (i := 5) rfl)
theorem lc_X8_heir : Cond.code yX8_heir cX8_heir 6 (some .int) ∈ TBL := wr_2 _ (List.mem_of_getElem? (i := 6) rfl)
theorem li_X8_heir : Cond.instanceMethod yX8_heir ∈ TBL := wr_2 _ (List.mem_of_getElem? (i := 7) rfl)
theorem ls_X8_heir : Cond.selects RX8 yX8_heir yX8_heir ∈ TBL := wr_2 _ (List.mem_of_getElem? (i := 8) rfl)
theorem qco_key : Cond.codeWith yL_key cL_key 5 (some .int) [(0, 10, 13, 28), (0, 10, 17, 30)] ∈ TBL := wr_2 _ (List.mem_of_getElem? (i := 9) rfl)
theorem qst_key : Cond.static yL_key ∈ TBL := wr_2 _ (List.mem_of_getElem? (i := 10) rfl)
theorem qlm_64 : Cond.methodLink RL 64 yX8_key ∈ TBL := wr_2 _ (List.mem_of_getElem? (i := 11) rfl)
theorem lc_X8_key : Cond.code yX8_key cX8_key 3 (some .int) ∈ TBL := wr_2 _ (List.mem_of_getElem? (i := 12) rfl)
theorem li_X8_key : Cond.instanceMethod yX8_key ∈ TBL := wr_2 _ (List.mem_of_getElem? (i := 13) rfl)
theorem ls_X8_key : Cond.selects RX8 yX8_key yX8_key ∈ TBL := wr_2 _ (List.mem_of_getElem? (i := 14) rfl)
theorem qco_point : Cond.codeWith yL_point cL_point 6 (some .int) [(0, 12, 15, 28), (0, 12, 19, 30)] ∈ TBL := wr_2 _ (List.mem_of_getElem? (i := 15) rfl)
theorem qst_point : Cond.static yL_point ∈ TBL := wr_2 _ (List.mem_of_getElem? (i := 16) rfl)
theorem qlm_67 : Cond.methodLink RL 67 yX8_point ∈ TBL := wr_2 _ (List.mem_of_getElem? (i := 17) rfl)
theorem lc_X8_point : Cond.code yX8_point cX8_point 6 (some .int) ∈ TBL := wr_2 _ (List.mem_of_getElem? (i := 18) rfl)
theorem li_X8_point : Cond.instanceMethod yX8_point ∈ TBL := wr_2 _ (List.mem_of_getElem? (i := 19) rfl)
theorem ls_X8_point : Cond.selects RX8 yX8_point yX8_point ∈ TBL := wr_2 _ (List.mem_of_getElem? (i := 20) rfl)
theorem qco_way : Cond.codeWith yL_way cL_way 8 (some .int) [(0, 16, 19, 28), (0, 16, 23, 13), (0, 16, 27, 19)] ∈ TBL := wr_2 _ (List.mem_of_getElem? (i := 21) rfl)
theorem qst_way : Cond.static yL_way ∈ TBL := wr_2 _ (List.mem_of_getElem? (i := 22) rfl)
theorem qlm_70 : Cond.methodLink RL 70 yX8_way ∈ TBL := wr_2 _ (List.mem_of_getElem? (i := 23) rfl)
theorem lc_X8_way : Cond.code yX8_way cX8_way 7 (some .int) ∈ TBL := wr_2 _ (List.mem_of_getElem? (i := 24) rfl)
theorem li_X8_way : Cond.instanceMethod yX8_way ∈ TBL := wr_2 _ (List.mem_of_getElem? (i := 25) rfl)
theorem ls_X8_way : Cond.selects RX8 yX8_way yX8_way ∈ TBL := wr_2 _ (List.mem_of_getElem? (i := 26) rfl)
theorem qco_seek : Cond.codeWith yL_seek cL_seek 6 (some .int) [(0, 12, 15, 28), (0, 12, 19, 30), (0, 12, 23, 19)] ∈ TBL := wr_2 _ (List.mem_of_getElem? (i := 27) rfl)
theorem qst_seek : Cond.static yL_seek ∈ TBL := wr_2 _ (List.mem_of_getElem? (i := 28) rfl)
theorem qlm_74 : Cond.methodLink RL 74 yX8_seek ∈ TBL := wr_2 _ (List.mem_of_getElem? (i := 29) rfl)
theorem lc_X8_seek : Cond.code yX8_seek cX8_seek 5 (some .int) ∈ TBL := wr_2 _ (List.mem_of_getElem? (i := 30) rfl)
theorem li_X8_seek : Cond.instanceMethod yX8_seek ∈ TBL := wr_2 _ (List.mem_of_getElem? (i := 31) rfl)
theorem ls_X8_seek : Cond.selects RX8 yX8_seek yX8_seek ∈ TBL := wr_2 _ (List.mem_of_getElem? (i := 32) rfl)
theorem qco_risk : Cond.codeWith yL_risk cL_risk 4 (some .int) [(0, 9, 12, 28)] ∈ TBL := wr_2 _ (List.mem_of_getElem? (i := 33) rfl)
theorem qst_risk : Cond.static yL_risk ∈ TBL := wr_2 _ (List.mem_of_getElem? (i := 34) rfl)
theorem qlm_77 : Cond.methodLink RL 77 yX8_risk ∈ TBL := wr_2 _ (List.mem_of_getElem? (i := 35) rfl)
theorem lc_X8_risk : Cond.code yX8_risk cX8_risk 4 (some .int) ∈ TBL := wr_2 _ (List.mem_of_getElem? (i := 36) rfl)
theorem li_X8_risk : Cond.instanceMethod yX8_risk ∈ TBL := wr_2 _ (List.mem_of_getElem? (i := 37) rfl)
theorem ls_X8_risk : Cond.selects RX8 yX8_risk yX8_risk ∈ TBL := wr_2 _ (List.mem_of_getElem? (i := 38) rfl)
theorem qco_order : Cond.codeWith yL_order cL_order 5 (some .int) [(0, 10, 13, 13)] ∈ TBL := wr_2 _ (List.mem_of_getElem? (i := 39) rfl)
def wq_3 : List Cond := [Cond.static yL_order, Cond.methodLink RL 80 yX8_order, Cond.code yX8_order cX8_order 3 (some .int), Cond.instanceMethod yX8_order, Cond.selects RX8 yX8_order yX8_order, Cond.codeWith yL_reality cL_reality 5 (some .int) [(0, 10, 13, 28), (0, 10, 17, 30)], Cond.static yL_reality, Cond.methodLink RL 83 yX8_reality, Cond.code yX8_reality cX8_reality 3 (some .int), Cond.instanceMethod yX8_reality, Cond.selects RX8 yX8_reality yX8_reality, Cond.codeWith yL_ways cL_ways 5 (some .int) [(0, 10, 13, 28), (0, 10, 17, 30)], Cond.static yL_ways, Cond.methodLink RL 86 yX8_ways, Cond.code yX8_ways cX8_ways 5 (some .int), Cond.instanceMethod yX8_ways, Cond.selects RX8 yX8_ways yX8_ways, Cond.codeWith yL_friends cL_friends 4 (some .int) [(0, 9, 12, 28)], Cond.static yL_friends, Cond.methodLink RL 89 yX8_friends, Cond.code yX8_friends cX8_friends 4 (some .int), Cond.instanceMethod yX8_friends, Cond.selects RX8 yX8_friends yX8_friends]
theorem wr_3 : ∀ w ∈ wq_3, w ∈ TBL := tb_ch _ [1142, 1144, 1147, 1145, 1146, 1151, 1150, 1152, 1155, 1153, 1154, 1199, 1198, 1200, 1203, 1201, 1202, 1210, 1209, 1211, 1214, 1212, 1213] (by decide +kernel) (by decide +kernel)
theorem qst_order : Cond.static yL_order ∈ TBL := wr_3 _ (List.mem_of_getElem? (i := 0) rfl)
theorem qlm_80 : Cond.methodLink RL 80 yX8_order ∈ TBL := wr_3 _ (List.mem_of_getElem? (i := 1) rfl)
theorem lc_X8_order : Cond.code yX8_order cX8_order 3 (some .int) ∈ TBL := wr_3 _ (List.mem_of_getElem? (i := 2) rfl)
theorem li_X8_order : Cond.instanceMethod yX8_order ∈ TBL := wr_3 _ (List.mem_of_getElem? (i := 3) rfl)
theorem ls_X8_order : Cond.selects RX8 yX8_order yX8_order ∈ TBL := wr_3 _ (List.mem_of_getElem? (i := 4) rfl)
theorem qco_reality : Cond.codeWith yL_reality cL_reality 5 (some .int) [(0, 10, 13, 28), (0, 10, 17, 30)] ∈ TBL := wr_3 _ (List.mem_of_getElem? (i := 5) rfl)
theorem qst_reality : Cond.static yL_reality ∈ TBL := wr_3 _ (List.mem_of_getElem? (i := 6) rfl)
theorem qlm_83 : Cond.methodLink RL 83 yX8_reality ∈ TBL := wr_3 _ (List.mem_of_getElem? (i := 7) rfl)
theorem lc_X8_reality : Cond.code yX8_reality cX8_reality 3 (some .int) ∈ TBL := wr_3 _ (List.mem_of_getElem? (i := 8) rfl)
theorem li_X8_reality : Cond.instanceMethod yX8_reality ∈ TBL := wr_3 _ (List.mem_of_getElem? (i := 9) rfl)
theorem ls_X8_reality : Cond.selects RX8 yX8_reality yX8_reality ∈ TBL := wr_3 _ (List.mem_of_getElem? (i := 10) rfl)
theorem qco_ways : Cond.codeWith yL_ways cL_ways 5 (some .int) [(0, 10, 13, 28), (0, 10, 17, 30)] ∈ TBL := wr_3 _ (List.mem_of_getElem? (i := 11) rfl)
theorem qst_ways : Cond.static yL_ways ∈ TBL := wr_3 _ (List.mem_of_getElem? (i := 12) rfl)
theorem qlm_86 : Cond.methodLink RL 86 yX8_ways ∈ TBL := wr_3 _ (List.mem_of_getElem? (i := 13) rfl)
theorem lc_X8_ways : Cond.code yX8_ways cX8_ways 5 (some .int) ∈ TBL := wr_3 _ (List.mem_of_getElem? (i := 14) rfl)
theorem li_X8_ways : Cond.instanceMethod yX8_ways ∈ TBL := wr_3 _ (List.mem_of_getElem? (i := 15) rfl)
theorem ls_X8_ways : Cond.selects RX8 yX8_ways yX8_ways ∈ TBL := wr_3 _ (List.mem_of_getElem? (i := 16) rfl)
theorem qco_friends : Cond.codeWith yL_friends cL_friends 4 (some .int) [(0, 9, 12, 28)] ∈ TBL := wr_3 _ (List.mem_of_getElem? (i := 17) rfl)
theorem qst_friends : Cond.static yL_friends ∈ TBL := wr_3 _ (List.mem_of_getElem? (i := 18) rfl)
theorem qlm_89 : Cond.methodLink RL 89 yX8_friends ∈ TBL := wr_3 _ (List.mem_of_getElem? (i := 19) rfl)
theorem lc_X8_friends : Cond.code yX8_friends cX8_friends 4 (some .int) ∈ TBL := wr_3 _ (List.mem_of_getElem? (i := 20) rfl)
theorem li_X8_friends : Cond.instanceMethod yX8_friends ∈ TBL := wr_3 _ (List.mem_of_getElem? (i := 21) rfl)
theorem ls_X8_friends : Cond.selects RX8 yX8_friends yX8_friends ∈ TBL := wr_3 _ (List.mem_of_getElem? (i := 22) rfl)
theorem hd_X8_acts : yX8_acts.cls ≠ "java/lang/invoke/MethodHandle" ∧ yX8_acts.cls ≠ "java/lang/invoke/VarHandle" ∧ (parseMethodDescriptor yX8_acts.desc).map (fun d => d.parameters.length) = some 0 := by decide +kernel
theorem qhd_acts : yL_acts.cls ≠ "java/lang/invoke/MethodHandle" ∧ yL_acts.cls ≠ "java/lang/invoke/VarHandle" ∧ (parseMethodDescriptor yL_acts.desc).map (fun d => d.parameters.length) = some 2 := by decide +kernel
theorem hd_X8_join : yX8_join.cls ≠ "java/lang/invoke/MethodHandle" ∧ yX8_join.cls ≠ "java/lang/invoke/VarHandle" ∧ (parseMethodDescriptor yX8_join.desc).map (fun d => d.parameters.length) = some 4 := by decide +kernel
theorem qhd_join : yL_join.cls ≠ "java/lang/invoke/MethodHandle" ∧ yL_join.cls ≠ "java/lang/invoke/VarHandle" ∧ (parseMethodDescriptor yL_join.desc).map (fun d => d.parameters.length) = some 6 := by decide +kernel
theorem hd_X8_near : yX8_near.cls ≠ "java/lang/invoke/MethodHandle" ∧ yX8_near.cls ≠ "java/lang/invoke/VarHandle" ∧ (parseMethodDescriptor yX8_near.desc).map (fun d => d.parameters.length) = some 2 := by decide +kernel
theorem qhd_near : yL_near.cls ≠ "java/lang/invoke/MethodHandle" ∧ yL_near.cls ≠ "java/lang/invoke/VarHandle" ∧ (parseMethodDescriptor yL_near.desc).map (fun d => d.parameters.length) = some 4 := by decide +kernel
theorem hd_X8_go : yX8_go.cls ≠ "java/lang/invoke/MethodHandle" ∧ yX8_go.cls ≠ "java/lang/invoke/VarHandle" ∧ (parseMethodDescriptor yX8_go.desc).map (fun d => d.parameters.length) = some 2 := by decide +kernel
theorem qhd_go : yL_go.cls ≠ "java/lang/invoke/MethodHandle" ∧ yL_go.cls ≠ "java/lang/invoke/VarHandle" ∧ (parseMethodDescriptor yL_go.desc).map (fun d => d.parameters.length) = some 4 := by decide +kernel
theorem hd_X8_tidy : yX8_tidy.cls ≠ "java/lang/invoke/MethodHandle" ∧ yX8_tidy.cls ≠ "java/lang/invoke/VarHandle" ∧ (parseMethodDescriptor yX8_tidy.desc).map (fun d => d.parameters.length) = some 0 := by decide +kernel
theorem qhd_tidy : yL_tidy.cls ≠ "java/lang/invoke/MethodHandle" ∧ yL_tidy.cls ≠ "java/lang/invoke/VarHandle" ∧ (parseMethodDescriptor yL_tidy.desc).map (fun d => d.parameters.length) = some 2 := by decide +kernel
theorem hd_X8_put : yX8_put.cls ≠ "java/lang/invoke/MethodHandle" ∧ yX8_put.cls ≠ "java/lang/invoke/VarHandle" ∧ (parseMethodDescriptor yX8_put.desc).map (fun d => d.parameters.length) = some 2 := by decide +kernel
theorem qhd_put : yL_put.cls ≠ "java/lang/invoke/MethodHandle" ∧ yL_put.cls ≠ "java/lang/invoke/VarHandle" ∧ (parseMethodDescriptor yL_put.desc).map (fun d => d.parameters.length) = some 4 := by decide +kernel
theorem hd_X8_cut : yX8_cut.cls ≠ "java/lang/invoke/MethodHandle" ∧ yX8_cut.cls ≠ "java/lang/invoke/VarHandle" ∧ (parseMethodDescriptor yX8_cut.desc).map (fun d => d.parameters.length) = some 1 := by decide +kernel
theorem qhd_cut : yL_cut.cls ≠ "java/lang/invoke/MethodHandle" ∧ yL_cut.cls ≠ "java/lang/invoke/VarHandle" ∧ (parseMethodDescriptor yL_cut.desc).map (fun d => d.parameters.length) = some 3 := by decide +kernel
theorem hd_X8_undo : yX8_undo.cls ≠ "java/lang/invoke/MethodHandle" ∧ yX8_undo.cls ≠ "java/lang/invoke/VarHandle" ∧ (parseMethodDescriptor yX8_undo.desc).map (fun d => d.parameters.length) = some 0 := by decide +kernel
theorem qhd_undo : yL_undo.cls ≠ "java/lang/invoke/MethodHandle" ∧ yL_undo.cls ≠ "java/lang/invoke/VarHandle" ∧ (parseMethodDescriptor yL_undo.desc).map (fun d => d.parameters.length) = some 2 := by decide +kernel
theorem hd_X8_node : yX8_node.cls ≠ "java/lang/invoke/MethodHandle" ∧ yX8_node.cls ≠ "java/lang/invoke/VarHandle" ∧ (parseMethodDescriptor yX8_node.desc).map (fun d => d.parameters.length) = some 2 := by decide +kernel
theorem qhd_node : yL_node.cls ≠ "java/lang/invoke/MethodHandle" ∧ yL_node.cls ≠ "java/lang/invoke/VarHandle" ∧ (parseMethodDescriptor yL_node.desc).map (fun d => d.parameters.length) = some 4 := by decide +kernel
theorem hd_X8_held : yX8_held.cls ≠ "java/lang/invoke/MethodHandle" ∧ yX8_held.cls ≠ "java/lang/invoke/VarHandle" ∧ (parseMethodDescriptor yX8_held.desc).map (fun d => d.parameters.length) = some 3 := by decide +kernel
theorem qhd_held : yL_held.cls ≠ "java/lang/invoke/MethodHandle" ∧ yL_held.cls ≠ "java/lang/invoke/VarHandle" ∧ (parseMethodDescriptor yL_held.desc).map (fun d => d.parameters.length) = some 5 := by decide +kernel
theorem hd_X8_zone : yX8_zone.cls ≠ "java/lang/invoke/MethodHandle" ∧ yX8_zone.cls ≠ "java/lang/invoke/VarHandle" ∧ (parseMethodDescriptor yX8_zone.desc).map (fun d => d.parameters.length) = some 3 := by decide +kernel
theorem qhd_zone : yL_zone.cls ≠ "java/lang/invoke/MethodHandle" ∧ yL_zone.cls ≠ "java/lang/invoke/VarHandle" ∧ (parseMethodDescriptor yL_zone.desc).map (fun d => d.parameters.length) = some 5 := by decide +kernel
theorem hd_X8_box : yX8_box.cls ≠ "java/lang/invoke/MethodHandle" ∧ yX8_box.cls ≠ "java/lang/invoke/VarHandle" ∧ (parseMethodDescriptor yX8_box.desc).map (fun d => d.parameters.length) = some 2 := by decide +kernel
theorem qhd_box : yL_box.cls ≠ "java/lang/invoke/MethodHandle" ∧ yL_box.cls ≠ "java/lang/invoke/VarHandle" ∧ (parseMethodDescriptor yL_box.desc).map (fun d => d.parameters.length) = some 4 := by decide +kernel
theorem hd_X8_cell : yX8_cell.cls ≠ "java/lang/invoke/MethodHandle" ∧ yX8_cell.cls ≠ "java/lang/invoke/VarHandle" ∧ (parseMethodDescriptor yX8_cell.desc).map (fun d => d.parameters.length) = some 4 := by decide +kernel
theorem qhd_cell : yL_cell.cls ≠ "java/lang/invoke/MethodHandle" ∧ yL_cell.cls ≠ "java/lang/invoke/VarHandle" ∧ (parseMethodDescriptor yL_cell.desc).map (fun d => d.parameters.length) = some 6 := by decide +kernel
theorem hd_X8_heir : yX8_heir.cls ≠ "java/lang/invoke/MethodHandle" ∧ yX8_heir.cls ≠ "java/lang/invoke/VarHandle" ∧ (parseMethodDescriptor yX8_heir.desc).map (fun d => d.parameters.length) = some 3 := by decide +kernel
theorem qhd_heir : yL_heir.cls ≠ "java/lang/invoke/MethodHandle" ∧ yL_heir.cls ≠ "java/lang/invoke/VarHandle" ∧ (parseMethodDescriptor yL_heir.desc).map (fun d => d.parameters.length) = some 5 := by decide +kernel
theorem hd_X8_key : yX8_key.cls ≠ "java/lang/invoke/MethodHandle" ∧ yX8_key.cls ≠ "java/lang/invoke/VarHandle" ∧ (parseMethodDescriptor yX8_key.desc).map (fun d => d.parameters.length) = some 2 := by decide +kernel
theorem qhd_key : yL_key.cls ≠ "java/lang/invoke/MethodHandle" ∧ yL_key.cls ≠ "java/lang/invoke/VarHandle" ∧ (parseMethodDescriptor yL_key.desc).map (fun d => d.parameters.length) = some 4 := by decide +kernel
theorem hd_X8_point : yX8_point.cls ≠ "java/lang/invoke/MethodHandle" ∧ yX8_point.cls ≠ "java/lang/invoke/VarHandle" ∧ (parseMethodDescriptor yX8_point.desc).map (fun d => d.parameters.length) = some 3 := by decide +kernel
theorem qhd_point : yL_point.cls ≠ "java/lang/invoke/MethodHandle" ∧ yL_point.cls ≠ "java/lang/invoke/VarHandle" ∧ (parseMethodDescriptor yL_point.desc).map (fun d => d.parameters.length) = some 5 := by decide +kernel
theorem hd_X8_way : yX8_way.cls ≠ "java/lang/invoke/MethodHandle" ∧ yX8_way.cls ≠ "java/lang/invoke/VarHandle" ∧ (parseMethodDescriptor yX8_way.desc).map (fun d => d.parameters.length) = some 5 := by decide +kernel
theorem qhd_way : yL_way.cls ≠ "java/lang/invoke/MethodHandle" ∧ yL_way.cls ≠ "java/lang/invoke/VarHandle" ∧ (parseMethodDescriptor yL_way.desc).map (fun d => d.parameters.length) = some 7 := by decide +kernel
theorem hd_X8_seek : yX8_seek.cls ≠ "java/lang/invoke/MethodHandle" ∧ yX8_seek.cls ≠ "java/lang/invoke/VarHandle" ∧ (parseMethodDescriptor yX8_seek.desc).map (fun d => d.parameters.length) = some 3 := by decide +kernel
theorem qhd_seek : yL_seek.cls ≠ "java/lang/invoke/MethodHandle" ∧ yL_seek.cls ≠ "java/lang/invoke/VarHandle" ∧ (parseMethodDescriptor yL_seek.desc).map (fun d => d.parameters.length) = some 5 := by decide +kernel
theorem hd_X8_risk : yX8_risk.cls ≠ "java/lang/invoke/MethodHandle" ∧ yX8_risk.cls ≠ "java/lang/invoke/VarHandle" ∧ (parseMethodDescriptor yX8_risk.desc).map (fun d => d.parameters.length) = some 1 := by decide +kernel
theorem qhd_risk : yL_risk.cls ≠ "java/lang/invoke/MethodHandle" ∧ yL_risk.cls ≠ "java/lang/invoke/VarHandle" ∧ (parseMethodDescriptor yL_risk.desc).map (fun d => d.parameters.length) = some 3 := by decide +kernel
theorem hd_X8_order : yX8_order.cls ≠ "java/lang/invoke/MethodHandle" ∧ yX8_order.cls ≠ "java/lang/invoke/VarHandle" ∧ (parseMethodDescriptor yX8_order.desc).map (fun d => d.parameters.length) = some 2 := by decide +kernel
theorem qhd_order : yL_order.cls ≠ "java/lang/invoke/MethodHandle" ∧ yL_order.cls ≠ "java/lang/invoke/VarHandle" ∧ (parseMethodDescriptor yL_order.desc).map (fun d => d.parameters.length) = some 4 := by decide +kernel
theorem hd_X8_reality : yX8_reality.cls ≠ "java/lang/invoke/MethodHandle" ∧ yX8_reality.cls ≠ "java/lang/invoke/VarHandle" ∧ (parseMethodDescriptor yX8_reality.desc).map (fun d => d.parameters.length) = some 2 := by decide +kernel
theorem qhd_reality : yL_reality.cls ≠ "java/lang/invoke/MethodHandle" ∧ yL_reality.cls ≠ "java/lang/invoke/VarHandle" ∧ (parseMethodDescriptor yL_reality.desc).map (fun d => d.parameters.length) = some 4 := by decide +kernel
theorem hd_X8_ways : yX8_ways.cls ≠ "java/lang/invoke/MethodHandle" ∧ yX8_ways.cls ≠ "java/lang/invoke/VarHandle" ∧ (parseMethodDescriptor yX8_ways.desc).map (fun d => d.parameters.length) = some 2 := by decide +kernel
theorem qhd_ways : yL_ways.cls ≠ "java/lang/invoke/MethodHandle" ∧ yL_ways.cls ≠ "java/lang/invoke/VarHandle" ∧ (parseMethodDescriptor yL_ways.desc).map (fun d => d.parameters.length) = some 4 := by decide +kernel
theorem hd_X8_friends : yX8_friends.cls ≠ "java/lang/invoke/MethodHandle" ∧ yX8_friends.cls ≠ "java/lang/invoke/VarHandle" ∧ (parseMethodDescriptor yX8_friends.desc).map (fun d => d.parameters.length) = some 1 := by decide +kernel
theorem qhd_friends : yL_friends.cls ≠ "java/lang/invoke/MethodHandle" ∧ yL_friends.cls ≠ "java/lang/invoke/VarHandle" ∧ (parseMethodDescriptor yL_friends.desc).map (fun d => d.parameters.length) = some 3 := by decide +kernel
theorem dL_acts_0 : decode cL_acts 0 = .ok (.aload_n 1, 1) := by decide +kernel
theorem dL_acts_1 : decode cL_acts 1 = .ok (.iconst 0, 1) := by decide +kernel
theorem dL_acts_2 : decode cL_acts 2 = .ok (.aload_n 0, 1) := by decide +kernel
theorem dL_acts_3 : decode cL_acts 3 = .ok (.invokevirtual 7, 3) := by decide +kernel
theorem dL_acts_6 : decode cL_acts 6 = .ok (.i2l, 1) := by decide +kernel
theorem dL_acts_7 : decode cL_acts 7 = .ok (.lastore, 1) := by decide +kernel
theorem dL_acts_8 : decode cL_acts 8 = .ok (.goto 6, 3) := by decide +kernel
theorem dL_acts_11 : decode cL_acts 11 = .ok (.astore_n 2, 1) := by decide +kernel
theorem dL_acts_12 : decode cL_acts 12 = .ok (.iconst 1, 1) := by decide +kernel
theorem dL_acts_13 : decode cL_acts 13 = .ok (.ireturn, 1) := by decide +kernel
theorem dL_acts_14 : decode cL_acts 14 = .ok (.iconst 0, 1) := by decide +kernel
theorem dL_acts_15 : decode cL_acts 15 = .ok (.ireturn, 1) := by decide +kernel
theorem H_acts (l : Launch) (hl : l.stackTraces = false) (G : Gp) {σ : St} {Q : Int32 → St → Prop} (h : wp_X8_acts σ (fun E τ => (E = sIAE ∧ Q (nI 1) τ)) (fun r τ => Q (nI 0) (su τ 258 0 r))) : CnW l yL_acts cL_acts 3 (some .int) [(0, 8, 11, 13)] 10 229 2 12 G [.ref (gb G + 0), .ref (gb G + 258)] σ (qI Q) := by
  refine CnW_of (L := [(0, .ref (gb G + 0)), (1, .ref (gb G + 258))]) RL (by decide) rfl (Nat.le_of_ble_eq_true rfl) rfl ?_
  intro p e s m below meth c F hT
  refine J_aln F 1 dL_acts_0 rfl rfl ?_
  refine J_ic F dL_acts_1 ki_0 ?_
  refine J_aln F 0 dL_acts_2 rfl rfl ?_
  refine J_tcallV F (As := []) (st := [.int (nI 0), .ref (gb G + 258)]) (C_X8_acts l hl G h) ly_0 (by decide) rfl rfl qlm_7 li_X8_acts ls_X8_acts ini_X8 lc_X8_acts hd_X8_acts (by decide) (Nat.le_of_ble_eq_true rfl) (by decide) ?_ rfl dL_acts_3 ?_
  · intro E τ hE
    obtain ⟨rfl, hq⟩ := hE
    refine ⟨11, ⟨(tableOf [(0, 8, 11, 13)]).take 0, (tableOf [(0, 8, 11, 13)]).getD 0 default, (tableOf [(0, 8, 11, 13)]).drop 1, by rw [hT]; rfl, ?_, by decide, by decide, qcl_13, by decide, rfl⟩, fun q => ?_⟩
    · intro z hz; cases hz
    · refine J_asn F (L' := [(2, .ref q), (0, .ref (gb G + 0)), (1, .ref (gb G + 258))]) dL_acts_11 rfl (by decide) rfl ?_
      refine J_ic F dL_acts_12 ki_1 ?_
      exact J_retiW F (Nat.le_refl _) (Nat.le_refl _) ⟨_, rfl, hq⟩ dL_acts_13
  · intro v τ hv
    obtain ⟨r, rfl, hq⟩ := hv
    refine J_i2l F dL_acts_6 ?_
    refine J_last F (i := nI 0) ly_258 (n_in (by decide) (by decide)) dL_acts_7 ?_
    refine J_goto F (tgt := 14) dL_acts_8 (by decide) ?_
    refine J_ic F dL_acts_14 ki_0 ?_
    exact J_retiW F (Nat.le_refl _) (Nat.le_refl _) ⟨_, rfl, hq⟩ dL_acts_15
theorem dL_join_0 : decode cL_join 0 = .ok (.aload 5, 2) := by decide +kernel
theorem dL_join_2 : decode cL_join 2 = .ok (.iconst 0, 1) := by decide +kernel
theorem dL_join_3 : decode cL_join 3 = .ok (.aload_n 0, 1) := by decide +kernel
theorem dL_join_4 : decode cL_join 4 = .ok (.iload_n 1, 1) := by decide +kernel
theorem dL_join_5 : decode cL_join 5 = .ok (.iload_n 2, 1) := by decide +kernel
theorem dL_join_6 : decode cL_join 6 = .ok (.iload_n 3, 1) := by decide +kernel
theorem dL_join_7 : decode cL_join 7 = .ok (.iload 4, 2) := by decide +kernel
theorem dL_join_9 : decode cL_join 9 = .ok (.invokevirtual 15, 3) := by decide +kernel
theorem dL_join_12 : decode cL_join 12 = .ok (.i2l, 1) := by decide +kernel
theorem dL_join_13 : decode cL_join 13 = .ok (.lastore, 1) := by decide +kernel
theorem dL_join_14 : decode cL_join 14 = .ok (.goto 11, 3) := by decide +kernel
theorem dL_join_17 : decode cL_join 17 = .ok (.astore 6, 2) := by decide +kernel
theorem dL_join_19 : decode cL_join 19 = .ok (.iconst 1, 1) := by decide +kernel
theorem dL_join_20 : decode cL_join 20 = .ok (.ireturn, 1) := by decide +kernel
theorem dL_join_21 : decode cL_join 21 = .ok (.astore 6, 2) := by decide +kernel
theorem dL_join_23 : decode cL_join 23 = .ok (.iconst 2, 1) := by decide +kernel
theorem dL_join_24 : decode cL_join 24 = .ok (.ireturn, 1) := by decide +kernel
theorem dL_join_25 : decode cL_join 25 = .ok (.iconst 0, 1) := by decide +kernel
theorem dL_join_26 : decode cL_join 26 = .ok (.ireturn, 1) := by decide +kernel
theorem H_join (l : Launch) (hl : l.stackTraces = false) (G : Gp) (x1 : Int32) (x2 : Int32) (x3 : Int32) (x4 : Int32) {σ : St} {Q : Int32 → St → Prop} (h : wp_X8_join σ x1 x2 x3 x4 (fun E τ => (E = sIAE ∧ Q (nI 1) τ) ∨ (E = sISE ∧ Q (nI 2) τ)) (fun r τ => Q (nI 0) (su τ 258 0 r))) : CnW l yL_join cL_join 7 (some .int) [(0, 14, 17, 13), (0, 14, 21, 19)] 8 188 2 12 G [.ref (gb G + 0), .int x1, .int x2, .int x3, .int x4, .ref (gb G + 258)] σ (qI Q) := by
  refine CnW_of (L := [(0, .ref (gb G + 0)), (1, .int x1), (2, .int x2), (3, .int x3), (4, .int x4), (5, .ref (gb G + 258))]) RL (by decide) rfl (Nat.le_of_ble_eq_true rfl) rfl ?_
  intro p e s m below meth c F hT
  refine J_al F 5 dL_join_0 rfl ?_
  refine J_ic F dL_join_2 ki_0 ?_
  refine J_aln F 0 dL_join_3 rfl rfl ?_
  refine J_iln F 1 dL_join_4 rfl rfl ?_
  refine J_iln F 2 dL_join_5 rfl rfl ?_
  refine J_iln F 3 dL_join_6 rfl rfl ?_
  refine J_il F 4 dL_join_7 rfl ?_
  refine J_tcallV F (As := [.int x1, .int x2, .int x3, .int x4]) (st := [.int (nI 0), .ref (gb G + 258)]) (C_X8_join l hl G x1 x2 x3 x4 h) ly_0 (by decide) rfl rfl qlm_15 li_X8_join ls_X8_join ini_X8 lc_X8_join hd_X8_join (by decide) (Nat.le_of_ble_eq_true rfl) (by decide) ?_ rfl dL_join_9 ?_
  · intro E τ hE
    rcases hE with ⟨rfl, hq⟩ | ⟨rfl, hq⟩
    · refine ⟨17, ⟨(tableOf [(0, 14, 17, 13), (0, 14, 21, 19)]).take 0, (tableOf [(0, 14, 17, 13), (0, 14, 21, 19)]).getD 0 default, (tableOf [(0, 14, 17, 13), (0, 14, 21, 19)]).drop 1, by rw [hT]; rfl, ?_, by decide, by decide, qcl_13, by decide, rfl⟩, fun q => ?_⟩
      · intro z hz; cases hz
      · refine J_as F (L' := [(6, .ref q), (0, .ref (gb G + 0)), (1, .int x1), (2, .int x2), (3, .int x3), (4, .int x4), (5, .ref (gb G + 258))]) dL_join_17 (by decide) rfl ?_
        refine J_ic F dL_join_19 ki_1 ?_
        exact J_retiW F (Nat.le_refl _) (Nat.le_refl _) ⟨_, rfl, hq⟩ dL_join_20
    · refine ⟨21, ⟨(tableOf [(0, 14, 17, 13), (0, 14, 21, 19)]).take 1, (tableOf [(0, 14, 17, 13), (0, 14, 21, 19)]).getD 1 default, (tableOf [(0, 14, 17, 13), (0, 14, 21, 19)]).drop 2, by rw [hT]; rfl, ?_, by decide, by decide, qcl_19, by decide, rfl⟩, fun q => ?_⟩
      · intro z hz
        have hz2 : z = (tableOf [(0, 14, 17, 13), (0, 14, 21, 19)]).getD 0 default := by
          simpa [tableOf] using hz
        rcases hz2 with rfl
        · exact ⟨by decide, sIAE, by decide, qcl_13, by decide⟩
      · refine J_as F (L' := [(6, .ref q), (0, .ref (gb G + 0)), (1, .int x1), (2, .int x2), (3, .int x3), (4, .int x4), (5, .ref (gb G + 258))]) dL_join_21 (by decide) rfl ?_
        refine J_ic F dL_join_23 ki_2 ?_
        exact J_retiW F (Nat.le_refl _) (Nat.le_refl _) ⟨_, rfl, hq⟩ dL_join_24
  · intro v τ hv
    obtain ⟨r, rfl, hq⟩ := hv
    refine J_i2l F dL_join_12 ?_
    refine J_last F (i := nI 0) ly_258 (n_in (by decide) (by decide)) dL_join_13 ?_
    refine J_goto F (tgt := 25) dL_join_14 (by decide) ?_
    refine J_ic F dL_join_25 ki_0 ?_
    exact J_retiW F (Nat.le_refl _) (Nat.le_refl _) ⟨_, rfl, hq⟩ dL_join_26
theorem dL_near_0 : decode cL_near 0 = .ok (.aload_n 3, 1) := by decide +kernel
theorem dL_near_1 : decode cL_near 1 = .ok (.iconst 0, 1) := by decide +kernel
theorem dL_near_2 : decode cL_near 2 = .ok (.aload_n 0, 1) := by decide +kernel
theorem dL_near_3 : decode cL_near 3 = .ok (.iload_n 1, 1) := by decide +kernel
theorem dL_near_4 : decode cL_near 4 = .ok (.iload_n 2, 1) := by decide +kernel
theorem dL_near_5 : decode cL_near 5 = .ok (.invokevirtual 21, 3) := by decide +kernel
theorem dL_near_8 : decode cL_near 8 = .ok (.i2l, 1) := by decide +kernel
theorem dL_near_9 : decode cL_near 9 = .ok (.lastore, 1) := by decide +kernel
theorem dL_near_10 : decode cL_near 10 = .ok (.goto 11, 3) := by decide +kernel
theorem dL_near_13 : decode cL_near 13 = .ok (.astore 4, 2) := by decide +kernel
theorem dL_near_15 : decode cL_near 15 = .ok (.iconst 1, 1) := by decide +kernel
theorem dL_near_16 : decode cL_near 16 = .ok (.ireturn, 1) := by decide +kernel
theorem dL_near_17 : decode cL_near 17 = .ok (.astore 4, 2) := by decide +kernel
theorem dL_near_19 : decode cL_near 19 = .ok (.iconst 2, 1) := by decide +kernel
theorem dL_near_20 : decode cL_near 20 = .ok (.ireturn, 1) := by decide +kernel
theorem dL_near_21 : decode cL_near 21 = .ok (.iconst 0, 1) := by decide +kernel
theorem dL_near_22 : decode cL_near 22 = .ok (.ireturn, 1) := by decide +kernel
theorem H_near (l : Launch) (hl : l.stackTraces = false) (G : Gp) (x1 : Int32) (x2 : Int32) {σ : St} {Q : Int32 → St → Prop} (h : wp_X8_near σ x1 x2 (fun E τ => (E = sIAE ∧ Q (nI 1) τ) ∨ (E = sISE ∧ Q (nI 2) τ)) (fun r τ => Q (nI 0) (su τ 258 0 r))) : CnW l yL_near cL_near 5 (some .int) [(0, 10, 13, 13), (0, 10, 17, 19)] 8 186 2 12 G [.ref (gb G + 0), .int x1, .int x2, .ref (gb G + 258)] σ (qI Q) := by
  refine CnW_of (L := [(0, .ref (gb G + 0)), (1, .int x1), (2, .int x2), (3, .ref (gb G + 258))]) RL (by decide) rfl (Nat.le_of_ble_eq_true rfl) rfl ?_
  intro p e s m below meth c F hT
  refine J_aln F 3 dL_near_0 rfl rfl ?_
  refine J_ic F dL_near_1 ki_0 ?_
  refine J_aln F 0 dL_near_2 rfl rfl ?_
  refine J_iln F 1 dL_near_3 rfl rfl ?_
  refine J_iln F 2 dL_near_4 rfl rfl ?_
  refine J_tcallV F (As := [.int x1, .int x2]) (st := [.int (nI 0), .ref (gb G + 258)]) (C_X8_near l hl G x1 x2 h) ly_0 (by decide) rfl rfl qlm_21 li_X8_near ls_X8_near ini_X8 lc_X8_near hd_X8_near (by decide) (Nat.le_of_ble_eq_true rfl) (by decide) ?_ rfl dL_near_5 ?_
  · intro E τ hE
    rcases hE with ⟨rfl, hq⟩ | ⟨rfl, hq⟩
    · refine ⟨13, ⟨(tableOf [(0, 10, 13, 13), (0, 10, 17, 19)]).take 0, (tableOf [(0, 10, 13, 13), (0, 10, 17, 19)]).getD 0 default, (tableOf [(0, 10, 13, 13), (0, 10, 17, 19)]).drop 1, by rw [hT]; rfl, ?_, by decide, by decide, qcl_13, by decide, rfl⟩, fun q => ?_⟩
      · intro z hz; cases hz
      · refine J_as F (L' := [(4, .ref q), (0, .ref (gb G + 0)), (1, .int x1), (2, .int x2), (3, .ref (gb G + 258))]) dL_near_13 (by decide) rfl ?_
        refine J_ic F dL_near_15 ki_1 ?_
        exact J_retiW F (Nat.le_refl _) (Nat.le_refl _) ⟨_, rfl, hq⟩ dL_near_16
    · refine ⟨17, ⟨(tableOf [(0, 10, 13, 13), (0, 10, 17, 19)]).take 1, (tableOf [(0, 10, 13, 13), (0, 10, 17, 19)]).getD 1 default, (tableOf [(0, 10, 13, 13), (0, 10, 17, 19)]).drop 2, by rw [hT]; rfl, ?_, by decide, by decide, qcl_19, by decide, rfl⟩, fun q => ?_⟩
      · intro z hz
        have hz2 : z = (tableOf [(0, 10, 13, 13), (0, 10, 17, 19)]).getD 0 default := by
          simpa [tableOf] using hz
        rcases hz2 with rfl
        · exact ⟨by decide, sIAE, by decide, qcl_13, by decide⟩
      · refine J_as F (L' := [(4, .ref q), (0, .ref (gb G + 0)), (1, .int x1), (2, .int x2), (3, .ref (gb G + 258))]) dL_near_17 (by decide) rfl ?_
        refine J_ic F dL_near_19 ki_2 ?_
        exact J_retiW F (Nat.le_refl _) (Nat.le_refl _) ⟨_, rfl, hq⟩ dL_near_20
  · intro v τ hv
    obtain ⟨r, rfl, hq⟩ := hv
    refine J_i2l F dL_near_8 ?_
    refine J_last F (i := nI 0) ly_258 (n_in (by decide) (by decide)) dL_near_9 ?_
    refine J_goto F (tgt := 21) dL_near_10 (by decide) ?_
    refine J_ic F dL_near_21 ki_0 ?_
    exact J_retiW F (Nat.le_refl _) (Nat.le_refl _) ⟨_, rfl, hq⟩ dL_near_22
theorem dL_go_0 : decode cL_go 0 = .ok (.aload_n 3, 1) := by decide +kernel
theorem dL_go_1 : decode cL_go 1 = .ok (.iconst 0, 1) := by decide +kernel
theorem dL_go_2 : decode cL_go 2 = .ok (.aload_n 0, 1) := by decide +kernel
theorem dL_go_3 : decode cL_go 3 = .ok (.iload_n 1, 1) := by decide +kernel
theorem dL_go_4 : decode cL_go 4 = .ok (.iload_n 2, 1) := by decide +kernel
theorem dL_go_5 : decode cL_go 5 = .ok (.invokevirtual 25, 3) := by decide +kernel
theorem dL_go_8 : decode cL_go 8 = .ok (.i2l, 1) := by decide +kernel
theorem dL_go_9 : decode cL_go 9 = .ok (.lastore, 1) := by decide +kernel
theorem dL_go_10 : decode cL_go 10 = .ok (.goto 15, 3) := by decide +kernel
theorem dL_go_13 : decode cL_go 13 = .ok (.astore 4, 2) := by decide +kernel
theorem dL_go_15 : decode cL_go 15 = .ok (.iconst 1, 1) := by decide +kernel
theorem dL_go_16 : decode cL_go 16 = .ok (.ireturn, 1) := by decide +kernel
theorem dL_go_17 : decode cL_go 17 = .ok (.astore 4, 2) := by decide +kernel
theorem dL_go_19 : decode cL_go 19 = .ok (.iconst 2, 1) := by decide +kernel
theorem dL_go_20 : decode cL_go 20 = .ok (.ireturn, 1) := by decide +kernel
theorem dL_go_21 : decode cL_go 21 = .ok (.astore 4, 2) := by decide +kernel
theorem dL_go_23 : decode cL_go 23 = .ok (.iconst 3, 1) := by decide +kernel
theorem dL_go_24 : decode cL_go 24 = .ok (.ireturn, 1) := by decide +kernel
theorem dL_go_25 : decode cL_go 25 = .ok (.iconst 0, 1) := by decide +kernel
theorem dL_go_26 : decode cL_go 26 = .ok (.ireturn, 1) := by decide +kernel
theorem H_go (l : Launch) (hl : l.stackTraces = false) (G : Gp) (x1 : Int32) (x2 : Int32) {σ : St} {Q : Int32 → St → Prop} (h : wp_X8_go σ x1 x2 (fun E τ => (E = sIOB ∧ Q (nI 1) τ) ∨ (E = sNSE ∧ Q (nI 2) τ) ∨ (E = sISE ∧ Q (nI 3) τ)) (fun r τ => Q (nI 0) (su τ 258 0 r))) : CnW l yL_go cL_go 5 (some .int) [(0, 10, 13, 28), (0, 10, 17, 30), (0, 10, 21, 19)] 8 186 3 18 G [.ref (gb G + 0), .int x1, .int x2, .ref (gb G + 258)] σ (qI Q) := by
  refine CnW_of (L := [(0, .ref (gb G + 0)), (1, .int x1), (2, .int x2), (3, .ref (gb G + 258))]) RL (by decide) rfl (Nat.le_of_ble_eq_true rfl) rfl ?_
  intro p e s m below meth c F hT
  refine J_aln F 3 dL_go_0 rfl rfl ?_
  refine J_ic F dL_go_1 ki_0 ?_
  refine J_aln F 0 dL_go_2 rfl rfl ?_
  refine J_iln F 1 dL_go_3 rfl rfl ?_
  refine J_iln F 2 dL_go_4 rfl rfl ?_
  refine J_tcallV F (As := [.int x1, .int x2]) (st := [.int (nI 0), .ref (gb G + 258)]) (C_X8_go l hl G x1 x2 h) ly_0 (by decide) rfl rfl qlm_25 li_X8_go ls_X8_go ini_X8 lc_X8_go hd_X8_go (by decide) (Nat.le_of_ble_eq_true rfl) (by decide) ?_ rfl dL_go_5 ?_
  · intro E τ hE
    rcases hE with ⟨rfl, hq⟩ | ⟨rfl, hq⟩ | ⟨rfl, hq⟩
    · refine ⟨13, ⟨(tableOf [(0, 10, 13, 28), (0, 10, 17, 30), (0, 10, 21, 19)]).take 0, (tableOf [(0, 10, 13, 28), (0, 10, 17, 30), (0, 10, 21, 19)]).getD 0 default, (tableOf [(0, 10, 13, 28), (0, 10, 17, 30), (0, 10, 21, 19)]).drop 1, by rw [hT]; rfl, ?_, by decide, by decide, qcl_28, by decide, rfl⟩, fun q => ?_⟩
      · intro z hz; cases hz
      · refine J_as F (L' := [(4, .ref q), (0, .ref (gb G + 0)), (1, .int x1), (2, .int x2), (3, .ref (gb G + 258))]) dL_go_13 (by decide) rfl ?_
        refine J_ic F dL_go_15 ki_1 ?_
        exact J_retiW F (Nat.le_refl _) (Nat.le_refl _) ⟨_, rfl, hq⟩ dL_go_16
    · refine ⟨17, ⟨(tableOf [(0, 10, 13, 28), (0, 10, 17, 30), (0, 10, 21, 19)]).take 1, (tableOf [(0, 10, 13, 28), (0, 10, 17, 30), (0, 10, 21, 19)]).getD 1 default, (tableOf [(0, 10, 13, 28), (0, 10, 17, 30), (0, 10, 21, 19)]).drop 2, by rw [hT]; rfl, ?_, by decide, by decide, qcl_30, by decide, rfl⟩, fun q => ?_⟩
      · intro z hz
        have hz2 : z = (tableOf [(0, 10, 13, 28), (0, 10, 17, 30), (0, 10, 21, 19)]).getD 0 default := by
          simpa [tableOf] using hz
        rcases hz2 with rfl
        · exact ⟨by decide, sIOB, by decide, qcl_28, by decide⟩
      · refine J_as F (L' := [(4, .ref q), (0, .ref (gb G + 0)), (1, .int x1), (2, .int x2), (3, .ref (gb G + 258))]) dL_go_17 (by decide) rfl ?_
        refine J_ic F dL_go_19 ki_2 ?_
        exact J_retiW F (Nat.le_refl _) (Nat.le_refl _) ⟨_, rfl, hq⟩ dL_go_20
    · refine ⟨21, ⟨(tableOf [(0, 10, 13, 28), (0, 10, 17, 30), (0, 10, 21, 19)]).take 2, (tableOf [(0, 10, 13, 28), (0, 10, 17, 30), (0, 10, 21, 19)]).getD 2 default, (tableOf [(0, 10, 13, 28), (0, 10, 17, 30), (0, 10, 21, 19)]).drop 3, by rw [hT]; rfl, ?_, by decide, by decide, qcl_19, by decide, rfl⟩, fun q => ?_⟩
      · intro z hz
        have hz2 : z = (tableOf [(0, 10, 13, 28), (0, 10, 17, 30), (0, 10, 21, 19)]).getD 0 default ∨ z = (tableOf [(0, 10, 13, 28), (0, 10, 17, 30), (0, 10, 21, 19)]).getD 1 default := by
          simpa [tableOf] using hz
        rcases hz2 with rfl | rfl
        · exact ⟨by decide, sIOB, by decide, qcl_28, by decide⟩
        · exact ⟨by decide, sNSE, by decide, qcl_30, by decide⟩
      · refine J_as F (L' := [(4, .ref q), (0, .ref (gb G + 0)), (1, .int x1), (2, .int x2), (3, .ref (gb G + 258))]) dL_go_21 (by decide) rfl ?_
        refine J_ic F dL_go_23 ki_3 ?_
        exact J_retiW F (Nat.le_refl _) (Nat.le_refl _) ⟨_, rfl, hq⟩ dL_go_24
  · intro v τ hv
    obtain ⟨r, rfl, hq⟩ := hv
    refine J_i2l F dL_go_8 ?_
    refine J_last F (i := nI 0) ly_258 (n_in (by decide) (by decide)) dL_go_9 ?_
    refine J_goto F (tgt := 25) dL_go_10 (by decide) ?_
    refine J_ic F dL_go_25 ki_0 ?_
    exact J_retiW F (Nat.le_refl _) (Nat.le_refl _) ⟨_, rfl, hq⟩ dL_go_26
theorem dL_tidy_0 : decode cL_tidy 0 = .ok (.aload_n 1, 1) := by decide +kernel
theorem dL_tidy_1 : decode cL_tidy 1 = .ok (.iconst 0, 1) := by decide +kernel
theorem dL_tidy_2 : decode cL_tidy 2 = .ok (.aload_n 0, 1) := by decide +kernel
theorem dL_tidy_3 : decode cL_tidy 3 = .ok (.invokevirtual 32, 3) := by decide +kernel
theorem dL_tidy_6 : decode cL_tidy 6 = .ok (.i2l, 1) := by decide +kernel
theorem dL_tidy_7 : decode cL_tidy 7 = .ok (.lastore, 1) := by decide +kernel
theorem dL_tidy_8 : decode cL_tidy 8 = .ok (.goto 6, 3) := by decide +kernel
theorem dL_tidy_11 : decode cL_tidy 11 = .ok (.astore_n 2, 1) := by decide +kernel
theorem dL_tidy_12 : decode cL_tidy 12 = .ok (.iconst 1, 1) := by decide +kernel
theorem dL_tidy_13 : decode cL_tidy 13 = .ok (.ireturn, 1) := by decide +kernel
theorem dL_tidy_14 : decode cL_tidy 14 = .ok (.iconst 0, 1) := by decide +kernel
theorem dL_tidy_15 : decode cL_tidy 15 = .ok (.ireturn, 1) := by decide +kernel
theorem H_tidy (l : Launch) (hl : l.stackTraces = false) (G : Gp) {σ : St} {Q : Int32 → St → Prop} (h : wp_X8_tidy σ (fun E τ => (E = sISE ∧ Q (nI 1) τ)) (fun r τ => Q (nI 0) (su τ 258 0 r))) : CnW l yL_tidy cL_tidy 3 (some .int) [(0, 8, 11, 19)] 8 184 1 6 G [.ref (gb G + 0), .ref (gb G + 258)] σ (qI Q) := by
  refine CnW_of (L := [(0, .ref (gb G + 0)), (1, .ref (gb G + 258))]) RL (by decide) rfl (Nat.le_of_ble_eq_true rfl) rfl ?_
  intro p e s m below meth c F hT
  refine J_aln F 1 dL_tidy_0 rfl rfl ?_
  refine J_ic F dL_tidy_1 ki_0 ?_
  refine J_aln F 0 dL_tidy_2 rfl rfl ?_
  refine J_tcallV F (As := []) (st := [.int (nI 0), .ref (gb G + 258)]) (C_X8_tidy l hl G h) ly_0 (by decide) rfl rfl qlm_32 li_X8_tidy ls_X8_tidy ini_X8 lc_X8_tidy hd_X8_tidy (by decide) (Nat.le_of_ble_eq_true rfl) (by decide) ?_ rfl dL_tidy_3 ?_
  · intro E τ hE
    obtain ⟨rfl, hq⟩ := hE
    refine ⟨11, ⟨(tableOf [(0, 8, 11, 19)]).take 0, (tableOf [(0, 8, 11, 19)]).getD 0 default, (tableOf [(0, 8, 11, 19)]).drop 1, by rw [hT]; rfl, ?_, by decide, by decide, qcl_19, by decide, rfl⟩, fun q => ?_⟩
    · intro z hz; cases hz
    · refine J_asn F (L' := [(2, .ref q), (0, .ref (gb G + 0)), (1, .ref (gb G + 258))]) dL_tidy_11 rfl (by decide) rfl ?_
      refine J_ic F dL_tidy_12 ki_1 ?_
      exact J_retiW F (Nat.le_refl _) (Nat.le_refl _) ⟨_, rfl, hq⟩ dL_tidy_13
  · intro v τ hv
    obtain ⟨r, rfl, hq⟩ := hv
    refine J_i2l F dL_tidy_6 ?_
    refine J_last F (i := nI 0) ly_258 (n_in (by decide) (by decide)) dL_tidy_7 ?_
    refine J_goto F (tgt := 14) dL_tidy_8 (by decide) ?_
    refine J_ic F dL_tidy_14 ki_0 ?_
    exact J_retiW F (Nat.le_refl _) (Nat.le_refl _) ⟨_, rfl, hq⟩ dL_tidy_15
theorem dL_put_0 : decode cL_put 0 = .ok (.aload_n 3, 1) := by decide +kernel
theorem dL_put_1 : decode cL_put 1 = .ok (.iconst 0, 1) := by decide +kernel
theorem dL_put_2 : decode cL_put 2 = .ok (.aload_n 0, 1) := by decide +kernel
theorem dL_put_3 : decode cL_put 3 = .ok (.iload_n 1, 1) := by decide +kernel
theorem dL_put_4 : decode cL_put 4 = .ok (.iload_n 2, 1) := by decide +kernel
theorem dL_put_5 : decode cL_put 5 = .ok (.invokevirtual 35, 3) := by decide +kernel
theorem dL_put_8 : decode cL_put 8 = .ok (.i2l, 1) := by decide +kernel
theorem dL_put_9 : decode cL_put 9 = .ok (.lastore, 1) := by decide +kernel
theorem dL_put_10 : decode cL_put 10 = .ok (.goto 15, 3) := by decide +kernel
theorem dL_put_13 : decode cL_put 13 = .ok (.astore 4, 2) := by decide +kernel
theorem dL_put_15 : decode cL_put 15 = .ok (.iconst 1, 1) := by decide +kernel
theorem dL_put_16 : decode cL_put 16 = .ok (.ireturn, 1) := by decide +kernel
theorem dL_put_17 : decode cL_put 17 = .ok (.astore 4, 2) := by decide +kernel
theorem dL_put_19 : decode cL_put 19 = .ok (.iconst 2, 1) := by decide +kernel
theorem dL_put_20 : decode cL_put 20 = .ok (.ireturn, 1) := by decide +kernel
theorem dL_put_21 : decode cL_put 21 = .ok (.astore 4, 2) := by decide +kernel
theorem dL_put_23 : decode cL_put 23 = .ok (.iconst 3, 1) := by decide +kernel
theorem dL_put_24 : decode cL_put 24 = .ok (.ireturn, 1) := by decide +kernel
theorem dL_put_25 : decode cL_put 25 = .ok (.iconst 0, 1) := by decide +kernel
theorem dL_put_26 : decode cL_put 26 = .ok (.ireturn, 1) := by decide +kernel
theorem H_put (l : Launch) (hl : l.stackTraces = false) (G : Gp) (x1 : Int32) (x2 : Int32) {σ : St} {Q : Int32 → St → Prop} (h : wp_X8_put σ x1 x2 (fun E τ => (E = sIOB ∧ Q (nI 1) τ) ∨ (E = sIAE ∧ Q (nI 2) τ) ∨ (E = sISE ∧ Q (nI 3) τ)) (fun r τ => Q (nI 0) (su τ 258 0 r))) : CnW l yL_put cL_put 5 (some .int) [(0, 10, 13, 28), (0, 10, 17, 13), (0, 10, 21, 19)] 8 186 3 18 G [.ref (gb G + 0), .int x1, .int x2, .ref (gb G + 258)] σ (qI Q) := by
  refine CnW_of (L := [(0, .ref (gb G + 0)), (1, .int x1), (2, .int x2), (3, .ref (gb G + 258))]) RL (by decide) rfl (Nat.le_of_ble_eq_true rfl) rfl ?_
  intro p e s m below meth c F hT
  refine J_aln F 3 dL_put_0 rfl rfl ?_
  refine J_ic F dL_put_1 ki_0 ?_
  refine J_aln F 0 dL_put_2 rfl rfl ?_
  refine J_iln F 1 dL_put_3 rfl rfl ?_
  refine J_iln F 2 dL_put_4 rfl rfl ?_
  refine J_tcallV F (As := [.int x1, .int x2]) (st := [.int (nI 0), .ref (gb G + 258)]) (C_X8_put l hl G x1 x2 h) ly_0 (by decide) rfl rfl qlm_35 li_X8_put ls_X8_put ini_X8 lc_X8_put hd_X8_put (by decide) (Nat.le_of_ble_eq_true rfl) (by decide) ?_ rfl dL_put_5 ?_
  · intro E τ hE
    rcases hE with ⟨rfl, hq⟩ | ⟨rfl, hq⟩ | ⟨rfl, hq⟩
    · refine ⟨13, ⟨(tableOf [(0, 10, 13, 28), (0, 10, 17, 13), (0, 10, 21, 19)]).take 0, (tableOf [(0, 10, 13, 28), (0, 10, 17, 13), (0, 10, 21, 19)]).getD 0 default, (tableOf [(0, 10, 13, 28), (0, 10, 17, 13), (0, 10, 21, 19)]).drop 1, by rw [hT]; rfl, ?_, by decide, by decide, qcl_28, by decide, rfl⟩, fun q => ?_⟩
      · intro z hz; cases hz
      · refine J_as F (L' := [(4, .ref q), (0, .ref (gb G + 0)), (1, .int x1), (2, .int x2), (3, .ref (gb G + 258))]) dL_put_13 (by decide) rfl ?_
        refine J_ic F dL_put_15 ki_1 ?_
        exact J_retiW F (Nat.le_refl _) (Nat.le_refl _) ⟨_, rfl, hq⟩ dL_put_16
    · refine ⟨17, ⟨(tableOf [(0, 10, 13, 28), (0, 10, 17, 13), (0, 10, 21, 19)]).take 1, (tableOf [(0, 10, 13, 28), (0, 10, 17, 13), (0, 10, 21, 19)]).getD 1 default, (tableOf [(0, 10, 13, 28), (0, 10, 17, 13), (0, 10, 21, 19)]).drop 2, by rw [hT]; rfl, ?_, by decide, by decide, qcl_13, by decide, rfl⟩, fun q => ?_⟩
      · intro z hz
        have hz2 : z = (tableOf [(0, 10, 13, 28), (0, 10, 17, 13), (0, 10, 21, 19)]).getD 0 default := by
          simpa [tableOf] using hz
        rcases hz2 with rfl
        · exact ⟨by decide, sIOB, by decide, qcl_28, by decide⟩
      · refine J_as F (L' := [(4, .ref q), (0, .ref (gb G + 0)), (1, .int x1), (2, .int x2), (3, .ref (gb G + 258))]) dL_put_17 (by decide) rfl ?_
        refine J_ic F dL_put_19 ki_2 ?_
        exact J_retiW F (Nat.le_refl _) (Nat.le_refl _) ⟨_, rfl, hq⟩ dL_put_20
    · refine ⟨21, ⟨(tableOf [(0, 10, 13, 28), (0, 10, 17, 13), (0, 10, 21, 19)]).take 2, (tableOf [(0, 10, 13, 28), (0, 10, 17, 13), (0, 10, 21, 19)]).getD 2 default, (tableOf [(0, 10, 13, 28), (0, 10, 17, 13), (0, 10, 21, 19)]).drop 3, by rw [hT]; rfl, ?_, by decide, by decide, qcl_19, by decide, rfl⟩, fun q => ?_⟩
      · intro z hz
        have hz2 : z = (tableOf [(0, 10, 13, 28), (0, 10, 17, 13), (0, 10, 21, 19)]).getD 0 default ∨ z = (tableOf [(0, 10, 13, 28), (0, 10, 17, 13), (0, 10, 21, 19)]).getD 1 default := by
          simpa [tableOf] using hz
        rcases hz2 with rfl | rfl
        · exact ⟨by decide, sIOB, by decide, qcl_28, by decide⟩
        · exact ⟨by decide, sIAE, by decide, qcl_13, by decide⟩
      · refine J_as F (L' := [(4, .ref q), (0, .ref (gb G + 0)), (1, .int x1), (2, .int x2), (3, .ref (gb G + 258))]) dL_put_21 (by decide) rfl ?_
        refine J_ic F dL_put_23 ki_3 ?_
        exact J_retiW F (Nat.le_refl _) (Nat.le_refl _) ⟨_, rfl, hq⟩ dL_put_24
  · intro v τ hv
    obtain ⟨r, rfl, hq⟩ := hv
    refine J_i2l F dL_put_8 ?_
    refine J_last F (i := nI 0) ly_258 (n_in (by decide) (by decide)) dL_put_9 ?_
    refine J_goto F (tgt := 25) dL_put_10 (by decide) ?_
    refine J_ic F dL_put_25 ki_0 ?_
    exact J_retiW F (Nat.le_refl _) (Nat.le_refl _) ⟨_, rfl, hq⟩ dL_put_26
theorem dL_cut_0 : decode cL_cut 0 = .ok (.aload_n 2, 1) := by decide +kernel
theorem dL_cut_1 : decode cL_cut 1 = .ok (.iconst 0, 1) := by decide +kernel
theorem dL_cut_2 : decode cL_cut 2 = .ok (.aload_n 0, 1) := by decide +kernel
theorem dL_cut_3 : decode cL_cut 3 = .ok (.iload_n 1, 1) := by decide +kernel
theorem dL_cut_4 : decode cL_cut 4 = .ok (.invokevirtual 38, 3) := by decide +kernel
theorem dL_cut_7 : decode cL_cut 7 = .ok (.i2l, 1) := by decide +kernel
theorem dL_cut_8 : decode cL_cut 8 = .ok (.lastore, 1) := by decide +kernel
theorem dL_cut_9 : decode cL_cut 9 = .ok (.goto 9, 3) := by decide +kernel
theorem dL_cut_12 : decode cL_cut 12 = .ok (.astore_n 3, 1) := by decide +kernel
theorem dL_cut_13 : decode cL_cut 13 = .ok (.iconst 1, 1) := by decide +kernel
theorem dL_cut_14 : decode cL_cut 14 = .ok (.ireturn, 1) := by decide +kernel
theorem dL_cut_15 : decode cL_cut 15 = .ok (.astore_n 3, 1) := by decide +kernel
theorem dL_cut_16 : decode cL_cut 16 = .ok (.iconst 2, 1) := by decide +kernel
theorem dL_cut_17 : decode cL_cut 17 = .ok (.ireturn, 1) := by decide +kernel
theorem dL_cut_18 : decode cL_cut 18 = .ok (.iconst 0, 1) := by decide +kernel
theorem dL_cut_19 : decode cL_cut 19 = .ok (.ireturn, 1) := by decide +kernel
theorem H_cut (l : Launch) (hl : l.stackTraces = false) (G : Gp) (x1 : Int32) {σ : St} {Q : Int32 → St → Prop} (h : wp_X8_cut σ x1 (fun E τ => (E = sIOB ∧ Q (nI 1) τ) ∨ (E = sISE ∧ Q (nI 2) τ)) (fun r τ => Q (nI 0) (su τ 258 0 r))) : CnW l yL_cut cL_cut 4 (some .int) [(0, 9, 12, 28), (0, 9, 15, 19)] 8 185 2 12 G [.ref (gb G + 0), .int x1, .ref (gb G + 258)] σ (qI Q) := by
  refine CnW_of (L := [(0, .ref (gb G + 0)), (1, .int x1), (2, .ref (gb G + 258))]) RL (by decide) rfl (Nat.le_of_ble_eq_true rfl) rfl ?_
  intro p e s m below meth c F hT
  refine J_aln F 2 dL_cut_0 rfl rfl ?_
  refine J_ic F dL_cut_1 ki_0 ?_
  refine J_aln F 0 dL_cut_2 rfl rfl ?_
  refine J_iln F 1 dL_cut_3 rfl rfl ?_
  refine J_tcallV F (As := [.int x1]) (st := [.int (nI 0), .ref (gb G + 258)]) (C_X8_cut l hl G x1 h) ly_0 (by decide) rfl rfl qlm_38 li_X8_cut ls_X8_cut ini_X8 lc_X8_cut hd_X8_cut (by decide) (Nat.le_of_ble_eq_true rfl) (by decide) ?_ rfl dL_cut_4 ?_
  · intro E τ hE
    rcases hE with ⟨rfl, hq⟩ | ⟨rfl, hq⟩
    · refine ⟨12, ⟨(tableOf [(0, 9, 12, 28), (0, 9, 15, 19)]).take 0, (tableOf [(0, 9, 12, 28), (0, 9, 15, 19)]).getD 0 default, (tableOf [(0, 9, 12, 28), (0, 9, 15, 19)]).drop 1, by rw [hT]; rfl, ?_, by decide, by decide, qcl_28, by decide, rfl⟩, fun q => ?_⟩
      · intro z hz; cases hz
      · refine J_asn F (L' := [(3, .ref q), (0, .ref (gb G + 0)), (1, .int x1), (2, .ref (gb G + 258))]) dL_cut_12 rfl (by decide) rfl ?_
        refine J_ic F dL_cut_13 ki_1 ?_
        exact J_retiW F (Nat.le_refl _) (Nat.le_refl _) ⟨_, rfl, hq⟩ dL_cut_14
    · refine ⟨15, ⟨(tableOf [(0, 9, 12, 28), (0, 9, 15, 19)]).take 1, (tableOf [(0, 9, 12, 28), (0, 9, 15, 19)]).getD 1 default, (tableOf [(0, 9, 12, 28), (0, 9, 15, 19)]).drop 2, by rw [hT]; rfl, ?_, by decide, by decide, qcl_19, by decide, rfl⟩, fun q => ?_⟩
      · intro z hz
        have hz2 : z = (tableOf [(0, 9, 12, 28), (0, 9, 15, 19)]).getD 0 default := by
          simpa [tableOf] using hz
        rcases hz2 with rfl
        · exact ⟨by decide, sIOB, by decide, qcl_28, by decide⟩
      · refine J_asn F (L' := [(3, .ref q), (0, .ref (gb G + 0)), (1, .int x1), (2, .ref (gb G + 258))]) dL_cut_15 rfl (by decide) rfl ?_
        refine J_ic F dL_cut_16 ki_2 ?_
        exact J_retiW F (Nat.le_refl _) (Nat.le_refl _) ⟨_, rfl, hq⟩ dL_cut_17
  · intro v τ hv
    obtain ⟨r, rfl, hq⟩ := hv
    refine J_i2l F dL_cut_7 ?_
    refine J_last F (i := nI 0) ly_258 (n_in (by decide) (by decide)) dL_cut_8 ?_
    refine J_goto F (tgt := 18) dL_cut_9 (by decide) ?_
    refine J_ic F dL_cut_18 ki_0 ?_
    exact J_retiW F (Nat.le_refl _) (Nat.le_refl _) ⟨_, rfl, hq⟩ dL_cut_19
theorem dL_undo_0 : decode cL_undo 0 = .ok (.aload_n 1, 1) := by decide +kernel
theorem dL_undo_1 : decode cL_undo 1 = .ok (.iconst 0, 1) := by decide +kernel
theorem dL_undo_2 : decode cL_undo 2 = .ok (.aload_n 0, 1) := by decide +kernel
theorem dL_undo_3 : decode cL_undo 3 = .ok (.invokevirtual 42, 3) := by decide +kernel
theorem dL_undo_6 : decode cL_undo 6 = .ok (.i2l, 1) := by decide +kernel
theorem dL_undo_7 : decode cL_undo 7 = .ok (.lastore, 1) := by decide +kernel
theorem dL_undo_8 : decode cL_undo 8 = .ok (.goto 6, 3) := by decide +kernel
theorem dL_undo_11 : decode cL_undo 11 = .ok (.astore_n 2, 1) := by decide +kernel
theorem dL_undo_12 : decode cL_undo 12 = .ok (.iconst 1, 1) := by decide +kernel
theorem dL_undo_13 : decode cL_undo 13 = .ok (.ireturn, 1) := by decide +kernel
theorem dL_undo_14 : decode cL_undo 14 = .ok (.iconst 0, 1) := by decide +kernel
theorem dL_undo_15 : decode cL_undo 15 = .ok (.ireturn, 1) := by decide +kernel
theorem H_undo (l : Launch) (hl : l.stackTraces = false) (G : Gp) {σ : St} {Q : Int32 → St → Prop} (h : wp_X8_undo σ (fun E τ => (E = sISE ∧ Q (nI 1) τ)) (fun r τ => Q (nI 0) (su τ 258 0 r))) : CnW l yL_undo cL_undo 3 (some .int) [(0, 8, 11, 19)] 7 148 1 6 G [.ref (gb G + 0), .ref (gb G + 258)] σ (qI Q) := by
  refine CnW_of (L := [(0, .ref (gb G + 0)), (1, .ref (gb G + 258))]) RL (by decide) rfl (Nat.le_of_ble_eq_true rfl) rfl ?_
  intro p e s m below meth c F hT
  refine J_aln F 1 dL_undo_0 rfl rfl ?_
  refine J_ic F dL_undo_1 ki_0 ?_
  refine J_aln F 0 dL_undo_2 rfl rfl ?_
  refine J_tcallV F (As := []) (st := [.int (nI 0), .ref (gb G + 258)]) (C_X8_undo l hl G h) ly_0 (by decide) rfl rfl qlm_42 li_X8_undo ls_X8_undo ini_X8 lc_X8_undo hd_X8_undo (by decide) (Nat.le_of_ble_eq_true rfl) (by decide) ?_ rfl dL_undo_3 ?_
  · intro E τ hE
    obtain ⟨rfl, hq⟩ := hE
    refine ⟨11, ⟨(tableOf [(0, 8, 11, 19)]).take 0, (tableOf [(0, 8, 11, 19)]).getD 0 default, (tableOf [(0, 8, 11, 19)]).drop 1, by rw [hT]; rfl, ?_, by decide, by decide, qcl_19, by decide, rfl⟩, fun q => ?_⟩
    · intro z hz; cases hz
    · refine J_asn F (L' := [(2, .ref q), (0, .ref (gb G + 0)), (1, .ref (gb G + 258))]) dL_undo_11 rfl (by decide) rfl ?_
      refine J_ic F dL_undo_12 ki_1 ?_
      exact J_retiW F (Nat.le_refl _) (Nat.le_refl _) ⟨_, rfl, hq⟩ dL_undo_13
  · intro v τ hv
    obtain ⟨r, rfl, hq⟩ := hv
    refine J_i2l F dL_undo_6 ?_
    refine J_last F (i := nI 0) ly_258 (n_in (by decide) (by decide)) dL_undo_7 ?_
    refine J_goto F (tgt := 14) dL_undo_8 (by decide) ?_
    refine J_ic F dL_undo_14 ki_0 ?_
    exact J_retiW F (Nat.le_refl _) (Nat.le_refl _) ⟨_, rfl, hq⟩ dL_undo_15
theorem dL_node_0 : decode cL_node 0 = .ok (.aload_n 3, 1) := by decide +kernel
theorem dL_node_1 : decode cL_node 1 = .ok (.iconst 0, 1) := by decide +kernel
theorem dL_node_2 : decode cL_node 2 = .ok (.aload_n 0, 1) := by decide +kernel
theorem dL_node_3 : decode cL_node 3 = .ok (.iload_n 1, 1) := by decide +kernel
theorem dL_node_4 : decode cL_node 4 = .ok (.iload_n 2, 1) := by decide +kernel
theorem dL_node_5 : decode cL_node 5 = .ok (.invokevirtual 45, 3) := by decide +kernel
theorem dL_node_8 : decode cL_node 8 = .ok (.i2l, 1) := by decide +kernel
theorem dL_node_9 : decode cL_node 9 = .ok (.lastore, 1) := by decide +kernel
theorem dL_node_10 : decode cL_node 10 = .ok (.goto 11, 3) := by decide +kernel
theorem dL_node_13 : decode cL_node 13 = .ok (.astore 4, 2) := by decide +kernel
theorem dL_node_15 : decode cL_node 15 = .ok (.iconst 1, 1) := by decide +kernel
theorem dL_node_16 : decode cL_node 16 = .ok (.ireturn, 1) := by decide +kernel
theorem dL_node_17 : decode cL_node 17 = .ok (.astore 4, 2) := by decide +kernel
theorem dL_node_19 : decode cL_node 19 = .ok (.iconst 2, 1) := by decide +kernel
theorem dL_node_20 : decode cL_node 20 = .ok (.ireturn, 1) := by decide +kernel
theorem dL_node_21 : decode cL_node 21 = .ok (.iconst 0, 1) := by decide +kernel
theorem dL_node_22 : decode cL_node 22 = .ok (.ireturn, 1) := by decide +kernel
theorem H_node (l : Launch) (hl : l.stackTraces = false) (G : Gp) (x1 : Int32) (x2 : Int32) {σ : St} {Q : Int32 → St → Prop} (h : wp_X8_node σ x1 x2 (fun E τ => (E = sIOB ∧ Q (nI 1) τ) ∨ (E = sNSE ∧ Q (nI 2) τ)) (fun r => Q (nI 0) (su σ 258 0 r))) : CnW l yL_node cL_node 5 (some .int) [(0, 10, 13, 28), (0, 10, 17, 30)] 8 143 2 12 G [.ref (gb G + 0), .int x1, .int x2, .ref (gb G + 258)] σ (qI Q) := by
  refine CnW_of (L := [(0, .ref (gb G + 0)), (1, .int x1), (2, .int x2), (3, .ref (gb G + 258))]) RL (by decide) rfl (Nat.le_of_ble_eq_true rfl) rfl ?_
  intro p e s m below meth c F hT
  refine J_aln F 3 dL_node_0 rfl rfl ?_
  refine J_ic F dL_node_1 ki_0 ?_
  refine J_aln F 0 dL_node_2 rfl rfl ?_
  refine J_iln F 1 dL_node_3 rfl rfl ?_
  refine J_iln F 2 dL_node_4 rfl rfl ?_
  refine J_tcallV F (As := [.int x1, .int x2]) (st := [.int (nI 0), .ref (gb G + 258)]) (C_X8_node l hl G x1 x2 h) ly_0 (by decide) rfl rfl qlm_45 li_X8_node ls_X8_node ini_X8 lc_X8_node hd_X8_node (by decide) (Nat.le_of_ble_eq_true rfl) (by decide) ?_ rfl dL_node_5 ?_
  · intro E τ hE
    rcases hE with ⟨rfl, hq⟩ | ⟨rfl, hq⟩
    · refine ⟨13, ⟨(tableOf [(0, 10, 13, 28), (0, 10, 17, 30)]).take 0, (tableOf [(0, 10, 13, 28), (0, 10, 17, 30)]).getD 0 default, (tableOf [(0, 10, 13, 28), (0, 10, 17, 30)]).drop 1, by rw [hT]; rfl, ?_, by decide, by decide, qcl_28, by decide, rfl⟩, fun q => ?_⟩
      · intro z hz; cases hz
      · refine J_as F (L' := [(4, .ref q), (0, .ref (gb G + 0)), (1, .int x1), (2, .int x2), (3, .ref (gb G + 258))]) dL_node_13 (by decide) rfl ?_
        refine J_ic F dL_node_15 ki_1 ?_
        exact J_retiW F (Nat.le_refl _) (Nat.le_refl _) ⟨_, rfl, hq⟩ dL_node_16
    · refine ⟨17, ⟨(tableOf [(0, 10, 13, 28), (0, 10, 17, 30)]).take 1, (tableOf [(0, 10, 13, 28), (0, 10, 17, 30)]).getD 1 default, (tableOf [(0, 10, 13, 28), (0, 10, 17, 30)]).drop 2, by rw [hT]; rfl, ?_, by decide, by decide, qcl_30, by decide, rfl⟩, fun q => ?_⟩
      · intro z hz
        have hz2 : z = (tableOf [(0, 10, 13, 28), (0, 10, 17, 30)]).getD 0 default := by
          simpa [tableOf] using hz
        rcases hz2 with rfl
        · exact ⟨by decide, sIOB, by decide, qcl_28, by decide⟩
      · refine J_as F (L' := [(4, .ref q), (0, .ref (gb G + 0)), (1, .int x1), (2, .int x2), (3, .ref (gb G + 258))]) dL_node_17 (by decide) rfl ?_
        refine J_ic F dL_node_19 ki_2 ?_
        exact J_retiW F (Nat.le_refl _) (Nat.le_refl _) ⟨_, rfl, hq⟩ dL_node_20
  · intro v τ hv
    obtain ⟨r, rfl, rfl, hq⟩ := hv
    refine J_i2l F dL_node_8 ?_
    refine J_last F (i := nI 0) ly_258 (n_in (by decide) (by decide)) dL_node_9 ?_
    refine J_goto F (tgt := 21) dL_node_10 (by decide) ?_
    refine J_ic F dL_node_21 ki_0 ?_
    exact J_retiW F (Nat.le_refl _) (Nat.le_refl _) ⟨_, rfl, hq⟩ dL_node_22
theorem dL_held_0 : decode cL_held 0 = .ok (.aload 4, 2) := by decide +kernel
theorem dL_held_2 : decode cL_held 2 = .ok (.iconst 0, 1) := by decide +kernel
theorem dL_held_3 : decode cL_held 3 = .ok (.aload_n 0, 1) := by decide +kernel
theorem dL_held_4 : decode cL_held 4 = .ok (.iload_n 1, 1) := by decide +kernel
theorem dL_held_5 : decode cL_held 5 = .ok (.iload_n 2, 1) := by decide +kernel
theorem dL_held_6 : decode cL_held 6 = .ok (.iload_n 3, 1) := by decide +kernel
theorem dL_held_7 : decode cL_held 7 = .ok (.invokevirtual 48, 3) := by decide +kernel
theorem dL_held_10 : decode cL_held 10 = .ok (.i2l, 1) := by decide +kernel
theorem dL_held_11 : decode cL_held 11 = .ok (.lastore, 1) := by decide +kernel
theorem dL_held_12 : decode cL_held 12 = .ok (.goto 11, 3) := by decide +kernel
theorem dL_held_15 : decode cL_held 15 = .ok (.astore 5, 2) := by decide +kernel
theorem dL_held_17 : decode cL_held 17 = .ok (.iconst 1, 1) := by decide +kernel
theorem dL_held_18 : decode cL_held 18 = .ok (.ireturn, 1) := by decide +kernel
theorem dL_held_19 : decode cL_held 19 = .ok (.astore 5, 2) := by decide +kernel
theorem dL_held_21 : decode cL_held 21 = .ok (.iconst 2, 1) := by decide +kernel
theorem dL_held_22 : decode cL_held 22 = .ok (.ireturn, 1) := by decide +kernel
theorem dL_held_23 : decode cL_held 23 = .ok (.iconst 0, 1) := by decide +kernel
theorem dL_held_24 : decode cL_held 24 = .ok (.ireturn, 1) := by decide +kernel
theorem H_held (l : Launch) (hl : l.stackTraces = false) (G : Gp) (x1 : Int32) (x2 : Int32) (x3 : Int32) {σ : St} {Q : Int32 → St → Prop} (h : wp_X8_held σ x1 x2 x3 (fun E τ => (E = sIOB ∧ Q (nI 1) τ) ∨ (E = sNSE ∧ Q (nI 2) τ)) (fun r τ => Q (nI 0) (su τ 258 0 r))) : CnW l yL_held cL_held 6 (some .int) [(0, 12, 15, 28), (0, 12, 19, 30)] 8 145 3 18 G [.ref (gb G + 0), .int x1, .int x2, .int x3, .ref (gb G + 258)] σ (qI Q) := by
  refine CnW_of (L := [(0, .ref (gb G + 0)), (1, .int x1), (2, .int x2), (3, .int x3), (4, .ref (gb G + 258))]) RL (by decide) rfl (Nat.le_of_ble_eq_true rfl) rfl ?_
  intro p e s m below meth c F hT
  refine J_al F 4 dL_held_0 rfl ?_
  refine J_ic F dL_held_2 ki_0 ?_
  refine J_aln F 0 dL_held_3 rfl rfl ?_
  refine J_iln F 1 dL_held_4 rfl rfl ?_
  refine J_iln F 2 dL_held_5 rfl rfl ?_
  refine J_iln F 3 dL_held_6 rfl rfl ?_
  refine J_tcallV F (As := [.int x1, .int x2, .int x3]) (st := [.int (nI 0), .ref (gb G + 258)]) (C_X8_held l hl G x1 x2 x3 h) ly_0 (by decide) rfl rfl qlm_48 li_X8_held ls_X8_held ini_X8 lc_X8_held hd_X8_held (by decide) (Nat.le_of_ble_eq_true rfl) (by decide) ?_ rfl dL_held_7 ?_
  · intro E τ hE
    rcases hE with ⟨rfl, hq⟩ | ⟨rfl, hq⟩
    · refine ⟨15, ⟨(tableOf [(0, 12, 15, 28), (0, 12, 19, 30)]).take 0, (tableOf [(0, 12, 15, 28), (0, 12, 19, 30)]).getD 0 default, (tableOf [(0, 12, 15, 28), (0, 12, 19, 30)]).drop 1, by rw [hT]; rfl, ?_, by decide, by decide, qcl_28, by decide, rfl⟩, fun q => ?_⟩
      · intro z hz; cases hz
      · refine J_as F (L' := [(5, .ref q), (0, .ref (gb G + 0)), (1, .int x1), (2, .int x2), (3, .int x3), (4, .ref (gb G + 258))]) dL_held_15 (by decide) rfl ?_
        refine J_ic F dL_held_17 ki_1 ?_
        exact J_retiW F (Nat.le_refl _) (Nat.le_refl _) ⟨_, rfl, hq⟩ dL_held_18
    · refine ⟨19, ⟨(tableOf [(0, 12, 15, 28), (0, 12, 19, 30)]).take 1, (tableOf [(0, 12, 15, 28), (0, 12, 19, 30)]).getD 1 default, (tableOf [(0, 12, 15, 28), (0, 12, 19, 30)]).drop 2, by rw [hT]; rfl, ?_, by decide, by decide, qcl_30, by decide, rfl⟩, fun q => ?_⟩
      · intro z hz
        have hz2 : z = (tableOf [(0, 12, 15, 28), (0, 12, 19, 30)]).getD 0 default := by
          simpa [tableOf] using hz
        rcases hz2 with rfl
        · exact ⟨by decide, sIOB, by decide, qcl_28, by decide⟩
      · refine J_as F (L' := [(5, .ref q), (0, .ref (gb G + 0)), (1, .int x1), (2, .int x2), (3, .int x3), (4, .ref (gb G + 258))]) dL_held_19 (by decide) rfl ?_
        refine J_ic F dL_held_21 ki_2 ?_
        exact J_retiW F (Nat.le_refl _) (Nat.le_refl _) ⟨_, rfl, hq⟩ dL_held_22
  · intro v τ hv
    obtain ⟨r, rfl, hq⟩ := hv
    refine J_i2l F dL_held_10 ?_
    refine J_last F (i := nI 0) ly_258 (n_in (by decide) (by decide)) dL_held_11 ?_
    refine J_goto F (tgt := 23) dL_held_12 (by decide) ?_
    refine J_ic F dL_held_23 ki_0 ?_
    exact J_retiW F (Nat.le_refl _) (Nat.le_refl _) ⟨_, rfl, hq⟩ dL_held_24
theorem dL_zone_0 : decode cL_zone 0 = .ok (.aload 4, 2) := by decide +kernel
theorem dL_zone_2 : decode cL_zone 2 = .ok (.iconst 0, 1) := by decide +kernel
theorem dL_zone_3 : decode cL_zone 3 = .ok (.aload_n 0, 1) := by decide +kernel
theorem dL_zone_4 : decode cL_zone 4 = .ok (.iload_n 1, 1) := by decide +kernel
theorem dL_zone_5 : decode cL_zone 5 = .ok (.iload_n 2, 1) := by decide +kernel
theorem dL_zone_6 : decode cL_zone 6 = .ok (.iload_n 3, 1) := by decide +kernel
theorem dL_zone_7 : decode cL_zone 7 = .ok (.invokevirtual 52, 3) := by decide +kernel
theorem dL_zone_10 : decode cL_zone 10 = .ok (.i2l, 1) := by decide +kernel
theorem dL_zone_11 : decode cL_zone 11 = .ok (.lastore, 1) := by decide +kernel
theorem dL_zone_12 : decode cL_zone 12 = .ok (.goto 7, 3) := by decide +kernel
theorem dL_zone_15 : decode cL_zone 15 = .ok (.astore 5, 2) := by decide +kernel
theorem dL_zone_17 : decode cL_zone 17 = .ok (.iconst 1, 1) := by decide +kernel
theorem dL_zone_18 : decode cL_zone 18 = .ok (.ireturn, 1) := by decide +kernel
theorem dL_zone_19 : decode cL_zone 19 = .ok (.iconst 0, 1) := by decide +kernel
theorem dL_zone_20 : decode cL_zone 20 = .ok (.ireturn, 1) := by decide +kernel
theorem H_zone (l : Launch) (hl : l.stackTraces = false) (G : Gp) (x1 : Int32) (x2 : Int32) (x3 : Int32) {σ : St} {Q : Int32 → St → Prop} (h : wp_X8_zone σ x1 x2 x3 (fun E τ => (E = sIOB ∧ Q (nI 1) τ)) (fun r => Q (nI 0) (su σ 258 0 r))) : CnW l yL_zone cL_zone 6 (some .int) [(0, 12, 15, 28)] 8 144 2 12 G [.ref (gb G + 0), .int x1, .int x2, .int x3, .ref (gb G + 258)] σ (qI Q) := by
  refine CnW_of (L := [(0, .ref (gb G + 0)), (1, .int x1), (2, .int x2), (3, .int x3), (4, .ref (gb G + 258))]) RL (by decide) rfl (Nat.le_of_ble_eq_true rfl) rfl ?_
  intro p e s m below meth c F hT
  refine J_al F 4 dL_zone_0 rfl ?_
  refine J_ic F dL_zone_2 ki_0 ?_
  refine J_aln F 0 dL_zone_3 rfl rfl ?_
  refine J_iln F 1 dL_zone_4 rfl rfl ?_
  refine J_iln F 2 dL_zone_5 rfl rfl ?_
  refine J_iln F 3 dL_zone_6 rfl rfl ?_
  refine J_tcallV F (As := [.int x1, .int x2, .int x3]) (st := [.int (nI 0), .ref (gb G + 258)]) (C_X8_zone l hl G x1 x2 x3 h) ly_0 (by decide) rfl rfl qlm_52 li_X8_zone ls_X8_zone ini_X8 lc_X8_zone hd_X8_zone (by decide) (Nat.le_of_ble_eq_true rfl) (by decide) ?_ rfl dL_zone_7 ?_
  · intro E τ hE
    obtain ⟨rfl, hq⟩ := hE
    refine ⟨15, ⟨(tableOf [(0, 12, 15, 28)]).take 0, (tableOf [(0, 12, 15, 28)]).getD 0 default, (tableOf [(0, 12, 15, 28)]).drop 1, by rw [hT]; rfl, ?_, by decide, by decide, qcl_28, by decide, rfl⟩, fun q => ?_⟩
    · intro z hz; cases hz
    · refine J_as F (L' := [(5, .ref q), (0, .ref (gb G + 0)), (1, .int x1), (2, .int x2), (3, .int x3), (4, .ref (gb G + 258))]) dL_zone_15 (by decide) rfl ?_
      refine J_ic F dL_zone_17 ki_1 ?_
      exact J_retiW F (Nat.le_refl _) (Nat.le_refl _) ⟨_, rfl, hq⟩ dL_zone_18
  · intro v τ hv
    obtain ⟨r, rfl, rfl, hq⟩ := hv
    refine J_i2l F dL_zone_10 ?_
    refine J_last F (i := nI 0) ly_258 (n_in (by decide) (by decide)) dL_zone_11 ?_
    refine J_goto F (tgt := 19) dL_zone_12 (by decide) ?_
    refine J_ic F dL_zone_19 ki_0 ?_
    exact J_retiW F (Nat.le_refl _) (Nat.le_refl _) ⟨_, rfl, hq⟩ dL_zone_20
theorem dL_box_0 : decode cL_box 0 = .ok (.aload_n 3, 1) := by decide +kernel
theorem dL_box_1 : decode cL_box 1 = .ok (.iconst 0, 1) := by decide +kernel
theorem dL_box_2 : decode cL_box 2 = .ok (.aload_n 0, 1) := by decide +kernel
theorem dL_box_3 : decode cL_box 3 = .ok (.iload_n 1, 1) := by decide +kernel
theorem dL_box_4 : decode cL_box 4 = .ok (.iload_n 2, 1) := by decide +kernel
theorem dL_box_5 : decode cL_box 5 = .ok (.invokevirtual 55, 3) := by decide +kernel
theorem dL_box_8 : decode cL_box 8 = .ok (.i2l, 1) := by decide +kernel
theorem dL_box_9 : decode cL_box 9 = .ok (.lastore, 1) := by decide +kernel
theorem dL_box_10 : decode cL_box 10 = .ok (.goto 11, 3) := by decide +kernel
theorem dL_box_13 : decode cL_box 13 = .ok (.astore 4, 2) := by decide +kernel
theorem dL_box_15 : decode cL_box 15 = .ok (.iconst 1, 1) := by decide +kernel
theorem dL_box_16 : decode cL_box 16 = .ok (.ireturn, 1) := by decide +kernel
theorem dL_box_17 : decode cL_box 17 = .ok (.astore 4, 2) := by decide +kernel
theorem dL_box_19 : decode cL_box 19 = .ok (.iconst 2, 1) := by decide +kernel
theorem dL_box_20 : decode cL_box 20 = .ok (.ireturn, 1) := by decide +kernel
theorem dL_box_21 : decode cL_box 21 = .ok (.iconst 0, 1) := by decide +kernel
theorem dL_box_22 : decode cL_box 22 = .ok (.ireturn, 1) := by decide +kernel
theorem H_box (l : Launch) (hl : l.stackTraces = false) (G : Gp) (x1 : Int32) (x2 : Int32) {σ : St} {Q : Int32 → St → Prop} (h : wp_X8_box σ x1 x2 (fun E τ => (E = sIAE ∧ Q (nI 1) τ) ∨ (E = sNSE ∧ Q (nI 2) τ)) (fun r => Q (nI 0) (su σ 258 0 r))) : CnW l yL_box cL_box 5 (some .int) [(0, 10, 13, 13), (0, 10, 17, 30)] 8 144 2 12 G [.ref (gb G + 0), .int x1, .int x2, .ref (gb G + 258)] σ (qI Q) := by
  refine CnW_of (L := [(0, .ref (gb G + 0)), (1, .int x1), (2, .int x2), (3, .ref (gb G + 258))]) RL (by decide) rfl (Nat.le_of_ble_eq_true rfl) rfl ?_
  intro p e s m below meth c F hT
  refine J_aln F 3 dL_box_0 rfl rfl ?_
  refine J_ic F dL_box_1 ki_0 ?_
  refine J_aln F 0 dL_box_2 rfl rfl ?_
  refine J_iln F 1 dL_box_3 rfl rfl ?_
  refine J_iln F 2 dL_box_4 rfl rfl ?_
  refine J_tcallV F (As := [.int x1, .int x2]) (st := [.int (nI 0), .ref (gb G + 258)]) (C_X8_box l hl G x1 x2 h) ly_0 (by decide) rfl rfl qlm_55 li_X8_box ls_X8_box ini_X8 lc_X8_box hd_X8_box (by decide) (Nat.le_of_ble_eq_true rfl) (by decide) ?_ rfl dL_box_5 ?_
  · intro E τ hE
    rcases hE with ⟨rfl, hq⟩ | ⟨rfl, hq⟩
    · refine ⟨13, ⟨(tableOf [(0, 10, 13, 13), (0, 10, 17, 30)]).take 0, (tableOf [(0, 10, 13, 13), (0, 10, 17, 30)]).getD 0 default, (tableOf [(0, 10, 13, 13), (0, 10, 17, 30)]).drop 1, by rw [hT]; rfl, ?_, by decide, by decide, qcl_13, by decide, rfl⟩, fun q => ?_⟩
      · intro z hz; cases hz
      · refine J_as F (L' := [(4, .ref q), (0, .ref (gb G + 0)), (1, .int x1), (2, .int x2), (3, .ref (gb G + 258))]) dL_box_13 (by decide) rfl ?_
        refine J_ic F dL_box_15 ki_1 ?_
        exact J_retiW F (Nat.le_refl _) (Nat.le_refl _) ⟨_, rfl, hq⟩ dL_box_16
    · refine ⟨17, ⟨(tableOf [(0, 10, 13, 13), (0, 10, 17, 30)]).take 1, (tableOf [(0, 10, 13, 13), (0, 10, 17, 30)]).getD 1 default, (tableOf [(0, 10, 13, 13), (0, 10, 17, 30)]).drop 2, by rw [hT]; rfl, ?_, by decide, by decide, qcl_30, by decide, rfl⟩, fun q => ?_⟩
      · intro z hz
        have hz2 : z = (tableOf [(0, 10, 13, 13), (0, 10, 17, 30)]).getD 0 default := by
          simpa [tableOf] using hz
        rcases hz2 with rfl
        · exact ⟨by decide, sIAE, by decide, qcl_13, by decide⟩
      · refine J_as F (L' := [(4, .ref q), (0, .ref (gb G + 0)), (1, .int x1), (2, .int x2), (3, .ref (gb G + 258))]) dL_box_17 (by decide) rfl ?_
        refine J_ic F dL_box_19 ki_2 ?_
        exact J_retiW F (Nat.le_refl _) (Nat.le_refl _) ⟨_, rfl, hq⟩ dL_box_20
  · intro v τ hv
    obtain ⟨r, rfl, rfl, hq⟩ := hv
    refine J_i2l F dL_box_8 ?_
    refine J_last F (i := nI 0) ly_258 (n_in (by decide) (by decide)) dL_box_9 ?_
    refine J_goto F (tgt := 21) dL_box_10 (by decide) ?_
    refine J_ic F dL_box_21 ki_0 ?_
    exact J_retiW F (Nat.le_refl _) (Nat.le_refl _) ⟨_, rfl, hq⟩ dL_box_22
theorem dL_cell_0 : decode cL_cell 0 = .ok (.aload 5, 2) := by decide +kernel
theorem dL_cell_2 : decode cL_cell 2 = .ok (.iconst 0, 1) := by decide +kernel
theorem dL_cell_3 : decode cL_cell 3 = .ok (.aload_n 0, 1) := by decide +kernel
theorem dL_cell_4 : decode cL_cell 4 = .ok (.iload_n 1, 1) := by decide +kernel
theorem dL_cell_5 : decode cL_cell 5 = .ok (.iload_n 2, 1) := by decide +kernel
theorem dL_cell_6 : decode cL_cell 6 = .ok (.iload_n 3, 1) := by decide +kernel
theorem dL_cell_7 : decode cL_cell 7 = .ok (.iload 4, 2) := by decide +kernel
theorem dL_cell_9 : decode cL_cell 9 = .ok (.invokevirtual 58, 3) := by decide +kernel
theorem dL_cell_12 : decode cL_cell 12 = .ok (.i2l, 1) := by decide +kernel
theorem dL_cell_13 : decode cL_cell 13 = .ok (.lastore, 1) := by decide +kernel
theorem dL_cell_14 : decode cL_cell 14 = .ok (.goto 15, 3) := by decide +kernel
theorem dL_cell_17 : decode cL_cell 17 = .ok (.astore 6, 2) := by decide +kernel
theorem dL_cell_19 : decode cL_cell 19 = .ok (.iconst 1, 1) := by decide +kernel
theorem dL_cell_20 : decode cL_cell 20 = .ok (.ireturn, 1) := by decide +kernel
theorem dL_cell_21 : decode cL_cell 21 = .ok (.astore 6, 2) := by decide +kernel
theorem dL_cell_23 : decode cL_cell 23 = .ok (.iconst 2, 1) := by decide +kernel
theorem dL_cell_24 : decode cL_cell 24 = .ok (.ireturn, 1) := by decide +kernel
theorem dL_cell_25 : decode cL_cell 25 = .ok (.astore 6, 2) := by decide +kernel
theorem dL_cell_27 : decode cL_cell 27 = .ok (.iconst 3, 1) := by decide +kernel
theorem dL_cell_28 : decode cL_cell 28 = .ok (.ireturn, 1) := by decide +kernel
theorem dL_cell_29 : decode cL_cell 29 = .ok (.iconst 0, 1) := by decide +kernel
theorem dL_cell_30 : decode cL_cell 30 = .ok (.ireturn, 1) := by decide +kernel
theorem H_cell (l : Launch) (hl : l.stackTraces = false) (G : Gp) (x1 : Int32) (x2 : Int32) (x3 : Int32) (x4 : Int32) {σ : St} {Q : Int32 → St → Prop} (h : wp_X8_cell σ x1 x2 x3 x4 (fun E τ => (E = sIOB ∧ Q (nI 1) τ) ∨ (E = sIAE ∧ Q (nI 2) τ) ∨ (E = sNSE ∧ Q (nI 3) τ)) (fun r => Q (nI 0) (su σ 258 0 r))) : CnW l yL_cell cL_cell 7 (some .int) [(0, 14, 17, 28), (0, 14, 21, 13), (0, 14, 25, 30)] 8 147 3 18 G [.ref (gb G + 0), .int x1, .int x2, .int x3, .int x4, .ref (gb G + 258)] σ (qI Q) := by
  refine CnW_of (L := [(0, .ref (gb G + 0)), (1, .int x1), (2, .int x2), (3, .int x3), (4, .int x4), (5, .ref (gb G + 258))]) RL (by decide) rfl (Nat.le_of_ble_eq_true rfl) rfl ?_
  intro p e s m below meth c F hT
  refine J_al F 5 dL_cell_0 rfl ?_
  refine J_ic F dL_cell_2 ki_0 ?_
  refine J_aln F 0 dL_cell_3 rfl rfl ?_
  refine J_iln F 1 dL_cell_4 rfl rfl ?_
  refine J_iln F 2 dL_cell_5 rfl rfl ?_
  refine J_iln F 3 dL_cell_6 rfl rfl ?_
  refine J_il F 4 dL_cell_7 rfl ?_
  refine J_tcallV F (As := [.int x1, .int x2, .int x3, .int x4]) (st := [.int (nI 0), .ref (gb G + 258)]) (C_X8_cell l hl G x1 x2 x3 x4 h) ly_0 (by decide) rfl rfl qlm_58 li_X8_cell ls_X8_cell ini_X8 lc_X8_cell hd_X8_cell (by decide) (Nat.le_of_ble_eq_true rfl) (by decide) ?_ rfl dL_cell_9 ?_
  · intro E τ hE
    rcases hE with ⟨rfl, hq⟩ | ⟨rfl, hq⟩ | ⟨rfl, hq⟩
    · refine ⟨17, ⟨(tableOf [(0, 14, 17, 28), (0, 14, 21, 13), (0, 14, 25, 30)]).take 0, (tableOf [(0, 14, 17, 28), (0, 14, 21, 13), (0, 14, 25, 30)]).getD 0 default, (tableOf [(0, 14, 17, 28), (0, 14, 21, 13), (0, 14, 25, 30)]).drop 1, by rw [hT]; rfl, ?_, by decide, by decide, qcl_28, by decide, rfl⟩, fun q => ?_⟩
      · intro z hz; cases hz
      · refine J_as F (L' := [(6, .ref q), (0, .ref (gb G + 0)), (1, .int x1), (2, .int x2), (3, .int x3), (4, .int x4), (5, .ref (gb G + 258))]) dL_cell_17 (by decide) rfl ?_
        refine J_ic F dL_cell_19 ki_1 ?_
        exact J_retiW F (Nat.le_refl _) (Nat.le_refl _) ⟨_, rfl, hq⟩ dL_cell_20
    · refine ⟨21, ⟨(tableOf [(0, 14, 17, 28), (0, 14, 21, 13), (0, 14, 25, 30)]).take 1, (tableOf [(0, 14, 17, 28), (0, 14, 21, 13), (0, 14, 25, 30)]).getD 1 default, (tableOf [(0, 14, 17, 28), (0, 14, 21, 13), (0, 14, 25, 30)]).drop 2, by rw [hT]; rfl, ?_, by decide, by decide, qcl_13, by decide, rfl⟩, fun q => ?_⟩
      · intro z hz
        have hz2 : z = (tableOf [(0, 14, 17, 28), (0, 14, 21, 13), (0, 14, 25, 30)]).getD 0 default := by
          simpa [tableOf] using hz
        rcases hz2 with rfl
        · exact ⟨by decide, sIOB, by decide, qcl_28, by decide⟩
      · refine J_as F (L' := [(6, .ref q), (0, .ref (gb G + 0)), (1, .int x1), (2, .int x2), (3, .int x3), (4, .int x4), (5, .ref (gb G + 258))]) dL_cell_21 (by decide) rfl ?_
        refine J_ic F dL_cell_23 ki_2 ?_
        exact J_retiW F (Nat.le_refl _) (Nat.le_refl _) ⟨_, rfl, hq⟩ dL_cell_24
    · refine ⟨25, ⟨(tableOf [(0, 14, 17, 28), (0, 14, 21, 13), (0, 14, 25, 30)]).take 2, (tableOf [(0, 14, 17, 28), (0, 14, 21, 13), (0, 14, 25, 30)]).getD 2 default, (tableOf [(0, 14, 17, 28), (0, 14, 21, 13), (0, 14, 25, 30)]).drop 3, by rw [hT]; rfl, ?_, by decide, by decide, qcl_30, by decide, rfl⟩, fun q => ?_⟩
      · intro z hz
        have hz2 : z = (tableOf [(0, 14, 17, 28), (0, 14, 21, 13), (0, 14, 25, 30)]).getD 0 default ∨ z = (tableOf [(0, 14, 17, 28), (0, 14, 21, 13), (0, 14, 25, 30)]).getD 1 default := by
          simpa [tableOf] using hz
        rcases hz2 with rfl | rfl
        · exact ⟨by decide, sIOB, by decide, qcl_28, by decide⟩
        · exact ⟨by decide, sIAE, by decide, qcl_13, by decide⟩
      · refine J_as F (L' := [(6, .ref q), (0, .ref (gb G + 0)), (1, .int x1), (2, .int x2), (3, .int x3), (4, .int x4), (5, .ref (gb G + 258))]) dL_cell_25 (by decide) rfl ?_
        refine J_ic F dL_cell_27 ki_3 ?_
        exact J_retiW F (Nat.le_refl _) (Nat.le_refl _) ⟨_, rfl, hq⟩ dL_cell_28
  · intro v τ hv
    obtain ⟨r, rfl, rfl, hq⟩ := hv
    refine J_i2l F dL_cell_12 ?_
    refine J_last F (i := nI 0) ly_258 (n_in (by decide) (by decide)) dL_cell_13 ?_
    refine J_goto F (tgt := 29) dL_cell_14 (by decide) ?_
    refine J_ic F dL_cell_29 ki_0 ?_
    exact J_retiW F (Nat.le_refl _) (Nat.le_refl _) ⟨_, rfl, hq⟩ dL_cell_30
theorem dL_heir_0 : decode cL_heir 0 = .ok (.aload 4, 2) := by decide +kernel
theorem dL_heir_2 : decode cL_heir 2 = .ok (.iconst 0, 1) := by decide +kernel
theorem dL_heir_3 : decode cL_heir 3 = .ok (.aload_n 0, 1) := by decide +kernel
theorem dL_heir_4 : decode cL_heir 4 = .ok (.iload_n 1, 1) := by decide +kernel
theorem dL_heir_5 : decode cL_heir 5 = .ok (.iload_n 2, 1) := by decide +kernel
theorem dL_heir_6 : decode cL_heir 6 = .ok (.iload_n 3, 1) := by decide +kernel
theorem dL_heir_7 : decode cL_heir 7 = .ok (.invokevirtual 61, 3) := by decide +kernel
theorem dL_heir_10 : decode cL_heir 10 = .ok (.i2l, 1) := by decide +kernel
theorem dL_heir_11 : decode cL_heir 11 = .ok (.lastore, 1) := by decide +kernel
theorem dL_heir_12 : decode cL_heir 12 = .ok (.goto 7, 3) := by decide +kernel
theorem dL_heir_15 : decode cL_heir 15 = .ok (.astore 5, 2) := by decide +kernel
theorem dL_heir_17 : decode cL_heir 17 = .ok (.iconst 1, 1) := by decide +kernel
theorem dL_heir_18 : decode cL_heir 18 = .ok (.ireturn, 1) := by decide +kernel
theorem dL_heir_19 : decode cL_heir 19 = .ok (.iconst 0, 1) := by decide +kernel
theorem dL_heir_20 : decode cL_heir 20 = .ok (.ireturn, 1) := by decide +kernel
theorem H_heir (l : Launch) (hl : l.stackTraces = false) (G : Gp) (x1 : Int32) (x2 : Int32) (x3 : Int32) {σ : St} {Q : Int32 → St → Prop} (h : wp_X8_heir σ x1 x2 x3 (fun E τ => (E = sIOB ∧ Q (nI 1) τ)) (fun r => Q (nI 0) (su σ 258 0 r))) : CnW l yL_heir cL_heir 6 (some .int) [(0, 12, 15, 28)] 8 146 2 12 G [.ref (gb G + 0), .int x1, .int x2, .int x3, .ref (gb G + 258)] σ (qI Q) := by
  refine CnW_of (L := [(0, .ref (gb G + 0)), (1, .int x1), (2, .int x2), (3, .int x3), (4, .ref (gb G + 258))]) RL (by decide) rfl (Nat.le_of_ble_eq_true rfl) rfl ?_
  intro p e s m below meth c F hT
  refine J_al F 4 dL_heir_0 rfl ?_
  refine J_ic F dL_heir_2 ki_0 ?_
  refine J_aln F 0 dL_heir_3 rfl rfl ?_
  refine J_iln F 1 dL_heir_4 rfl rfl ?_
  refine J_iln F 2 dL_heir_5 rfl rfl ?_
  refine J_iln F 3 dL_heir_6 rfl rfl ?_
  refine J_tcallV F (As := [.int x1, .int x2, .int x3]) (st := [.int (nI 0), .ref (gb G + 258)]) (C_X8_heir l hl G x1 x2 x3 h) ly_0 (by decide) rfl rfl qlm_61 li_X8_heir ls_X8_heir ini_X8 lc_X8_heir hd_X8_heir (by decide) (Nat.le_of_ble_eq_true rfl) (by decide) ?_ rfl dL_heir_7 ?_
  · intro E τ hE
    obtain ⟨rfl, hq⟩ := hE
    refine ⟨15, ⟨(tableOf [(0, 12, 15, 28)]).take 0, (tableOf [(0, 12, 15, 28)]).getD 0 default, (tableOf [(0, 12, 15, 28)]).drop 1, by rw [hT]; rfl, ?_, by decide, by decide, qcl_28, by decide, rfl⟩, fun q => ?_⟩
    · intro z hz; cases hz
    · refine J_as F (L' := [(5, .ref q), (0, .ref (gb G + 0)), (1, .int x1), (2, .int x2), (3, .int x3), (4, .ref (gb G + 258))]) dL_heir_15 (by decide) rfl ?_
      refine J_ic F dL_heir_17 ki_1 ?_
      exact J_retiW F (Nat.le_refl _) (Nat.le_refl _) ⟨_, rfl, hq⟩ dL_heir_18
  · intro v τ hv
    obtain ⟨r, rfl, rfl, hq⟩ := hv
    refine J_i2l F dL_heir_10 ?_
    refine J_last F (i := nI 0) ly_258 (n_in (by decide) (by decide)) dL_heir_11 ?_
    refine J_goto F (tgt := 19) dL_heir_12 (by decide) ?_
    refine J_ic F dL_heir_19 ki_0 ?_
    exact J_retiW F (Nat.le_refl _) (Nat.le_refl _) ⟨_, rfl, hq⟩ dL_heir_20
theorem dL_key_0 : decode cL_key 0 = .ok (.aload_n 3, 1) := by decide +kernel
theorem dL_key_1 : decode cL_key 1 = .ok (.iconst 0, 1) := by decide +kernel
theorem dL_key_2 : decode cL_key 2 = .ok (.aload_n 0, 1) := by decide +kernel
theorem dL_key_3 : decode cL_key 3 = .ok (.iload_n 1, 1) := by decide +kernel
theorem dL_key_4 : decode cL_key 4 = .ok (.iload_n 2, 1) := by decide +kernel
theorem dL_key_5 : decode cL_key 5 = .ok (.invokevirtual 64, 3) := by decide +kernel
theorem dL_key_8 : decode cL_key 8 = .ok (.i2l, 1) := by decide +kernel
theorem dL_key_9 : decode cL_key 9 = .ok (.lastore, 1) := by decide +kernel
theorem dL_key_10 : decode cL_key 10 = .ok (.goto 11, 3) := by decide +kernel
theorem dL_key_13 : decode cL_key 13 = .ok (.astore 4, 2) := by decide +kernel
theorem dL_key_15 : decode cL_key 15 = .ok (.iconst 1, 1) := by decide +kernel
theorem dL_key_16 : decode cL_key 16 = .ok (.ireturn, 1) := by decide +kernel
theorem dL_key_17 : decode cL_key 17 = .ok (.astore 4, 2) := by decide +kernel
theorem dL_key_19 : decode cL_key 19 = .ok (.iconst 2, 1) := by decide +kernel
theorem dL_key_20 : decode cL_key 20 = .ok (.ireturn, 1) := by decide +kernel
theorem dL_key_21 : decode cL_key 21 = .ok (.iconst 0, 1) := by decide +kernel
theorem dL_key_22 : decode cL_key 22 = .ok (.ireturn, 1) := by decide +kernel
theorem H_key (l : Launch) (hl : l.stackTraces = false) (G : Gp) (x1 : Int32) (x2 : Int32) {σ : St} {Q : Int32 → St → Prop} (h : wp_X8_key σ x1 x2 (fun E τ => (E = sIOB ∧ Q (nI 1) τ) ∨ (E = sNSE ∧ Q (nI 2) τ)) (fun r => Q (nI 0) (su σ 258 0 r))) : CnW l yL_key cL_key 5 (some .int) [(0, 10, 13, 28), (0, 10, 17, 30)] 8 143 2 12 G [.ref (gb G + 0), .int x1, .int x2, .ref (gb G + 258)] σ (qI Q) := by
  refine CnW_of (L := [(0, .ref (gb G + 0)), (1, .int x1), (2, .int x2), (3, .ref (gb G + 258))]) RL (by decide) rfl (Nat.le_of_ble_eq_true rfl) rfl ?_
  intro p e s m below meth c F hT
  refine J_aln F 3 dL_key_0 rfl rfl ?_
  refine J_ic F dL_key_1 ki_0 ?_
  refine J_aln F 0 dL_key_2 rfl rfl ?_
  refine J_iln F 1 dL_key_3 rfl rfl ?_
  refine J_iln F 2 dL_key_4 rfl rfl ?_
  refine J_tcallV F (As := [.int x1, .int x2]) (st := [.int (nI 0), .ref (gb G + 258)]) (C_X8_key l hl G x1 x2 h) ly_0 (by decide) rfl rfl qlm_64 li_X8_key ls_X8_key ini_X8 lc_X8_key hd_X8_key (by decide) (Nat.le_of_ble_eq_true rfl) (by decide) ?_ rfl dL_key_5 ?_
  · intro E τ hE
    rcases hE with ⟨rfl, hq⟩ | ⟨rfl, hq⟩
    · refine ⟨13, ⟨(tableOf [(0, 10, 13, 28), (0, 10, 17, 30)]).take 0, (tableOf [(0, 10, 13, 28), (0, 10, 17, 30)]).getD 0 default, (tableOf [(0, 10, 13, 28), (0, 10, 17, 30)]).drop 1, by rw [hT]; rfl, ?_, by decide, by decide, qcl_28, by decide, rfl⟩, fun q => ?_⟩
      · intro z hz; cases hz
      · refine J_as F (L' := [(4, .ref q), (0, .ref (gb G + 0)), (1, .int x1), (2, .int x2), (3, .ref (gb G + 258))]) dL_key_13 (by decide) rfl ?_
        refine J_ic F dL_key_15 ki_1 ?_
        exact J_retiW F (Nat.le_refl _) (Nat.le_refl _) ⟨_, rfl, hq⟩ dL_key_16
    · refine ⟨17, ⟨(tableOf [(0, 10, 13, 28), (0, 10, 17, 30)]).take 1, (tableOf [(0, 10, 13, 28), (0, 10, 17, 30)]).getD 1 default, (tableOf [(0, 10, 13, 28), (0, 10, 17, 30)]).drop 2, by rw [hT]; rfl, ?_, by decide, by decide, qcl_30, by decide, rfl⟩, fun q => ?_⟩
      · intro z hz
        have hz2 : z = (tableOf [(0, 10, 13, 28), (0, 10, 17, 30)]).getD 0 default := by
          simpa [tableOf] using hz
        rcases hz2 with rfl
        · exact ⟨by decide, sIOB, by decide, qcl_28, by decide⟩
      · refine J_as F (L' := [(4, .ref q), (0, .ref (gb G + 0)), (1, .int x1), (2, .int x2), (3, .ref (gb G + 258))]) dL_key_17 (by decide) rfl ?_
        refine J_ic F dL_key_19 ki_2 ?_
        exact J_retiW F (Nat.le_refl _) (Nat.le_refl _) ⟨_, rfl, hq⟩ dL_key_20
  · intro v τ hv
    obtain ⟨r, rfl, rfl, hq⟩ := hv
    refine J_i2l F dL_key_8 ?_
    refine J_last F (i := nI 0) ly_258 (n_in (by decide) (by decide)) dL_key_9 ?_
    refine J_goto F (tgt := 21) dL_key_10 (by decide) ?_
    refine J_ic F dL_key_21 ki_0 ?_
    exact J_retiW F (Nat.le_refl _) (Nat.le_refl _) ⟨_, rfl, hq⟩ dL_key_22
theorem dL_point_0 : decode cL_point 0 = .ok (.aload 4, 2) := by decide +kernel
theorem dL_point_2 : decode cL_point 2 = .ok (.iconst 0, 1) := by decide +kernel
theorem dL_point_3 : decode cL_point 3 = .ok (.aload_n 0, 1) := by decide +kernel
theorem dL_point_4 : decode cL_point 4 = .ok (.iload_n 1, 1) := by decide +kernel
theorem dL_point_5 : decode cL_point 5 = .ok (.iload_n 2, 1) := by decide +kernel
theorem dL_point_6 : decode cL_point 6 = .ok (.iload_n 3, 1) := by decide +kernel
theorem dL_point_7 : decode cL_point 7 = .ok (.invokevirtual 67, 3) := by decide +kernel
theorem dL_point_10 : decode cL_point 10 = .ok (.i2l, 1) := by decide +kernel
theorem dL_point_11 : decode cL_point 11 = .ok (.lastore, 1) := by decide +kernel
theorem dL_point_12 : decode cL_point 12 = .ok (.goto 11, 3) := by decide +kernel
theorem dL_point_15 : decode cL_point 15 = .ok (.astore 5, 2) := by decide +kernel
theorem dL_point_17 : decode cL_point 17 = .ok (.iconst 1, 1) := by decide +kernel
theorem dL_point_18 : decode cL_point 18 = .ok (.ireturn, 1) := by decide +kernel
theorem dL_point_19 : decode cL_point 19 = .ok (.astore 5, 2) := by decide +kernel
theorem dL_point_21 : decode cL_point 21 = .ok (.iconst 2, 1) := by decide +kernel
theorem dL_point_22 : decode cL_point 22 = .ok (.ireturn, 1) := by decide +kernel
theorem dL_point_23 : decode cL_point 23 = .ok (.iconst 0, 1) := by decide +kernel
theorem dL_point_24 : decode cL_point 24 = .ok (.ireturn, 1) := by decide +kernel
theorem H_point (l : Launch) (hl : l.stackTraces = false) (G : Gp) (x1 : Int32) (x2 : Int32) (x3 : Int32) {σ : St} {Q : Int32 → St → Prop} (h : wp_X8_point σ x1 x2 x3 (fun E τ => (E = sIOB ∧ Q (nI 1) τ) ∨ (E = sNSE ∧ Q (nI 2) τ)) (fun r => Q (nI 0) (su σ 258 0 r))) : CnW l yL_point cL_point 6 (some .int) [(0, 12, 15, 28), (0, 12, 19, 30)] 8 146 3 18 G [.ref (gb G + 0), .int x1, .int x2, .int x3, .ref (gb G + 258)] σ (qI Q) := by
  refine CnW_of (L := [(0, .ref (gb G + 0)), (1, .int x1), (2, .int x2), (3, .int x3), (4, .ref (gb G + 258))]) RL (by decide) rfl (Nat.le_of_ble_eq_true rfl) rfl ?_
  intro p e s m below meth c F hT
  refine J_al F 4 dL_point_0 rfl ?_
  refine J_ic F dL_point_2 ki_0 ?_
  refine J_aln F 0 dL_point_3 rfl rfl ?_
  refine J_iln F 1 dL_point_4 rfl rfl ?_
  refine J_iln F 2 dL_point_5 rfl rfl ?_
  refine J_iln F 3 dL_point_6 rfl rfl ?_
  refine J_tcallV F (As := [.int x1, .int x2, .int x3]) (st := [.int (nI 0), .ref (gb G + 258)]) (C_X8_point l hl G x1 x2 x3 h) ly_0 (by decide) rfl rfl qlm_67 li_X8_point ls_X8_point ini_X8 lc_X8_point hd_X8_point (by decide) (Nat.le_of_ble_eq_true rfl) (by decide) ?_ rfl dL_point_7 ?_
  · intro E τ hE
    rcases hE with ⟨rfl, hq⟩ | ⟨rfl, hq⟩
    · refine ⟨15, ⟨(tableOf [(0, 12, 15, 28), (0, 12, 19, 30)]).take 0, (tableOf [(0, 12, 15, 28), (0, 12, 19, 30)]).getD 0 default, (tableOf [(0, 12, 15, 28), (0, 12, 19, 30)]).drop 1, by rw [hT]; rfl, ?_, by decide, by decide, qcl_28, by decide, rfl⟩, fun q => ?_⟩
      · intro z hz; cases hz
      · refine J_as F (L' := [(5, .ref q), (0, .ref (gb G + 0)), (1, .int x1), (2, .int x2), (3, .int x3), (4, .ref (gb G + 258))]) dL_point_15 (by decide) rfl ?_
        refine J_ic F dL_point_17 ki_1 ?_
        exact J_retiW F (Nat.le_refl _) (Nat.le_refl _) ⟨_, rfl, hq⟩ dL_point_18
    · refine ⟨19, ⟨(tableOf [(0, 12, 15, 28), (0, 12, 19, 30)]).take 1, (tableOf [(0, 12, 15, 28), (0, 12, 19, 30)]).getD 1 default, (tableOf [(0, 12, 15, 28), (0, 12, 19, 30)]).drop 2, by rw [hT]; rfl, ?_, by decide, by decide, qcl_30, by decide, rfl⟩, fun q => ?_⟩
      · intro z hz
        have hz2 : z = (tableOf [(0, 12, 15, 28), (0, 12, 19, 30)]).getD 0 default := by
          simpa [tableOf] using hz
        rcases hz2 with rfl
        · exact ⟨by decide, sIOB, by decide, qcl_28, by decide⟩
      · refine J_as F (L' := [(5, .ref q), (0, .ref (gb G + 0)), (1, .int x1), (2, .int x2), (3, .int x3), (4, .ref (gb G + 258))]) dL_point_19 (by decide) rfl ?_
        refine J_ic F dL_point_21 ki_2 ?_
        exact J_retiW F (Nat.le_refl _) (Nat.le_refl _) ⟨_, rfl, hq⟩ dL_point_22
  · intro v τ hv
    obtain ⟨r, rfl, rfl, hq⟩ := hv
    refine J_i2l F dL_point_10 ?_
    refine J_last F (i := nI 0) ly_258 (n_in (by decide) (by decide)) dL_point_11 ?_
    refine J_goto F (tgt := 23) dL_point_12 (by decide) ?_
    refine J_ic F dL_point_23 ki_0 ?_
    exact J_retiW F (Nat.le_refl _) (Nat.le_refl _) ⟨_, rfl, hq⟩ dL_point_24
theorem dL_way_0 : decode cL_way 0 = .ok (.aload 6, 2) := by decide +kernel
theorem dL_way_2 : decode cL_way 2 = .ok (.iconst 0, 1) := by decide +kernel
theorem dL_way_3 : decode cL_way 3 = .ok (.aload_n 0, 1) := by decide +kernel
theorem dL_way_4 : decode cL_way 4 = .ok (.iload_n 1, 1) := by decide +kernel
theorem dL_way_5 : decode cL_way 5 = .ok (.iload_n 2, 1) := by decide +kernel
theorem dL_way_6 : decode cL_way 6 = .ok (.iload_n 3, 1) := by decide +kernel
theorem dL_way_7 : decode cL_way 7 = .ok (.iload 4, 2) := by decide +kernel
theorem dL_way_9 : decode cL_way 9 = .ok (.iload 5, 2) := by decide +kernel
theorem dL_way_11 : decode cL_way 11 = .ok (.invokevirtual 70, 3) := by decide +kernel
theorem dL_way_14 : decode cL_way 14 = .ok (.i2l, 1) := by decide +kernel
theorem dL_way_15 : decode cL_way 15 = .ok (.lastore, 1) := by decide +kernel
theorem dL_way_16 : decode cL_way 16 = .ok (.goto 15, 3) := by decide +kernel
theorem dL_way_19 : decode cL_way 19 = .ok (.astore 7, 2) := by decide +kernel
theorem dL_way_21 : decode cL_way 21 = .ok (.iconst 1, 1) := by decide +kernel
theorem dL_way_22 : decode cL_way 22 = .ok (.ireturn, 1) := by decide +kernel
theorem dL_way_23 : decode cL_way 23 = .ok (.astore 7, 2) := by decide +kernel
theorem dL_way_25 : decode cL_way 25 = .ok (.iconst 2, 1) := by decide +kernel
theorem dL_way_26 : decode cL_way 26 = .ok (.ireturn, 1) := by decide +kernel
theorem dL_way_27 : decode cL_way 27 = .ok (.astore 7, 2) := by decide +kernel
theorem dL_way_29 : decode cL_way 29 = .ok (.iconst 3, 1) := by decide +kernel
theorem dL_way_30 : decode cL_way 30 = .ok (.ireturn, 1) := by decide +kernel
theorem dL_way_31 : decode cL_way 31 = .ok (.iconst 0, 1) := by decide +kernel
theorem dL_way_32 : decode cL_way 32 = .ok (.ireturn, 1) := by decide +kernel
theorem H_way (l : Launch) (hl : l.stackTraces = false) (G : Gp) (x1 : Int32) (x2 : Int32) (x3 : Int32) (x4 : Int32) (x5 : Int32) {σ : St} {Q : Int32 → St → Prop} (h : wp_X8_way σ x1 x2 x3 x4 x5 (fun E τ => (E = sIOB ∧ Q (nI 1) τ) ∨ (E = sIAE ∧ Q (nI 2) τ) ∨ (E = sISE ∧ Q (nI 3) τ)) (fun r τ => Q (nI 0) (su τ 258 0 r))) : CnW l yL_way cL_way 8 (some .int) [(0, 16, 19, 28), (0, 16, 23, 13), (0, 16, 27, 19)] 8 147 4 24 G [.ref (gb G + 0), .int x1, .int x2, .int x3, .int x4, .int x5, .ref (gb G + 258)] σ (qI Q) := by
  refine CnW_of (L := [(0, .ref (gb G + 0)), (1, .int x1), (2, .int x2), (3, .int x3), (4, .int x4), (5, .int x5), (6, .ref (gb G + 258))]) RL (by decide) rfl (Nat.le_of_ble_eq_true rfl) rfl ?_
  intro p e s m below meth c F hT
  refine J_al F 6 dL_way_0 rfl ?_
  refine J_ic F dL_way_2 ki_0 ?_
  refine J_aln F 0 dL_way_3 rfl rfl ?_
  refine J_iln F 1 dL_way_4 rfl rfl ?_
  refine J_iln F 2 dL_way_5 rfl rfl ?_
  refine J_iln F 3 dL_way_6 rfl rfl ?_
  refine J_il F 4 dL_way_7 rfl ?_
  refine J_il F 5 dL_way_9 rfl ?_
  refine J_tcallV F (As := [.int x1, .int x2, .int x3, .int x4, .int x5]) (st := [.int (nI 0), .ref (gb G + 258)]) (C_X8_way l hl G x1 x2 x3 x4 x5 h) ly_0 (by decide) rfl rfl qlm_70 li_X8_way ls_X8_way ini_X8 lc_X8_way hd_X8_way (by decide) (Nat.le_of_ble_eq_true rfl) (by decide) ?_ rfl dL_way_11 ?_
  · intro E τ hE
    rcases hE with ⟨rfl, hq⟩ | ⟨rfl, hq⟩ | ⟨rfl, hq⟩
    · refine ⟨19, ⟨(tableOf [(0, 16, 19, 28), (0, 16, 23, 13), (0, 16, 27, 19)]).take 0, (tableOf [(0, 16, 19, 28), (0, 16, 23, 13), (0, 16, 27, 19)]).getD 0 default, (tableOf [(0, 16, 19, 28), (0, 16, 23, 13), (0, 16, 27, 19)]).drop 1, by rw [hT]; rfl, ?_, by decide, by decide, qcl_28, by decide, rfl⟩, fun q => ?_⟩
      · intro z hz; cases hz
      · refine J_as F (L' := [(7, .ref q), (0, .ref (gb G + 0)), (1, .int x1), (2, .int x2), (3, .int x3), (4, .int x4), (5, .int x5), (6, .ref (gb G + 258))]) dL_way_19 (by decide) rfl ?_
        refine J_ic F dL_way_21 ki_1 ?_
        exact J_retiW F (Nat.le_refl _) (Nat.le_refl _) ⟨_, rfl, hq⟩ dL_way_22
    · refine ⟨23, ⟨(tableOf [(0, 16, 19, 28), (0, 16, 23, 13), (0, 16, 27, 19)]).take 1, (tableOf [(0, 16, 19, 28), (0, 16, 23, 13), (0, 16, 27, 19)]).getD 1 default, (tableOf [(0, 16, 19, 28), (0, 16, 23, 13), (0, 16, 27, 19)]).drop 2, by rw [hT]; rfl, ?_, by decide, by decide, qcl_13, by decide, rfl⟩, fun q => ?_⟩
      · intro z hz
        have hz2 : z = (tableOf [(0, 16, 19, 28), (0, 16, 23, 13), (0, 16, 27, 19)]).getD 0 default := by
          simpa [tableOf] using hz
        rcases hz2 with rfl
        · exact ⟨by decide, sIOB, by decide, qcl_28, by decide⟩
      · refine J_as F (L' := [(7, .ref q), (0, .ref (gb G + 0)), (1, .int x1), (2, .int x2), (3, .int x3), (4, .int x4), (5, .int x5), (6, .ref (gb G + 258))]) dL_way_23 (by decide) rfl ?_
        refine J_ic F dL_way_25 ki_2 ?_
        exact J_retiW F (Nat.le_refl _) (Nat.le_refl _) ⟨_, rfl, hq⟩ dL_way_26
    · refine ⟨27, ⟨(tableOf [(0, 16, 19, 28), (0, 16, 23, 13), (0, 16, 27, 19)]).take 2, (tableOf [(0, 16, 19, 28), (0, 16, 23, 13), (0, 16, 27, 19)]).getD 2 default, (tableOf [(0, 16, 19, 28), (0, 16, 23, 13), (0, 16, 27, 19)]).drop 3, by rw [hT]; rfl, ?_, by decide, by decide, qcl_19, by decide, rfl⟩, fun q => ?_⟩
      · intro z hz
        have hz2 : z = (tableOf [(0, 16, 19, 28), (0, 16, 23, 13), (0, 16, 27, 19)]).getD 0 default ∨ z = (tableOf [(0, 16, 19, 28), (0, 16, 23, 13), (0, 16, 27, 19)]).getD 1 default := by
          simpa [tableOf] using hz
        rcases hz2 with rfl | rfl
        · exact ⟨by decide, sIOB, by decide, qcl_28, by decide⟩
        · exact ⟨by decide, sIAE, by decide, qcl_13, by decide⟩
      · refine J_as F (L' := [(7, .ref q), (0, .ref (gb G + 0)), (1, .int x1), (2, .int x2), (3, .int x3), (4, .int x4), (5, .int x5), (6, .ref (gb G + 258))]) dL_way_27 (by decide) rfl ?_
        refine J_ic F dL_way_29 ki_3 ?_
        exact J_retiW F (Nat.le_refl _) (Nat.le_refl _) ⟨_, rfl, hq⟩ dL_way_30
  · intro v τ hv
    obtain ⟨r, rfl, hq⟩ := hv
    refine J_i2l F dL_way_14 ?_
    refine J_last F (i := nI 0) ly_258 (n_in (by decide) (by decide)) dL_way_15 ?_
    refine J_goto F (tgt := 31) dL_way_16 (by decide) ?_
    refine J_ic F dL_way_31 ki_0 ?_
    exact J_retiW F (Nat.le_refl _) (Nat.le_refl _) ⟨_, rfl, hq⟩ dL_way_32
theorem dL_seek_0 : decode cL_seek 0 = .ok (.aload 4, 2) := by decide +kernel
theorem dL_seek_2 : decode cL_seek 2 = .ok (.iconst 0, 1) := by decide +kernel
theorem dL_seek_3 : decode cL_seek 3 = .ok (.aload_n 0, 1) := by decide +kernel
theorem dL_seek_4 : decode cL_seek 4 = .ok (.iload_n 1, 1) := by decide +kernel
theorem dL_seek_5 : decode cL_seek 5 = .ok (.iload_n 2, 1) := by decide +kernel
theorem dL_seek_6 : decode cL_seek 6 = .ok (.iload_n 3, 1) := by decide +kernel
theorem dL_seek_7 : decode cL_seek 7 = .ok (.invokevirtual 74, 3) := by decide +kernel
theorem dL_seek_10 : decode cL_seek 10 = .ok (.i2l, 1) := by decide +kernel
theorem dL_seek_11 : decode cL_seek 11 = .ok (.lastore, 1) := by decide +kernel
theorem dL_seek_12 : decode cL_seek 12 = .ok (.goto 15, 3) := by decide +kernel
theorem dL_seek_15 : decode cL_seek 15 = .ok (.astore 5, 2) := by decide +kernel
theorem dL_seek_17 : decode cL_seek 17 = .ok (.iconst 1, 1) := by decide +kernel
theorem dL_seek_18 : decode cL_seek 18 = .ok (.ireturn, 1) := by decide +kernel
theorem dL_seek_19 : decode cL_seek 19 = .ok (.astore 5, 2) := by decide +kernel
theorem dL_seek_21 : decode cL_seek 21 = .ok (.iconst 2, 1) := by decide +kernel
theorem dL_seek_22 : decode cL_seek 22 = .ok (.ireturn, 1) := by decide +kernel
theorem dL_seek_23 : decode cL_seek 23 = .ok (.astore 5, 2) := by decide +kernel
theorem dL_seek_25 : decode cL_seek 25 = .ok (.iconst 3, 1) := by decide +kernel
theorem dL_seek_26 : decode cL_seek 26 = .ok (.ireturn, 1) := by decide +kernel
theorem dL_seek_27 : decode cL_seek 27 = .ok (.iconst 0, 1) := by decide +kernel
theorem dL_seek_28 : decode cL_seek 28 = .ok (.ireturn, 1) := by decide +kernel
theorem H_seek (l : Launch) (hl : l.stackTraces = false) (G : Gp) (x1 : Int32) (x2 : Int32) (x3 : Int32) {σ : St} {Q : Int32 → St → Prop} (h : wp_X8_seek σ x1 x2 x3 (fun E τ => (E = sIOB ∧ Q (nI 1) τ) ∨ (E = sNSE ∧ Q (nI 2) τ) ∨ (E = sISE ∧ Q (nI 3) τ)) (fun r τ => Q (nI 0) (su τ 258 0 r))) : CnW l yL_seek cL_seek 6 (some .int) [(0, 12, 15, 28), (0, 12, 19, 30), (0, 12, 23, 19)] 8 145 4 24 G [.ref (gb G + 0), .int x1, .int x2, .int x3, .ref (gb G + 258)] σ (qI Q) := by
  refine CnW_of (L := [(0, .ref (gb G + 0)), (1, .int x1), (2, .int x2), (3, .int x3), (4, .ref (gb G + 258))]) RL (by decide) rfl (Nat.le_of_ble_eq_true rfl) rfl ?_
  intro p e s m below meth c F hT
  refine J_al F 4 dL_seek_0 rfl ?_
  refine J_ic F dL_seek_2 ki_0 ?_
  refine J_aln F 0 dL_seek_3 rfl rfl ?_
  refine J_iln F 1 dL_seek_4 rfl rfl ?_
  refine J_iln F 2 dL_seek_5 rfl rfl ?_
  refine J_iln F 3 dL_seek_6 rfl rfl ?_
  refine J_tcallV F (As := [.int x1, .int x2, .int x3]) (st := [.int (nI 0), .ref (gb G + 258)]) (C_X8_seek l hl G x1 x2 x3 h) ly_0 (by decide) rfl rfl qlm_74 li_X8_seek ls_X8_seek ini_X8 lc_X8_seek hd_X8_seek (by decide) (Nat.le_of_ble_eq_true rfl) (by decide) ?_ rfl dL_seek_7 ?_
  · intro E τ hE
    rcases hE with ⟨rfl, hq⟩ | ⟨rfl, hq⟩ | ⟨rfl, hq⟩
    · refine ⟨15, ⟨(tableOf [(0, 12, 15, 28), (0, 12, 19, 30), (0, 12, 23, 19)]).take 0, (tableOf [(0, 12, 15, 28), (0, 12, 19, 30), (0, 12, 23, 19)]).getD 0 default, (tableOf [(0, 12, 15, 28), (0, 12, 19, 30), (0, 12, 23, 19)]).drop 1, by rw [hT]; rfl, ?_, by decide, by decide, qcl_28, by decide, rfl⟩, fun q => ?_⟩
      · intro z hz; cases hz
      · refine J_as F (L' := [(5, .ref q), (0, .ref (gb G + 0)), (1, .int x1), (2, .int x2), (3, .int x3), (4, .ref (gb G + 258))]) dL_seek_15 (by decide) rfl ?_
        refine J_ic F dL_seek_17 ki_1 ?_
        exact J_retiW F (Nat.le_refl _) (Nat.le_refl _) ⟨_, rfl, hq⟩ dL_seek_18
    · refine ⟨19, ⟨(tableOf [(0, 12, 15, 28), (0, 12, 19, 30), (0, 12, 23, 19)]).take 1, (tableOf [(0, 12, 15, 28), (0, 12, 19, 30), (0, 12, 23, 19)]).getD 1 default, (tableOf [(0, 12, 15, 28), (0, 12, 19, 30), (0, 12, 23, 19)]).drop 2, by rw [hT]; rfl, ?_, by decide, by decide, qcl_30, by decide, rfl⟩, fun q => ?_⟩
      · intro z hz
        have hz2 : z = (tableOf [(0, 12, 15, 28), (0, 12, 19, 30), (0, 12, 23, 19)]).getD 0 default := by
          simpa [tableOf] using hz
        rcases hz2 with rfl
        · exact ⟨by decide, sIOB, by decide, qcl_28, by decide⟩
      · refine J_as F (L' := [(5, .ref q), (0, .ref (gb G + 0)), (1, .int x1), (2, .int x2), (3, .int x3), (4, .ref (gb G + 258))]) dL_seek_19 (by decide) rfl ?_
        refine J_ic F dL_seek_21 ki_2 ?_
        exact J_retiW F (Nat.le_refl _) (Nat.le_refl _) ⟨_, rfl, hq⟩ dL_seek_22
    · refine ⟨23, ⟨(tableOf [(0, 12, 15, 28), (0, 12, 19, 30), (0, 12, 23, 19)]).take 2, (tableOf [(0, 12, 15, 28), (0, 12, 19, 30), (0, 12, 23, 19)]).getD 2 default, (tableOf [(0, 12, 15, 28), (0, 12, 19, 30), (0, 12, 23, 19)]).drop 3, by rw [hT]; rfl, ?_, by decide, by decide, qcl_19, by decide, rfl⟩, fun q => ?_⟩
      · intro z hz
        have hz2 : z = (tableOf [(0, 12, 15, 28), (0, 12, 19, 30), (0, 12, 23, 19)]).getD 0 default ∨ z = (tableOf [(0, 12, 15, 28), (0, 12, 19, 30), (0, 12, 23, 19)]).getD 1 default := by
          simpa [tableOf] using hz
        rcases hz2 with rfl | rfl
        · exact ⟨by decide, sIOB, by decide, qcl_28, by decide⟩
        · exact ⟨by decide, sNSE, by decide, qcl_30, by decide⟩
      · refine J_as F (L' := [(5, .ref q), (0, .ref (gb G + 0)), (1, .int x1), (2, .int x2), (3, .int x3), (4, .ref (gb G + 258))]) dL_seek_23 (by decide) rfl ?_
        refine J_ic F dL_seek_25 ki_3 ?_
        exact J_retiW F (Nat.le_refl _) (Nat.le_refl _) ⟨_, rfl, hq⟩ dL_seek_26
  · intro v τ hv
    obtain ⟨r, rfl, hq⟩ := hv
    refine J_i2l F dL_seek_10 ?_
    refine J_last F (i := nI 0) ly_258 (n_in (by decide) (by decide)) dL_seek_11 ?_
    refine J_goto F (tgt := 27) dL_seek_12 (by decide) ?_
    refine J_ic F dL_seek_27 ki_0 ?_
    exact J_retiW F (Nat.le_refl _) (Nat.le_refl _) ⟨_, rfl, hq⟩ dL_seek_28
theorem dL_risk_0 : decode cL_risk 0 = .ok (.aload_n 2, 1) := by decide +kernel
theorem dL_risk_1 : decode cL_risk 1 = .ok (.iconst 0, 1) := by decide +kernel
theorem dL_risk_2 : decode cL_risk 2 = .ok (.aload_n 0, 1) := by decide +kernel
theorem dL_risk_3 : decode cL_risk 3 = .ok (.iload_n 1, 1) := by decide +kernel
theorem dL_risk_4 : decode cL_risk 4 = .ok (.invokevirtual 77, 3) := by decide +kernel
theorem dL_risk_7 : decode cL_risk 7 = .ok (.i2l, 1) := by decide +kernel
theorem dL_risk_8 : decode cL_risk 8 = .ok (.lastore, 1) := by decide +kernel
theorem dL_risk_9 : decode cL_risk 9 = .ok (.goto 6, 3) := by decide +kernel
theorem dL_risk_12 : decode cL_risk 12 = .ok (.astore_n 3, 1) := by decide +kernel
theorem dL_risk_13 : decode cL_risk 13 = .ok (.iconst 1, 1) := by decide +kernel
theorem dL_risk_14 : decode cL_risk 14 = .ok (.ireturn, 1) := by decide +kernel
theorem dL_risk_15 : decode cL_risk 15 = .ok (.iconst 0, 1) := by decide +kernel
theorem dL_risk_16 : decode cL_risk 16 = .ok (.ireturn, 1) := by decide +kernel
theorem H_risk (l : Launch) (hl : l.stackTraces = false) (G : Gp) (x1 : Int32) {σ : St} {Q : Int32 → St → Prop} (h : wp_X8_risk σ x1 (fun E τ => (E = sIOB ∧ Q (nI 1) τ)) (fun r => Q (nI 0) (su σ 258 0 r))) : CnW l yL_risk cL_risk 4 (some .int) [(0, 9, 12, 28)] 8 143 1 6 G [.ref (gb G + 0), .int x1, .ref (gb G + 258)] σ (qI Q) := by
  refine CnW_of (L := [(0, .ref (gb G + 0)), (1, .int x1), (2, .ref (gb G + 258))]) RL (by decide) rfl (Nat.le_of_ble_eq_true rfl) rfl ?_
  intro p e s m below meth c F hT
  refine J_aln F 2 dL_risk_0 rfl rfl ?_
  refine J_ic F dL_risk_1 ki_0 ?_
  refine J_aln F 0 dL_risk_2 rfl rfl ?_
  refine J_iln F 1 dL_risk_3 rfl rfl ?_
  refine J_tcallV F (As := [.int x1]) (st := [.int (nI 0), .ref (gb G + 258)]) (C_X8_risk l hl G x1 h) ly_0 (by decide) rfl rfl qlm_77 li_X8_risk ls_X8_risk ini_X8 lc_X8_risk hd_X8_risk (by decide) (Nat.le_of_ble_eq_true rfl) (by decide) ?_ rfl dL_risk_4 ?_
  · intro E τ hE
    obtain ⟨rfl, hq⟩ := hE
    refine ⟨12, ⟨(tableOf [(0, 9, 12, 28)]).take 0, (tableOf [(0, 9, 12, 28)]).getD 0 default, (tableOf [(0, 9, 12, 28)]).drop 1, by rw [hT]; rfl, ?_, by decide, by decide, qcl_28, by decide, rfl⟩, fun q => ?_⟩
    · intro z hz; cases hz
    · refine J_asn F (L' := [(3, .ref q), (0, .ref (gb G + 0)), (1, .int x1), (2, .ref (gb G + 258))]) dL_risk_12 rfl (by decide) rfl ?_
      refine J_ic F dL_risk_13 ki_1 ?_
      exact J_retiW F (Nat.le_refl _) (Nat.le_refl _) ⟨_, rfl, hq⟩ dL_risk_14
  · intro v τ hv
    obtain ⟨r, rfl, rfl, hq⟩ := hv
    refine J_i2l F dL_risk_7 ?_
    refine J_last F (i := nI 0) ly_258 (n_in (by decide) (by decide)) dL_risk_8 ?_
    refine J_goto F (tgt := 15) dL_risk_9 (by decide) ?_
    refine J_ic F dL_risk_15 ki_0 ?_
    exact J_retiW F (Nat.le_refl _) (Nat.le_refl _) ⟨_, rfl, hq⟩ dL_risk_16
theorem dL_order_0 : decode cL_order 0 = .ok (.aload_n 3, 1) := by decide +kernel
theorem dL_order_1 : decode cL_order 1 = .ok (.iconst 0, 1) := by decide +kernel
theorem dL_order_2 : decode cL_order 2 = .ok (.aload_n 0, 1) := by decide +kernel
theorem dL_order_3 : decode cL_order 3 = .ok (.iload_n 1, 1) := by decide +kernel
theorem dL_order_4 : decode cL_order 4 = .ok (.iload_n 2, 1) := by decide +kernel
theorem dL_order_5 : decode cL_order 5 = .ok (.invokevirtual 80, 3) := by decide +kernel
theorem dL_order_8 : decode cL_order 8 = .ok (.i2l, 1) := by decide +kernel
theorem dL_order_9 : decode cL_order 9 = .ok (.lastore, 1) := by decide +kernel
theorem dL_order_10 : decode cL_order 10 = .ok (.goto 7, 3) := by decide +kernel
theorem dL_order_13 : decode cL_order 13 = .ok (.astore 4, 2) := by decide +kernel
theorem dL_order_15 : decode cL_order 15 = .ok (.iconst 1, 1) := by decide +kernel
theorem dL_order_16 : decode cL_order 16 = .ok (.ireturn, 1) := by decide +kernel
theorem dL_order_17 : decode cL_order 17 = .ok (.iconst 0, 1) := by decide +kernel
theorem dL_order_18 : decode cL_order 18 = .ok (.ireturn, 1) := by decide +kernel
theorem H_order (l : Launch) (hl : l.stackTraces = false) (G : Gp) (x1 : Int32) (x2 : Int32) {σ : St} {Q : Int32 → St → Prop} (h : wp_X8_order σ x1 x2 (fun E τ => (E = sIAE ∧ Q (nI 1) τ)) (fun r => Q (nI 0) (su σ 258 0 r))) : CnW l yL_order cL_order 5 (some .int) [(0, 10, 13, 13)] 7 122 1 6 G [.ref (gb G + 0), .int x1, .int x2, .ref (gb G + 258)] σ (qI Q) := by
  refine CnW_of (L := [(0, .ref (gb G + 0)), (1, .int x1), (2, .int x2), (3, .ref (gb G + 258))]) RL (by decide) rfl (Nat.le_of_ble_eq_true rfl) rfl ?_
  intro p e s m below meth c F hT
  refine J_aln F 3 dL_order_0 rfl rfl ?_
  refine J_ic F dL_order_1 ki_0 ?_
  refine J_aln F 0 dL_order_2 rfl rfl ?_
  refine J_iln F 1 dL_order_3 rfl rfl ?_
  refine J_iln F 2 dL_order_4 rfl rfl ?_
  refine J_tcallV F (As := [.int x1, .int x2]) (st := [.int (nI 0), .ref (gb G + 258)]) (C_X8_order l hl G x1 x2 h) ly_0 (by decide) rfl rfl qlm_80 li_X8_order ls_X8_order ini_X8 lc_X8_order hd_X8_order (by decide) (Nat.le_of_ble_eq_true rfl) (by decide) ?_ rfl dL_order_5 ?_
  · intro E τ hE
    obtain ⟨rfl, hq⟩ := hE
    refine ⟨13, ⟨(tableOf [(0, 10, 13, 13)]).take 0, (tableOf [(0, 10, 13, 13)]).getD 0 default, (tableOf [(0, 10, 13, 13)]).drop 1, by rw [hT]; rfl, ?_, by decide, by decide, qcl_13, by decide, rfl⟩, fun q => ?_⟩
    · intro z hz; cases hz
    · refine J_as F (L' := [(4, .ref q), (0, .ref (gb G + 0)), (1, .int x1), (2, .int x2), (3, .ref (gb G + 258))]) dL_order_13 (by decide) rfl ?_
      refine J_ic F dL_order_15 ki_1 ?_
      exact J_retiW F (Nat.le_refl _) (Nat.le_refl _) ⟨_, rfl, hq⟩ dL_order_16
  · intro v τ hv
    obtain ⟨r, rfl, rfl, hq⟩ := hv
    refine J_i2l F dL_order_8 ?_
    refine J_last F (i := nI 0) ly_258 (n_in (by decide) (by decide)) dL_order_9 ?_
    refine J_goto F (tgt := 17) dL_order_10 (by decide) ?_
    refine J_ic F dL_order_17 ki_0 ?_
    exact J_retiW F (Nat.le_refl _) (Nat.le_refl _) ⟨_, rfl, hq⟩ dL_order_18
theorem dL_reality_0 : decode cL_reality 0 = .ok (.aload_n 3, 1) := by decide +kernel
theorem dL_reality_1 : decode cL_reality 1 = .ok (.iconst 0, 1) := by decide +kernel
theorem dL_reality_2 : decode cL_reality 2 = .ok (.aload_n 0, 1) := by decide +kernel
theorem dL_reality_3 : decode cL_reality 3 = .ok (.iload_n 1, 1) := by decide +kernel
theorem dL_reality_4 : decode cL_reality 4 = .ok (.iload_n 2, 1) := by decide +kernel
theorem dL_reality_5 : decode cL_reality 5 = .ok (.invokevirtual 83, 3) := by decide +kernel
theorem dL_reality_8 : decode cL_reality 8 = .ok (.i2l, 1) := by decide +kernel
theorem dL_reality_9 : decode cL_reality 9 = .ok (.lastore, 1) := by decide +kernel
theorem dL_reality_10 : decode cL_reality 10 = .ok (.goto 11, 3) := by decide +kernel
theorem dL_reality_13 : decode cL_reality 13 = .ok (.astore 4, 2) := by decide +kernel
theorem dL_reality_15 : decode cL_reality 15 = .ok (.iconst 1, 1) := by decide +kernel
theorem dL_reality_16 : decode cL_reality 16 = .ok (.ireturn, 1) := by decide +kernel
theorem dL_reality_17 : decode cL_reality 17 = .ok (.astore 4, 2) := by decide +kernel
theorem dL_reality_19 : decode cL_reality 19 = .ok (.iconst 2, 1) := by decide +kernel
theorem dL_reality_20 : decode cL_reality 20 = .ok (.ireturn, 1) := by decide +kernel
theorem dL_reality_21 : decode cL_reality 21 = .ok (.iconst 0, 1) := by decide +kernel
theorem dL_reality_22 : decode cL_reality 22 = .ok (.ireturn, 1) := by decide +kernel
theorem H_reality (l : Launch) (hl : l.stackTraces = false) (G : Gp) (x1 : Int32) (x2 : Int32) {σ : St} {Q : Int32 → St → Prop} (h : wp_X8_reality σ x1 x2 (fun E τ => (E = sIOB ∧ Q (nI 1) τ) ∨ (E = sNSE ∧ Q (nI 2) τ)) (fun r τ => Q (nI 0) (su τ 258 0 r))) : CnW l yL_reality cL_reality 5 (some .int) [(0, 10, 13, 28), (0, 10, 17, 30)] 8 155 2 12 G [.ref (gb G + 0), .int x1, .int x2, .ref (gb G + 258)] σ (qI Q) := by
  refine CnW_of (L := [(0, .ref (gb G + 0)), (1, .int x1), (2, .int x2), (3, .ref (gb G + 258))]) RL (by decide) rfl (Nat.le_of_ble_eq_true rfl) rfl ?_
  intro p e s m below meth c F hT
  refine J_aln F 3 dL_reality_0 rfl rfl ?_
  refine J_ic F dL_reality_1 ki_0 ?_
  refine J_aln F 0 dL_reality_2 rfl rfl ?_
  refine J_iln F 1 dL_reality_3 rfl rfl ?_
  refine J_iln F 2 dL_reality_4 rfl rfl ?_
  refine J_tcallV F (As := [.int x1, .int x2]) (st := [.int (nI 0), .ref (gb G + 258)]) (C_X8_reality l hl G x1 x2 h) ly_0 (by decide) rfl rfl qlm_83 li_X8_reality ls_X8_reality ini_X8 lc_X8_reality hd_X8_reality (by decide) (Nat.le_of_ble_eq_true rfl) (by decide) ?_ rfl dL_reality_5 ?_
  · intro E τ hE
    rcases hE with ⟨rfl, hq⟩ | ⟨rfl, hq⟩
    · refine ⟨13, ⟨(tableOf [(0, 10, 13, 28), (0, 10, 17, 30)]).take 0, (tableOf [(0, 10, 13, 28), (0, 10, 17, 30)]).getD 0 default, (tableOf [(0, 10, 13, 28), (0, 10, 17, 30)]).drop 1, by rw [hT]; rfl, ?_, by decide, by decide, qcl_28, by decide, rfl⟩, fun q => ?_⟩
      · intro z hz; cases hz
      · refine J_as F (L' := [(4, .ref q), (0, .ref (gb G + 0)), (1, .int x1), (2, .int x2), (3, .ref (gb G + 258))]) dL_reality_13 (by decide) rfl ?_
        refine J_ic F dL_reality_15 ki_1 ?_
        exact J_retiW F (Nat.le_refl _) (Nat.le_refl _) ⟨_, rfl, hq⟩ dL_reality_16
    · refine ⟨17, ⟨(tableOf [(0, 10, 13, 28), (0, 10, 17, 30)]).take 1, (tableOf [(0, 10, 13, 28), (0, 10, 17, 30)]).getD 1 default, (tableOf [(0, 10, 13, 28), (0, 10, 17, 30)]).drop 2, by rw [hT]; rfl, ?_, by decide, by decide, qcl_30, by decide, rfl⟩, fun q => ?_⟩
      · intro z hz
        have hz2 : z = (tableOf [(0, 10, 13, 28), (0, 10, 17, 30)]).getD 0 default := by
          simpa [tableOf] using hz
        rcases hz2 with rfl
        · exact ⟨by decide, sIOB, by decide, qcl_28, by decide⟩
      · refine J_as F (L' := [(4, .ref q), (0, .ref (gb G + 0)), (1, .int x1), (2, .int x2), (3, .ref (gb G + 258))]) dL_reality_17 (by decide) rfl ?_
        refine J_ic F dL_reality_19 ki_2 ?_
        exact J_retiW F (Nat.le_refl _) (Nat.le_refl _) ⟨_, rfl, hq⟩ dL_reality_20
  · intro v τ hv
    obtain ⟨r, rfl, hq⟩ := hv
    refine J_i2l F dL_reality_8 ?_
    refine J_last F (i := nI 0) ly_258 (n_in (by decide) (by decide)) dL_reality_9 ?_
    refine J_goto F (tgt := 21) dL_reality_10 (by decide) ?_
    refine J_ic F dL_reality_21 ki_0 ?_
    exact J_retiW F (Nat.le_refl _) (Nat.le_refl _) ⟨_, rfl, hq⟩ dL_reality_22
theorem dL_ways_0 : decode cL_ways 0 = .ok (.aload_n 3, 1) := by decide +kernel
theorem dL_ways_1 : decode cL_ways 1 = .ok (.iconst 0, 1) := by decide +kernel
theorem dL_ways_2 : decode cL_ways 2 = .ok (.aload_n 0, 1) := by decide +kernel
theorem dL_ways_3 : decode cL_ways 3 = .ok (.iload_n 1, 1) := by decide +kernel
theorem dL_ways_4 : decode cL_ways 4 = .ok (.iload_n 2, 1) := by decide +kernel
theorem dL_ways_5 : decode cL_ways 5 = .ok (.invokevirtual 86, 3) := by decide +kernel
theorem dL_ways_8 : decode cL_ways 8 = .ok (.i2l, 1) := by decide +kernel
theorem dL_ways_9 : decode cL_ways 9 = .ok (.lastore, 1) := by decide +kernel
theorem dL_ways_10 : decode cL_ways 10 = .ok (.goto 11, 3) := by decide +kernel
theorem dL_ways_13 : decode cL_ways 13 = .ok (.astore 4, 2) := by decide +kernel
theorem dL_ways_15 : decode cL_ways 15 = .ok (.iconst 1, 1) := by decide +kernel
theorem dL_ways_16 : decode cL_ways 16 = .ok (.ireturn, 1) := by decide +kernel
theorem dL_ways_17 : decode cL_ways 17 = .ok (.astore 4, 2) := by decide +kernel
theorem dL_ways_19 : decode cL_ways 19 = .ok (.iconst 2, 1) := by decide +kernel
theorem dL_ways_20 : decode cL_ways 20 = .ok (.ireturn, 1) := by decide +kernel
theorem dL_ways_21 : decode cL_ways 21 = .ok (.iconst 0, 1) := by decide +kernel
theorem dL_ways_22 : decode cL_ways 22 = .ok (.ireturn, 1) := by decide +kernel
theorem H_ways (l : Launch) (hl : l.stackTraces = false) (G : Gp) (x1 : Int32) (x2 : Int32) {σ : St} {Q : Int32 → St → Prop} (h : wp_X8_ways σ x1 x2 (fun E τ => (E = sIOB ∧ Q (nI 1) τ) ∨ (E = sNSE ∧ Q (nI 2) τ)) (fun r τ => Q (nI 0) (su τ 258 0 r))) : CnW l yL_ways cL_ways 5 (some .int) [(0, 10, 13, 28), (0, 10, 17, 30)] 8 157 2 12 G [.ref (gb G + 0), .int x1, .int x2, .ref (gb G + 258)] σ (qI Q) := by
  refine CnW_of (L := [(0, .ref (gb G + 0)), (1, .int x1), (2, .int x2), (3, .ref (gb G + 258))]) RL (by decide) rfl (Nat.le_of_ble_eq_true rfl) rfl ?_
  intro p e s m below meth c F hT
  refine J_aln F 3 dL_ways_0 rfl rfl ?_
  refine J_ic F dL_ways_1 ki_0 ?_
  refine J_aln F 0 dL_ways_2 rfl rfl ?_
  refine J_iln F 1 dL_ways_3 rfl rfl ?_
  refine J_iln F 2 dL_ways_4 rfl rfl ?_
  refine J_tcallV F (As := [.int x1, .int x2]) (st := [.int (nI 0), .ref (gb G + 258)]) (C_X8_ways l hl G x1 x2 h) ly_0 (by decide) rfl rfl qlm_86 li_X8_ways ls_X8_ways ini_X8 lc_X8_ways hd_X8_ways (by decide) (Nat.le_of_ble_eq_true rfl) (by decide) ?_ rfl dL_ways_5 ?_
  · intro E τ hE
    rcases hE with ⟨rfl, hq⟩ | ⟨rfl, hq⟩
    · refine ⟨13, ⟨(tableOf [(0, 10, 13, 28), (0, 10, 17, 30)]).take 0, (tableOf [(0, 10, 13, 28), (0, 10, 17, 30)]).getD 0 default, (tableOf [(0, 10, 13, 28), (0, 10, 17, 30)]).drop 1, by rw [hT]; rfl, ?_, by decide, by decide, qcl_28, by decide, rfl⟩, fun q => ?_⟩
      · intro z hz; cases hz
      · refine J_as F (L' := [(4, .ref q), (0, .ref (gb G + 0)), (1, .int x1), (2, .int x2), (3, .ref (gb G + 258))]) dL_ways_13 (by decide) rfl ?_
        refine J_ic F dL_ways_15 ki_1 ?_
        exact J_retiW F (Nat.le_refl _) (Nat.le_refl _) ⟨_, rfl, hq⟩ dL_ways_16
    · refine ⟨17, ⟨(tableOf [(0, 10, 13, 28), (0, 10, 17, 30)]).take 1, (tableOf [(0, 10, 13, 28), (0, 10, 17, 30)]).getD 1 default, (tableOf [(0, 10, 13, 28), (0, 10, 17, 30)]).drop 2, by rw [hT]; rfl, ?_, by decide, by decide, qcl_30, by decide, rfl⟩, fun q => ?_⟩
      · intro z hz
        have hz2 : z = (tableOf [(0, 10, 13, 28), (0, 10, 17, 30)]).getD 0 default := by
          simpa [tableOf] using hz
        rcases hz2 with rfl
        · exact ⟨by decide, sIOB, by decide, qcl_28, by decide⟩
      · refine J_as F (L' := [(4, .ref q), (0, .ref (gb G + 0)), (1, .int x1), (2, .int x2), (3, .ref (gb G + 258))]) dL_ways_17 (by decide) rfl ?_
        refine J_ic F dL_ways_19 ki_2 ?_
        exact J_retiW F (Nat.le_refl _) (Nat.le_refl _) ⟨_, rfl, hq⟩ dL_ways_20
  · intro v τ hv
    obtain ⟨r, rfl, hq⟩ := hv
    refine J_i2l F dL_ways_8 ?_
    refine J_last F (i := nI 0) ly_258 (n_in (by decide) (by decide)) dL_ways_9 ?_
    refine J_goto F (tgt := 21) dL_ways_10 (by decide) ?_
    refine J_ic F dL_ways_21 ki_0 ?_
    exact J_retiW F (Nat.le_refl _) (Nat.le_refl _) ⟨_, rfl, hq⟩ dL_ways_22
theorem dL_friends_0 : decode cL_friends 0 = .ok (.aload_n 2, 1) := by decide +kernel
theorem dL_friends_1 : decode cL_friends 1 = .ok (.iconst 0, 1) := by decide +kernel
theorem dL_friends_2 : decode cL_friends 2 = .ok (.aload_n 0, 1) := by decide +kernel
theorem dL_friends_3 : decode cL_friends 3 = .ok (.iload_n 1, 1) := by decide +kernel
theorem dL_friends_4 : decode cL_friends 4 = .ok (.invokevirtual 89, 3) := by decide +kernel
theorem dL_friends_7 : decode cL_friends 7 = .ok (.i2l, 1) := by decide +kernel
theorem dL_friends_8 : decode cL_friends 8 = .ok (.lastore, 1) := by decide +kernel
theorem dL_friends_9 : decode cL_friends 9 = .ok (.goto 6, 3) := by decide +kernel
theorem dL_friends_12 : decode cL_friends 12 = .ok (.astore_n 3, 1) := by decide +kernel
theorem dL_friends_13 : decode cL_friends 13 = .ok (.iconst 1, 1) := by decide +kernel
theorem dL_friends_14 : decode cL_friends 14 = .ok (.ireturn, 1) := by decide +kernel
theorem dL_friends_15 : decode cL_friends 15 = .ok (.iconst 0, 1) := by decide +kernel
theorem dL_friends_16 : decode cL_friends 16 = .ok (.ireturn, 1) := by decide +kernel
theorem H_friends (l : Launch) (hl : l.stackTraces = false) (G : Gp) (x1 : Int32) {σ : St} {Q : Int32 → St → Prop} (h : wp_X8_friends σ x1 (fun E τ => (E = sIOB ∧ Q (nI 1) τ)) (fun r τ => Q (nI 0) (su τ 258 0 r))) : CnW l yL_friends cL_friends 4 (some .int) [(0, 9, 12, 28)] 8 143 1 6 G [.ref (gb G + 0), .int x1, .ref (gb G + 258)] σ (qI Q) := by
  refine CnW_of (L := [(0, .ref (gb G + 0)), (1, .int x1), (2, .ref (gb G + 258))]) RL (by decide) rfl (Nat.le_of_ble_eq_true rfl) rfl ?_
  intro p e s m below meth c F hT
  refine J_aln F 2 dL_friends_0 rfl rfl ?_
  refine J_ic F dL_friends_1 ki_0 ?_
  refine J_aln F 0 dL_friends_2 rfl rfl ?_
  refine J_iln F 1 dL_friends_3 rfl rfl ?_
  refine J_tcallV F (As := [.int x1]) (st := [.int (nI 0), .ref (gb G + 258)]) (C_X8_friends l hl G x1 h) ly_0 (by decide) rfl rfl qlm_89 li_X8_friends ls_X8_friends ini_X8 lc_X8_friends hd_X8_friends (by decide) (Nat.le_of_ble_eq_true rfl) (by decide) ?_ rfl dL_friends_4 ?_
  · intro E τ hE
    obtain ⟨rfl, hq⟩ := hE
    refine ⟨12, ⟨(tableOf [(0, 9, 12, 28)]).take 0, (tableOf [(0, 9, 12, 28)]).getD 0 default, (tableOf [(0, 9, 12, 28)]).drop 1, by rw [hT]; rfl, ?_, by decide, by decide, qcl_28, by decide, rfl⟩, fun q => ?_⟩
    · intro z hz; cases hz
    · refine J_asn F (L' := [(3, .ref q), (0, .ref (gb G + 0)), (1, .int x1), (2, .ref (gb G + 258))]) dL_friends_12 rfl (by decide) rfl ?_
      refine J_ic F dL_friends_13 ki_1 ?_
      exact J_retiW F (Nat.le_refl _) (Nat.le_refl _) ⟨_, rfl, hq⟩ dL_friends_14
  · intro v τ hv
    obtain ⟨r, rfl, hq⟩ := hv
    refine J_i2l F dL_friends_7 ?_
    refine J_last F (i := nI 0) ly_258 (n_in (by decide) (by decide)) dL_friends_8 ?_
    refine J_goto F (tgt := 15) dL_friends_9 (by decide) ?_
    refine J_ic F dL_friends_15 ki_0 ?_
    exact J_retiW F (Nat.le_refl _) (Nat.le_refl _) ⟨_, rfl, hq⟩ dL_friends_16
