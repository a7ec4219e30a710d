theorem tb_ch (ws : List Cond) (ps : List Nat) (hp : ws = ps.filterMap (fun i => lw_tbl[i]?)) (h : ws.all goodWord = true) : ∀ w ∈ ws, w ∈ TBL := fun w hw => by
  have h1 := List.all_eq_true.mp h w hw
  rw [hp] at hw
  obtain ⟨i, -, hi⟩ := List.mem_filterMap.mp hw
  exact List.mem_filter.mpr ⟨List.mem_of_getElem? hi, h1⟩
theorem inX0 : ∀ w ∈ u_ws RX0 TX0 2, w ∈ TBL := tb_ch _ [213, 215] (by decide +kernel) (by decide +kernel)
theorem inX1 : ∀ w ∈ u_ws RX1 TX1 10, w ∈ TBL := tb_ch _ [273, 275, 277, 279, 281, 283, 285, 287, 289, 291] (by decide +kernel) (by decide +kernel)
theorem inX2 : ∀ w ∈ u_ws RX2 TX2 3, w ∈ TBL := tb_ch _ [298, 300, 302] (by decide +kernel) (by decide +kernel)
theorem inX3 : ∀ w ∈ u_ws RX3 TX3 5, w ∈ TBL := tb_ch _ [190, 192, 194, 196, 198] (by decide +kernel) (by decide +kernel)
theorem inX4 : ∀ w ∈ u_ws RX4 TX4 3, w ∈ TBL := tb_ch _ [245, 247, 249] (by decide +kernel) (by decide +kernel)
theorem inX5 : ∀ w ∈ u_ws RX5 TX5 5, w ∈ TBL := tb_ch _ [345, 347, 349, 351, 353] (by decide +kernel) (by decide +kernel)
theorem inX6 : ∀ w ∈ u_ws RX6 TX6 2, w ∈ TBL := tb_ch _ [170, 172] (by decide +kernel) (by decide +kernel)
theorem inX7 : ∀ w ∈ u_ws RX7 TX7 5, w ∈ TBL := tb_ch _ [319, 321, 323, 325, 327] (by decide +kernel) (by decide +kernel)
theorem inX8 : ∀ w ∈ u_ws RX8 TX8 12, w ∈ TBL := tb_ch _ [370, 372, 374, 376, 378, 380, 382, 384, 386, 388, 390, 392] (by decide +kernel) (by decide +kernel)
theorem inX9 : ∀ w ∈ u_ws RX9 TX9 33, w ∈ TBL := tb_ch _ [1255, 1257, 1259, 1261, 1263, 1265, 1267, 1269, 1271, 1273, 1275, 1277, 1279, 1281, 1283, 1285, 1287, 1289, 1291, 1293, 1295, 1297, 1299, 1301, 1303, 1305, 1307, 1309, 1311, 1313, 1315, 1317, 1319] (by decide +kernel) (by decide +kernel)
theorem kb_6 : (Int8.ofInt (6)).toInt32 = nI 6 := by decide
theorem kb_7 : (Int8.ofInt (7)).toInt32 = nI 7 := by decide
theorem kb_8 : (Int8.ofInt (8)).toInt32 = nI 8 := by decide
theorem kb_9 : (Int8.ofInt (9)).toInt32 = nI 9 := by decide
theorem kb_10 : (Int8.ofInt (10)).toInt32 = nI 10 := by decide
theorem kb_11 : (Int8.ofInt (11)).toInt32 = nI 11 := by decide
theorem kb_12 : (Int8.ofInt (12)).toInt32 = nI 12 := by decide
theorem kb_14 : (Int8.ofInt (14)).toInt32 = nI 14 := by decide
theorem kb_16 : (Int8.ofInt (16)).toInt32 = nI 16 := by decide
theorem kb_20 : (Int8.ofInt (20)).toInt32 = nI 20 := by decide
theorem kb_24 : (Int8.ofInt (24)).toInt32 = nI 24 := by decide
theorem kb_30 : (Int8.ofInt (30)).toInt32 = nI 30 := by decide
theorem kb_31 : (Int8.ofInt (31)).toInt32 = nI 31 := by decide
theorem kb_32 : (Int8.ofInt (32)).toInt32 = nI 32 := by decide
theorem kb_34 : (Int8.ofInt (34)).toInt32 = nI 34 := by decide
theorem kb_37 : (Int8.ofInt (37)).toInt32 = nI 37 := by decide
theorem kb_38 : (Int8.ofInt (38)).toInt32 = nI 38 := by decide
theorem kb_48 : (Int8.ofInt (48)).toInt32 = nI 48 := by decide
theorem kb_57 : (Int8.ofInt (57)).toInt32 = nI 57 := by decide
theorem kb_59 : (Int8.ofInt (59)).toInt32 = nI 59 := by decide
theorem kb_63 : (Int8.ofInt (63)).toInt32 = nI 63 := by decide
theorem kb_64 : (Int8.ofInt (64)).toInt32 = nI 64 := by decide
theorem kb_97 : (Int8.ofInt (97)).toInt32 = nI 97 := by decide
theorem kb_99 : (Int8.ofInt (99)).toInt32 = nI 99 := by decide
theorem kb_100 : (Int8.ofInt (100)).toInt32 = nI 100 := by decide
theorem kb_122 : (Int8.ofInt (122)).toInt32 = nI 122 := by decide
theorem ki_m8 : Int32.ofInt (-8) = (-8) := by decide
theorem ki_m1 : Int32.ofInt (-1) = (-1) := by decide
theorem ki_0 : Int32.ofInt (0) = nI 0 := by decide
theorem ki_1 : Int32.ofInt (1) = nI 1 := by decide
theorem ki_2 : Int32.ofInt (2) = nI 2 := by decide
theorem ki_3 : Int32.ofInt (3) = nI 3 := by decide
theorem ki_4 : Int32.ofInt (4) = nI 4 := by decide
theorem ki_5 : Int32.ofInt (5) = nI 5 := by decide
theorem ks_138 : (Int16.ofInt (138)).toInt32 = nI 138 := by decide
theorem ks_214 : (Int16.ofInt (214)).toInt32 = nI 214 := by decide
theorem ks_238 : (Int16.ofInt (238)).toInt32 = nI 238 := by decide
theorem ks_255 : (Int16.ofInt (255)).toInt32 = nI 255 := by decide
theorem ks_271 : (Int16.ofInt (271)).toInt32 = nI 271 := by decide
theorem ks_300 : (Int16.ofInt (300)).toInt32 = nI 300 := by decide
theorem ks_307 : (Int16.ofInt (307)).toInt32 = nI 307 := by decide
theorem ks_341 : (Int16.ofInt (341)).toInt32 = nI 341 := by decide
theorem ks_397 : (Int16.ofInt (397)).toInt32 = nI 397 := by decide
theorem ks_400 : (Int16.ofInt (400)).toInt32 = nI 400 := by decide
theorem ks_538 : (Int16.ofInt (538)).toInt32 = nI 538 := by decide
theorem ks_999 : (Int16.ofInt (999)).toInt32 = nI 999 := by decide
theorem ks_1000 : (Int16.ofInt (1000)).toInt32 = nI 1000 := by decide
theorem ks_1023 : (Int16.ofInt (1023)).toInt32 = nI 1023 := by decide
theorem ks_1024 : (Int16.ofInt (1024)).toInt32 = nI 1024 := by decide
theorem ks_2047 : (Int16.ofInt (2047)).toInt32 = nI 2047 := by decide
theorem ks_2048 : (Int16.ofInt (2048)).toInt32 = nI 2048 := by decide
theorem ks_6682 : (Int16.ofInt (6682)).toInt32 = nI 6682 := by decide
theorem nz_2 : ¬ nI 2 = 0 := by decide
theorem nz_4 : ¬ nI 4 = 0 := by decide
theorem nz_8 : ¬ nI 8 = 0 := by decide
theorem nz_32 : ¬ nI 32 = 0 := by decide
theorem nz_1024 : ¬ nI 1024 = 0 := by decide
theorem hd_J6_bitCount_0f7a4 : yJ6_bitCount_0f7a4.cls ≠ "java/lang/invoke/MethodHandle" ∧ yJ6_bitCount_0f7a4.cls ≠ "java/lang/invoke/VarHandle" ∧ (parseMethodDescriptor yJ6_bitCount_0f7a4.desc).map (fun d => d.parameters.length) = some 1 := by decide +kernel
theorem hd_J7_fill_53178 : yJ7_fill_53178.cls ≠ "java/lang/invoke/MethodHandle" ∧ yJ7_fill_53178.cls ≠ "java/lang/invoke/VarHandle" ∧ (parseMethodDescriptor yJ7_fill_53178.desc).map (fun d => d.parameters.length) = some 2 := by decide +kernel
theorem hd_X0_tell : yX0_tell.cls ≠ "java/lang/invoke/MethodHandle" ∧ yX0_tell.cls ≠ "java/lang/invoke/VarHandle" ∧ (parseMethodDescriptor yX0_tell.desc).map (fun d => d.parameters.length) = some 5 := by decide +kernel
theorem hd_X1_addLandmark : yX1_addLandmark.cls ≠ "java/lang/invoke/MethodHandle" ∧ yX1_addLandmark.cls ≠ "java/lang/invoke/VarHandle" ∧ (parseMethodDescriptor yX1_addLandmark.desc).map (fun d => d.parameters.length) = some 2 := by decide +kernel
theorem hd_X1_apart : yX1_apart.cls ≠ "java/lang/invoke/MethodHandle" ∧ yX1_apart.cls ≠ "java/lang/invoke/VarHandle" ∧ (parseMethodDescriptor yX1_apart.desc).map (fun d => d.parameters.length) = some 2 := by decide +kernel
theorem hd_X1_awayFrom : yX1_awayFrom.cls ≠ "java/lang/invoke/MethodHandle" ∧ yX1_awayFrom.cls ≠ "java/lang/invoke/VarHandle" ∧ (parseMethodDescriptor yX1_awayFrom.desc).map (fun d => d.parameters.length) = some 3 := by decide +kernel
theorem hd_X1_copiesHeldIn : yX1_copiesHeldIn.cls ≠ "java/lang/invoke/MethodHandle" ∧ yX1_copiesHeldIn.cls ≠ "java/lang/invoke/VarHandle" ∧ (parseMethodDescriptor yX1_copiesHeldIn.desc).map (fun d => d.parameters.length) = some 1 := by decide +kernel
theorem hd_X1_copiesLost : yX1_copiesLost.cls ≠ "java/lang/invoke/MethodHandle" ∧ yX1_copiesLost.cls ≠ "java/lang/invoke/VarHandle" ∧ (parseMethodDescriptor yX1_copiesLost.desc).map (fun d => d.parameters.length) = some 0 := by decide +kernel
theorem hd_X1_copyFrom : yX1_copyFrom.cls ≠ "java/lang/invoke/MethodHandle" ∧ yX1_copyFrom.cls ≠ "java/lang/invoke/VarHandle" ∧ (parseMethodDescriptor yX1_copyFrom.desc).map (fun d => d.parameters.length) = some 1 := by decide +kernel
theorem hd_X1_cutOut : yX1_cutOut.cls ≠ "java/lang/invoke/MethodHandle" ∧ yX1_cutOut.cls ≠ "java/lang/invoke/VarHandle" ∧ (parseMethodDescriptor yX1_cutOut.desc).map (fun d => d.parameters.length) = some 1 := by decide +kernel
theorem hd_X1_isHeld : yX1_isHeld.cls ≠ "java/lang/invoke/MethodHandle" ∧ yX1_isHeld.cls ≠ "java/lang/invoke/VarHandle" ∧ (parseMethodDescriptor yX1_isHeld.desc).map (fun d => d.parameters.length) = some 2 := by decide +kernel
theorem hd_X1_isHeldBy : yX1_isHeldBy.cls ≠ "java/lang/invoke/MethodHandle" ∧ yX1_isHeldBy.cls ≠ "java/lang/invoke/VarHandle" ∧ (parseMethodDescriptor yX1_isHeldBy.desc).map (fun d => d.parameters.length) = some 3 := by decide +kernel
theorem hd_X1_isHeldByNoneBut : yX1_isHeldByNoneBut.cls ≠ "java/lang/invoke/MethodHandle" ∧ yX1_isHeldByNoneBut.cls ≠ "java/lang/invoke/VarHandle" ∧ (parseMethodDescriptor yX1_isHeldByNoneBut.desc).map (fun d => d.parameters.length) = some 2 := by decide +kernel
theorem hd_X1_keysSafe : yX1_keysSafe.cls ≠ "java/lang/invoke/MethodHandle" ∧ yX1_keysSafe.cls ≠ "java/lang/invoke/VarHandle" ∧ (parseMethodDescriptor yX1_keysSafe.desc).map (fun d => d.parameters.length) = some 0 := by decide +kernel
theorem hd_X1_keysStored : yX1_keysStored.cls ≠ "java/lang/invoke/MethodHandle" ∧ yX1_keysStored.cls ≠ "java/lang/invoke/VarHandle" ∧ (parseMethodDescriptor yX1_keysStored.desc).map (fun d => d.parameters.length) = some 0 := by decide +kernel
theorem hd_X1_landmarkInOrder : yX1_landmarkInOrder.cls ≠ "java/lang/invoke/MethodHandle" ∧ yX1_landmarkInOrder.cls ≠ "java/lang/invoke/VarHandle" ∧ (parseMethodDescriptor yX1_landmarkInOrder.desc).map (fun d => d.parameters.length) = some 3 := by decide +kernel
theorem hd_X1_leastNodeAway : yX1_leastNodeAway.cls ≠ "java/lang/invoke/MethodHandle" ∧ yX1_leastNodeAway.cls ≠ "java/lang/invoke/VarHandle" ∧ (parseMethodDescriptor yX1_leastNodeAway.desc).map (fun d => d.parameters.length) = some 0 := by decide +kernel
theorem hd_X1_letDie : yX1_letDie.cls ≠ "java/lang/invoke/MethodHandle" ∧ yX1_letDie.cls ≠ "java/lang/invoke/VarHandle" ∧ (parseMethodDescriptor yX1_letDie.desc).map (fun d => d.parameters.length) = some 1 := by decide +kernel
theorem hd_X1_letGo : yX1_letGo.cls ≠ "java/lang/invoke/MethodHandle" ∧ yX1_letGo.cls ≠ "java/lang/invoke/VarHandle" ∧ (parseMethodDescriptor yX1_letGo.desc).map (fun d => d.parameters.length) = some 1 := by decide +kernel
theorem hd_X1_letIn : yX1_letIn.cls ≠ "java/lang/invoke/MethodHandle" ∧ yX1_letIn.cls ≠ "java/lang/invoke/VarHandle" ∧ (parseMethodDescriptor yX1_letIn.desc).map (fun d => d.parameters.length) = some 4 := by decide +kernel
theorem hd_X1_loadOf : yX1_loadOf.cls ≠ "java/lang/invoke/MethodHandle" ∧ yX1_loadOf.cls ≠ "java/lang/invoke/VarHandle" ∧ (parseMethodDescriptor yX1_loadOf.desc).map (fun d => d.parameters.length) = some 2 := by decide +kernel
theorem hd_X1_mendAll : yX1_mendAll.cls ≠ "java/lang/invoke/MethodHandle" ∧ yX1_mendAll.cls ≠ "java/lang/invoke/VarHandle" ∧ (parseMethodDescriptor yX1_mendAll.desc).map (fun d => d.parameters.length) = some 0 := by decide +kernel
theorem hd_X1_nearX : yX1_nearX.cls ≠ "java/lang/invoke/MethodHandle" ∧ yX1_nearX.cls ≠ "java/lang/invoke/VarHandle" ∧ (parseMethodDescriptor yX1_nearX.desc).map (fun d => d.parameters.length) = some 2 := by decide +kernel
theorem hd_X1_nearY : yX1_nearY.cls ≠ "java/lang/invoke/MethodHandle" ∧ yX1_nearY.cls ≠ "java/lang/invoke/VarHandle" ∧ (parseMethodDescriptor yX1_nearY.desc).map (fun d => d.parameters.length) = some 2 := by decide +kernel
theorem hd_X1_nodesThatAre : yX1_nodesThatAre.cls ≠ "java/lang/invoke/MethodHandle" ∧ yX1_nodesThatAre.cls ≠ "java/lang/invoke/VarHandle" ∧ (parseMethodDescriptor yX1_nodesThatAre.desc).map (fun d => d.parameters.length) = some 1 := by decide +kernel
theorem hd_X1_orderOf : yX1_orderOf.cls ≠ "java/lang/invoke/MethodHandle" ∧ yX1_orderOf.cls ≠ "java/lang/invoke/VarHandle" ∧ (parseMethodDescriptor yX1_orderOf.desc).map (fun d => d.parameters.length) = some 2 := by decide +kernel
theorem hd_X1_perform : yX1_perform.cls ≠ "java/lang/invoke/MethodHandle" ∧ yX1_perform.cls ≠ "java/lang/invoke/VarHandle" ∧ (parseMethodDescriptor yX1_perform.desc).map (fun d => d.parameters.length) = some 1 := by decide +kernel
theorem hd_X1_pointOf : yX1_pointOf.cls ≠ "java/lang/invoke/MethodHandle" ∧ yX1_pointOf.cls ≠ "java/lang/invoke/VarHandle" ∧ (parseMethodDescriptor yX1_pointOf.desc).map (fun d => d.parameters.length) = some 2 := by decide +kernel
theorem hd_X1_pointX : yX1_pointX.cls ≠ "java/lang/invoke/MethodHandle" ∧ yX1_pointX.cls ≠ "java/lang/invoke/VarHandle" ∧ (parseMethodDescriptor yX1_pointX.desc).map (fun d => d.parameters.length) = some 2 := by decide +kernel
theorem hd_X1_pointY : yX1_pointY.cls ≠ "java/lang/invoke/MethodHandle" ∧ yX1_pointY.cls ≠ "java/lang/invoke/VarHandle" ∧ (parseMethodDescriptor yX1_pointY.desc).map (fun d => d.parameters.length) = some 2 := by decide +kernel
theorem hd_X1_realitiesWithin : yX1_realitiesWithin.cls ≠ "java/lang/invoke/MethodHandle" ∧ yX1_realitiesWithin.cls ≠ "java/lang/invoke/VarHandle" ∧ (parseMethodDescriptor yX1_realitiesWithin.desc).map (fun d => d.parameters.length) = some 1 := by decide +kernel
theorem hd_X1_refusalOf : yX1_refusalOf.cls ≠ "java/lang/invoke/MethodHandle" ∧ yX1_refusalOf.cls ≠ "java/lang/invoke/VarHandle" ∧ (parseMethodDescriptor yX1_refusalOf.desc).map (fun d => d.parameters.length) = some 1 := by decide +kernel
theorem hd_X1_refusalOfHanding : yX1_refusalOfHanding.cls ≠ "java/lang/invoke/MethodHandle" ∧ yX1_refusalOfHanding.cls ≠ "java/lang/invoke/VarHandle" ∧ (parseMethodDescriptor yX1_refusalOfHanding.desc).map (fun d => d.parameters.length) = some 1 := by decide +kernel
theorem hd_X1_refusalOfJoin : yX1_refusalOfJoin.cls ≠ "java/lang/invoke/MethodHandle" ∧ yX1_refusalOfJoin.cls ≠ "java/lang/invoke/VarHandle" ∧ (parseMethodDescriptor yX1_refusalOfJoin.desc).map (fun d => d.parameters.length) = some 2 := by decide +kernel
theorem hd_X1_startAnew : yX1_startAnew.cls ≠ "java/lang/invoke/MethodHandle" ∧ yX1_startAnew.cls ≠ "java/lang/invoke/VarHandle" ∧ (parseMethodDescriptor yX1_startAnew.desc).map (fun d => d.parameters.length) = some 1 := by decide +kernel
theorem hd_X1_tidyAll : yX1_tidyAll.cls ≠ "java/lang/invoke/MethodHandle" ∧ yX1_tidyAll.cls ≠ "java/lang/invoke/VarHandle" ∧ (parseMethodDescriptor yX1_tidyAll.desc).map (fun d => d.parameters.length) = some 0 := by decide +kernel
theorem hd_X2_forget : yX2_forget.cls ≠ "java/lang/invoke/MethodHandle" ∧ yX2_forget.cls ≠ "java/lang/invoke/VarHandle" ∧ (parseMethodDescriptor yX2_forget.desc).map (fun d => d.parameters.length) = some 0 := by decide +kernel
theorem hd_X2_keep : yX2_keep.cls ≠ "java/lang/invoke/MethodHandle" ∧ yX2_keep.cls ≠ "java/lang/invoke/VarHandle" ∧ (parseMethodDescriptor yX2_keep.desc).map (fun d => d.parameters.length) = some 1 := by decide +kernel
theorem hd_X2_takeBack : yX2_takeBack.cls ≠ "java/lang/invoke/MethodHandle" ∧ yX2_takeBack.cls ≠ "java/lang/invoke/VarHandle" ∧ (parseMethodDescriptor yX2_takeBack.desc).map (fun d => d.parameters.length) = some 1 := by decide +kernel
theorem hd_X3_begin : yX3_begin.cls ≠ "java/lang/invoke/MethodHandle" ∧ yX3_begin.cls ≠ "java/lang/invoke/VarHandle" ∧ (parseMethodDescriptor yX3_begin.desc).map (fun d => d.parameters.length) = some 0 := by decide +kernel
theorem hd_X3_isBetween : yX3_isBetween.cls ≠ "java/lang/invoke/MethodHandle" ∧ yX3_isBetween.cls ≠ "java/lang/invoke/VarHandle" ∧ (parseMethodDescriptor yX3_isBetween.desc).map (fun d => d.parameters.length) = some 3 := by decide +kernel
theorem hd_X3_skipBlanks : yX3_skipBlanks.cls ≠ "java/lang/invoke/MethodHandle" ∧ yX3_skipBlanks.cls ≠ "java/lang/invoke/VarHandle" ∧ (parseMethodDescriptor yX3_skipBlanks.desc).map (fun d => d.parameters.length) = some 0 := by decide +kernel
theorem hd_X3_takeAct : yX3_takeAct.cls ≠ "java/lang/invoke/MethodHandle" ∧ yX3_takeAct.cls ≠ "java/lang/invoke/VarHandle" ∧ (parseMethodDescriptor yX3_takeAct.desc).map (fun d => d.parameters.length) = some 1 := by decide +kernel
theorem hd_X3_takeAim : yX3_takeAim.cls ≠ "java/lang/invoke/MethodHandle" ∧ yX3_takeAim.cls ≠ "java/lang/invoke/VarHandle" ∧ (parseMethodDescriptor yX3_takeAim.desc).map (fun d => d.parameters.length) = some 1 := by decide +kernel
theorem hd_X3_takeKind : yX3_takeKind.cls ≠ "java/lang/invoke/MethodHandle" ∧ yX3_takeKind.cls ≠ "java/lang/invoke/VarHandle" ∧ (parseMethodDescriptor yX3_takeKind.desc).map (fun d => d.parameters.length) = some 1 := by decide +kernel
theorem hd_X3_takeNumber : yX3_takeNumber.cls ≠ "java/lang/invoke/MethodHandle" ∧ yX3_takeNumber.cls ≠ "java/lang/invoke/VarHandle" ∧ (parseMethodDescriptor yX3_takeNumber.desc).map (fun d => d.parameters.length) = some 4 := by decide +kernel
theorem hd_X3_takeNumbers : yX3_takeNumbers.cls ≠ "java/lang/invoke/MethodHandle" ∧ yX3_takeNumbers.cls ≠ "java/lang/invoke/VarHandle" ∧ (parseMethodDescriptor yX3_takeNumbers.desc).map (fun d => d.parameters.length) = some 1 := by decide +kernel
theorem hd_X3_takeSemicolon : yX3_takeSemicolon.cls ≠ "java/lang/invoke/MethodHandle" ∧ yX3_takeSemicolon.cls ≠ "java/lang/invoke/VarHandle" ∧ (parseMethodDescriptor yX3_takeSemicolon.desc).map (fun d => d.parameters.length) = some 0 := by decide +kernel
theorem hd_X3_takeWord : yX3_takeWord.cls ≠ "java/lang/invoke/MethodHandle" ∧ yX3_takeWord.cls ≠ "java/lang/invoke/VarHandle" ∧ (parseMethodDescriptor yX3_takeWord.desc).map (fun d => d.parameters.length) = some 1 := by decide +kernel
theorem hd_X4_besideOf : yX4_besideOf.cls ≠ "java/lang/invoke/MethodHandle" ∧ yX4_besideOf.cls ≠ "java/lang/invoke/VarHandle" ∧ (parseMethodDescriptor yX4_besideOf.desc).map (fun d => d.parameters.length) = some 1 := by decide +kernel
theorem hd_X4_clear : yX4_clear.cls ≠ "java/lang/invoke/MethodHandle" ∧ yX4_clear.cls ≠ "java/lang/invoke/VarHandle" ∧ (parseMethodDescriptor yX4_clear.desc).map (fun d => d.parameters.length) = some 0 := by decide +kernel
theorem hd_X4_copyFrom : yX4_copyFrom.cls ≠ "java/lang/invoke/MethodHandle" ∧ yX4_copyFrom.cls ≠ "java/lang/invoke/VarHandle" ∧ (parseMethodDescriptor yX4_copyFrom.desc).map (fun d => d.parameters.length) = some 1 := by decide +kernel
theorem hd_X4_deepestPair : yX4_deepestPair.cls ≠ "java/lang/invoke/MethodHandle" ∧ yX4_deepestPair.cls ≠ "java/lang/invoke/VarHandle" ∧ (parseMethodDescriptor yX4_deepestPair.desc).map (fun d => d.parameters.length) = some 1 := by decide +kernel
theorem hd_X4_depthOf : yX4_depthOf.cls ≠ "java/lang/invoke/MethodHandle" ∧ yX4_depthOf.cls ≠ "java/lang/invoke/VarHandle" ∧ (parseMethodDescriptor yX4_depthOf.desc).map (fun d => d.parameters.length) = some 1 := by decide +kernel
theorem hd_X4_evenOf : yX4_evenOf.cls ≠ "java/lang/invoke/MethodHandle" ∧ yX4_evenOf.cls ≠ "java/lang/invoke/VarHandle" ∧ (parseMethodDescriptor yX4_evenOf.desc).map (fun d => d.parameters.length) = some 1 := by decide +kernel
theorem hd_X4_everyOtherBit : yX4_everyOtherBit.cls ≠ "java/lang/invoke/MethodHandle" ∧ yX4_everyOtherBit.cls ≠ "java/lang/invoke/VarHandle" ∧ (parseMethodDescriptor yX4_everyOtherBit.desc).map (fun d => d.parameters.length) = some 1 := by decide +kernel
theorem hd_X4_firstZoneOfAny : yX4_firstZoneOfAny.cls ≠ "java/lang/invoke/MethodHandle" ∧ yX4_firstZoneOfAny.cls ≠ "java/lang/invoke/VarHandle" ∧ (parseMethodDescriptor yX4_firstZoneOfAny.desc).map (fun d => d.parameters.length) = some 1 := by decide +kernel
theorem hd_X4_give : yX4_give.cls ≠ "java/lang/invoke/MethodHandle" ∧ yX4_give.cls ≠ "java/lang/invoke/VarHandle" ∧ (parseMethodDescriptor yX4_give.desc).map (fun d => d.parameters.length) = some 2 := by decide +kernel
theorem hd_X4_handAll : yX4_handAll.cls ≠ "java/lang/invoke/MethodHandle" ∧ yX4_handAll.cls ≠ "java/lang/invoke/VarHandle" ∧ (parseMethodDescriptor yX4_handAll.desc).map (fun d => d.parameters.length) = some 2 := by decide +kernel
theorem hd_X4_heirOf : yX4_heirOf.cls ≠ "java/lang/invoke/MethodHandle" ∧ yX4_heirOf.cls ≠ "java/lang/invoke/VarHandle" ∧ (parseMethodDescriptor yX4_heirOf.desc).map (fun d => d.parameters.length) = some 2 := by decide +kernel
theorem hd_X4_high : yX4_high.cls ≠ "java/lang/invoke/MethodHandle" ∧ yX4_high.cls ≠ "java/lang/invoke/VarHandle" ∧ (parseMethodDescriptor yX4_high.desc).map (fun d => d.parameters.length) = some 1 := by decide +kernel
theorem hd_X4_leastOf : yX4_leastOf.cls ≠ "java/lang/invoke/MethodHandle" ∧ yX4_leastOf.cls ≠ "java/lang/invoke/VarHandle" ∧ (parseMethodDescriptor yX4_leastOf.desc).map (fun d => d.parameters.length) = some 1 := by decide +kernel
theorem hd_X4_leastScattered : yX4_leastScattered.cls ≠ "java/lang/invoke/MethodHandle" ∧ yX4_leastScattered.cls ≠ "java/lang/invoke/VarHandle" ∧ (parseMethodDescriptor yX4_leastScattered.desc).map (fun d => d.parameters.length) = some 0 := by decide +kernel
theorem hd_X4_leastX : yX4_leastX.cls ≠ "java/lang/invoke/MethodHandle" ∧ yX4_leastX.cls ≠ "java/lang/invoke/VarHandle" ∧ (parseMethodDescriptor yX4_leastX.desc).map (fun d => d.parameters.length) = some 2 := by decide +kernel
theorem hd_X4_leastY : yX4_leastY.cls ≠ "java/lang/invoke/MethodHandle" ∧ yX4_leastY.cls ≠ "java/lang/invoke/VarHandle" ∧ (parseMethodDescriptor yX4_leastY.desc).map (fun d => d.parameters.length) = some 2 := by decide +kernel
theorem hd_X4_moveStray : yX4_moveStray.cls ≠ "java/lang/invoke/MethodHandle" ∧ yX4_moveStray.cls ≠ "java/lang/invoke/VarHandle" ∧ (parseMethodDescriptor yX4_moveStray.desc).map (fun d => d.parameters.length) = some 1 := by decide +kernel
theorem hd_X4_nodeAt : yX4_nodeAt.cls ≠ "java/lang/invoke/MethodHandle" ∧ yX4_nodeAt.cls ≠ "java/lang/invoke/VarHandle" ∧ (parseMethodDescriptor yX4_nodeAt.desc).map (fun d => d.parameters.length) = some 2 := by decide +kernel
theorem hd_X4_split : yX4_split.cls ≠ "java/lang/invoke/MethodHandle" ∧ yX4_split.cls ≠ "java/lang/invoke/VarHandle" ∧ (parseMethodDescriptor yX4_split.desc).map (fun d => d.parameters.length) = some 3 := by decide +kernel
theorem hd_X4_tidyUp : yX4_tidyUp.cls ≠ "java/lang/invoke/MethodHandle" ∧ yX4_tidyUp.cls ≠ "java/lang/invoke/VarHandle" ∧ (parseMethodDescriptor yX4_tidyUp.desc).map (fun d => d.parameters.length) = some 0 := by decide +kernel
theorem hd_X4_wide : yX4_wide.cls ≠ "java/lang/invoke/MethodHandle" ∧ yX4_wide.cls ≠ "java/lang/invoke/VarHandle" ∧ (parseMethodDescriptor yX4_wide.desc).map (fun d => d.parameters.length) = some 1 := by decide +kernel
theorem hd_X4_zoneAt : yX4_zoneAt.cls ≠ "java/lang/invoke/MethodHandle" ∧ yX4_zoneAt.cls ≠ "java/lang/invoke/VarHandle" ∧ (parseMethodDescriptor yX4_zoneAt.desc).map (fun d => d.parameters.length) = some 2 := by decide +kernel
theorem hd_X4_zoneOf : yX4_zoneOf.cls ≠ "java/lang/invoke/MethodHandle" ∧ yX4_zoneOf.cls ≠ "java/lang/invoke/VarHandle" ∧ (parseMethodDescriptor yX4_zoneOf.desc).map (fun d => d.parameters.length) = some 2 := by decide +kernel
theorem hd_X4_zonesOfAll : yX4_zonesOfAll.cls ≠ "java/lang/invoke/MethodHandle" ∧ yX4_zonesOfAll.cls ≠ "java/lang/invoke/VarHandle" ∧ (parseMethodDescriptor yX4_zonesOfAll.desc).map (fun d => d.parameters.length) = some 0 := by decide +kernel
theorem hd_X4_zonesOfTheScattered : yX4_zonesOfTheScattered.cls ≠ "java/lang/invoke/MethodHandle" ∧ yX4_zonesOfTheScattered.cls ≠ "java/lang/invoke/VarHandle" ∧ (parseMethodDescriptor yX4_zonesOfTheScattered.desc).map (fun d => d.parameters.length) = some 0 := by decide +kernel
theorem hd_X5_addHinges : yX5_addHinges.cls ≠ "java/lang/invoke/MethodHandle" ∧ yX5_addHinges.cls ≠ "java/lang/invoke/VarHandle" ∧ (parseMethodDescriptor yX5_addHinges.desc).map (fun d => d.parameters.length) = some 3 := by decide +kernel
theorem hd_X5_walkAll : yX5_walkAll.cls ≠ "java/lang/invoke/MethodHandle" ∧ yX5_walkAll.cls ≠ "java/lang/invoke/VarHandle" ∧ (parseMethodDescriptor yX5_walkAll.desc).map (fun d => d.parameters.length) = some 4 := by decide +kernel
theorem hd_X5_walkTo : yX5_walkTo.cls ≠ "java/lang/invoke/MethodHandle" ∧ yX5_walkTo.cls ≠ "java/lang/invoke/VarHandle" ∧ (parseMethodDescriptor yX5_walkTo.desc).map (fun d => d.parameters.length) = some 4 := by decide +kernel
theorem hd_X6_append : yX6_append.cls ≠ "java/lang/invoke/MethodHandle" ∧ yX6_append.cls ≠ "java/lang/invoke/VarHandle" ∧ (parseMethodDescriptor yX6_append.desc).map (fun d => d.parameters.length) = some 1 := by decide +kernel
theorem hd_X7_besideIn : yX7_besideIn.cls ≠ "java/lang/invoke/MethodHandle" ∧ yX7_besideIn.cls ≠ "java/lang/invoke/VarHandle" ∧ (parseMethodDescriptor yX7_besideIn.desc).map (fun d => d.parameters.length) = some 2 := by decide +kernel
theorem hd_X7_follow : yX7_follow.cls ≠ "java/lang/invoke/MethodHandle" ∧ yX7_follow.cls ≠ "java/lang/invoke/VarHandle" ∧ (parseMethodDescriptor yX7_follow.desc).map (fun d => d.parameters.length) = some 3 := by decide +kernel
theorem hd_X7_hopsOrNone : yX7_hopsOrNone.cls ≠ "java/lang/invoke/MethodHandle" ∧ yX7_hopsOrNone.cls ≠ "java/lang/invoke/VarHandle" ∧ (parseMethodDescriptor yX7_hopsOrNone.desc).map (fun d => d.parameters.length) = some 0 := by decide +kernel
theorem hd_X7_lastNode : yX7_lastNode.cls ≠ "java/lang/invoke/MethodHandle" ∧ yX7_lastNode.cls ≠ "java/lang/invoke/VarHandle" ∧ (parseMethodDescriptor yX7_lastNode.desc).map (fun d => d.parameters.length) = some 0 := by decide +kernel
theorem hd_X7_lookBeside : yX7_lookBeside.cls ≠ "java/lang/invoke/MethodHandle" ∧ yX7_lookBeside.cls ≠ "java/lang/invoke/VarHandle" ∧ (parseMethodDescriptor yX7_lookBeside.desc).map (fun d => d.parameters.length) = some 2 := by decide +kernel
theorem hd_X7_lookFar : yX7_lookFar.cls ≠ "java/lang/invoke/MethodHandle" ∧ yX7_lookFar.cls ≠ "java/lang/invoke/VarHandle" ∧ (parseMethodDescriptor yX7_lookFar.desc).map (fun d => d.parameters.length) = some 4 := by decide +kernel
theorem hd_X7_nodeNearerThan : yX7_nodeNearerThan.cls ≠ "java/lang/invoke/MethodHandle" ∧ yX7_nodeNearerThan.cls ≠ "java/lang/invoke/VarHandle" ∧ (parseMethodDescriptor yX7_nodeNearerThan.desc).map (fun d => d.parameters.length) = some 4 := by decide +kernel
theorem hd_X7_nodeOfWay : yX7_nodeOfWay.cls ≠ "java/lang/invoke/MethodHandle" ∧ yX7_nodeOfWay.cls ≠ "java/lang/invoke/VarHandle" ∧ (parseMethodDescriptor yX7_nodeOfWay.desc).map (fun d => d.parameters.length) = some 1 := by decide +kernel
theorem hd_X7_nodesBetween : yX7_nodesBetween.cls ≠ "java/lang/invoke/MethodHandle" ∧ yX7_nodesBetween.cls ≠ "java/lang/invoke/VarHandle" ∧ (parseMethodDescriptor yX7_nodesBetween.desc).map (fun d => d.parameters.length) = some 0 := by decide +kernel
theorem hd_X7_stepsTo : yX7_stepsTo.cls ≠ "java/lang/invoke/MethodHandle" ∧ yX7_stepsTo.cls ≠ "java/lang/invoke/VarHandle" ∧ (parseMethodDescriptor yX7_stepsTo.desc).map (fun d => d.parameters.length) = some 3 := by decide +kernel
theorem hd_X8_checkCell : yX8_checkCell.cls ≠ "java/lang/invoke/MethodHandle" ∧ yX8_checkCell.cls ≠ "java/lang/invoke/VarHandle" ∧ (parseMethodDescriptor yX8_checkCell.desc).map (fun d => d.parameters.length) = some 2 := by decide +kernel
theorem hd_X8_checkKey : yX8_checkKey.cls ≠ "java/lang/invoke/MethodHandle" ∧ yX8_checkKey.cls ≠ "java/lang/invoke/VarHandle" ∧ (parseMethodDescriptor yX8_checkKey.desc).map (fun d => d.parameters.length) = some 1 := by decide +kernel
theorem hd_X8_checkNode : yX8_checkNode.cls ≠ "java/lang/invoke/MethodHandle" ∧ yX8_checkNode.cls ≠ "java/lang/invoke/VarHandle" ∧ (parseMethodDescriptor yX8_checkNode.desc).map (fun d => d.parameters.length) = some 1 := by decide +kernel
theorem hd_X8_checkReality : yX8_checkReality.cls ≠ "java/lang/invoke/MethodHandle" ∧ yX8_checkReality.cls ≠ "java/lang/invoke/VarHandle" ∧ (parseMethodDescriptor yX8_checkReality.desc).map (fun d => d.parameters.length) = some 1 := by decide +kernel
theorem hd_X8_checkUp : yX8_checkUp.cls ≠ "java/lang/invoke/MethodHandle" ∧ yX8_checkUp.cls ≠ "java/lang/invoke/VarHandle" ∧ (parseMethodDescriptor yX8_checkUp.desc).map (fun d => d.parameters.length) = some 1 := by decide +kernel
theorem hd_X8_checkWhat : yX8_checkWhat.cls ≠ "java/lang/invoke/MethodHandle" ∧ yX8_checkWhat.cls ≠ "java/lang/invoke/VarHandle" ∧ (parseMethodDescriptor yX8_checkWhat.desc).map (fun d => d.parameters.length) = some 2 := by decide +kernel
theorem hd_X8_delayOfWay : yX8_delayOfWay.cls ≠ "java/lang/invoke/MethodHandle" ∧ yX8_delayOfWay.cls ≠ "java/lang/invoke/VarHandle" ∧ (parseMethodDescriptor yX8_delayOfWay.desc).map (fun d => d.parameters.length) = some 0 := by decide +kernel
theorem hd_X8_dropText : yX8_dropText.cls ≠ "java/lang/invoke/MethodHandle" ∧ yX8_dropText.cls ≠ "java/lang/invoke/VarHandle" ∧ (parseMethodDescriptor yX8_dropText.desc).map (fun d => d.parameters.length) = some 1 := by decide +kernel
theorem hd_X8_hubOf : yX8_hubOf.cls ≠ "java/lang/invoke/MethodHandle" ∧ yX8_hubOf.cls ≠ "java/lang/invoke/VarHandle" ∧ (parseMethodDescriptor yX8_hubOf.desc).map (fun d => d.parameters.length) = some 1 := by decide +kernel
theorem hd_X8_isCell : yX8_isCell.cls ≠ "java/lang/invoke/MethodHandle" ∧ yX8_isCell.cls ≠ "java/lang/invoke/VarHandle" ∧ (parseMethodDescriptor yX8_isCell.desc).map (fun d => d.parameters.length) = some 2 := by decide +kernel
theorem hd_X8_isPlace : yX8_isPlace.cls ≠ "java/lang/invoke/MethodHandle" ∧ yX8_isPlace.cls ≠ "java/lang/invoke/VarHandle" ∧ (parseMethodDescriptor yX8_isPlace.desc).map (fun d => d.parameters.length) = some 2 := by decide +kernel
theorem hd_X8_settle : yX8_settle.cls ≠ "java/lang/invoke/MethodHandle" ∧ yX8_settle.cls ≠ "java/lang/invoke/VarHandle" ∧ (parseMethodDescriptor yX8_settle.desc).map (fun d => d.parameters.length) = some 0 := by decide +kernel
theorem hd_X8_stretch : yX8_stretch.cls ≠ "java/lang/invoke/MethodHandle" ∧ yX8_stretch.cls ≠ "java/lang/invoke/VarHandle" ∧ (parseMethodDescriptor yX8_stretch.desc).map (fun d => d.parameters.length) = some 3 := by decide +kernel
theorem hd_X9_act : yX9_act.cls ≠ "java/lang/invoke/MethodHandle" ∧ yX9_act.cls ≠ "java/lang/invoke/VarHandle" ∧ (parseMethodDescriptor yX9_act.desc).map (fun d => d.parameters.length) = some 0 := by decide +kernel
theorem hd_X9_allWays : yX9_allWays.cls ≠ "java/lang/invoke/MethodHandle" ∧ yX9_allWays.cls ≠ "java/lang/invoke/VarHandle" ∧ (parseMethodDescriptor yX9_allWays.desc).map (fun d => d.parameters.length) = some 0 := by decide +kernel
theorem hd_X9_allZones : yX9_allZones.cls ≠ "java/lang/invoke/MethodHandle" ∧ yX9_allZones.cls ≠ "java/lang/invoke/VarHandle" ∧ (parseMethodDescriptor yX9_allZones.desc).map (fun d => d.parameters.length) = some 0 := by decide +kernel
theorem hd_X9_apart : yX9_apart.cls ≠ "java/lang/invoke/MethodHandle" ∧ yX9_apart.cls ≠ "java/lang/invoke/VarHandle" ∧ (parseMethodDescriptor yX9_apart.desc).map (fun d => d.parameters.length) = some 2 := by decide +kernel
theorem hd_X9_areBeside : yX9_areBeside.cls ≠ "java/lang/invoke/MethodHandle" ∧ yX9_areBeside.cls ≠ "java/lang/invoke/VarHandle" ∧ (parseMethodDescriptor yX9_areBeside.desc).map (fun d => d.parameters.length) = some 2 := by decide +kernel
theorem hd_X9_arePair : yX9_arePair.cls ≠ "java/lang/invoke/MethodHandle" ∧ yX9_arePair.cls ≠ "java/lang/invoke/VarHandle" ∧ (parseMethodDescriptor yX9_arePair.desc).map (fun d => d.parameters.length) = some 2 := by decide +kernel
theorem hd_X9_around : yX9_around.cls ≠ "java/lang/invoke/MethodHandle" ∧ yX9_around.cls ≠ "java/lang/invoke/VarHandle" ∧ (parseMethodDescriptor yX9_around.desc).map (fun d => d.parameters.length) = some 3 := by decide +kernel
theorem hd_X9_besideNode : yX9_besideNode.cls ≠ "java/lang/invoke/MethodHandle" ∧ yX9_besideNode.cls ≠ "java/lang/invoke/VarHandle" ∧ (parseMethodDescriptor yX9_besideNode.desc).map (fun d => d.parameters.length) = some 1 := by decide +kernel
theorem hd_X9_besideZone : yX9_besideZone.cls ≠ "java/lang/invoke/MethodHandle" ∧ yX9_besideZone.cls ≠ "java/lang/invoke/VarHandle" ∧ (parseMethodDescriptor yX9_besideZone.desc).map (fun d => d.parameters.length) = some 1 := by decide +kernel
theorem hd_X9_bitsOf : yX9_bitsOf.cls ≠ "java/lang/invoke/MethodHandle" ∧ yX9_bitsOf.cls ≠ "java/lang/invoke/VarHandle" ∧ (parseMethodDescriptor yX9_bitsOf.desc).map (fun d => d.parameters.length) = some 1 := by decide +kernel
theorem hd_X9_boxes : yX9_boxes.cls ≠ "java/lang/invoke/MethodHandle" ∧ yX9_boxes.cls ≠ "java/lang/invoke/VarHandle" ∧ (parseMethodDescriptor yX9_boxes.desc).map (fun d => d.parameters.length) = some 1 := by decide +kernel
theorem hd_X9_canHold : yX9_canHold.cls ≠ "java/lang/invoke/MethodHandle" ∧ yX9_canHold.cls ≠ "java/lang/invoke/VarHandle" ∧ (parseMethodDescriptor yX9_canHold.desc).map (fun d => d.parameters.length) = some 2 := by decide +kernel
theorem hd_X9_clearsAll : yX9_clearsAll.cls ≠ "java/lang/invoke/MethodHandle" ∧ yX9_clearsAll.cls ≠ "java/lang/invoke/VarHandle" ∧ (parseMethodDescriptor yX9_clearsAll.desc).map (fun d => d.parameters.length) = some 1 := by decide +kernel
theorem hd_X9_common : yX9_common.cls ≠ "java/lang/invoke/MethodHandle" ∧ yX9_common.cls ≠ "java/lang/invoke/VarHandle" ∧ (parseMethodDescriptor yX9_common.desc).map (fun d => d.parameters.length) = some 2 := by decide +kernel
theorem hd_X9_countOf : yX9_countOf.cls ≠ "java/lang/invoke/MethodHandle" ∧ yX9_countOf.cls ≠ "java/lang/invoke/VarHandle" ∧ (parseMethodDescriptor yX9_countOf.desc).map (fun d => d.parameters.length) = some 1 := by decide +kernel
theorem hd_X9_crash0 : yX9_crash0.cls ≠ "java/lang/invoke/MethodHandle" ∧ yX9_crash0.cls ≠ "java/lang/invoke/VarHandle" ∧ (parseMethodDescriptor yX9_crash0.desc).map (fun d => d.parameters.length) = some 1 := by decide +kernel
theorem hd_X9_cut0 : yX9_cut0.cls ≠ "java/lang/invoke/MethodHandle" ∧ yX9_cut0.cls ≠ "java/lang/invoke/VarHandle" ∧ (parseMethodDescriptor yX9_cut0.desc).map (fun d => d.parameters.length) = some 1 := by decide +kernel
theorem hd_X9_delay : yX9_delay.cls ≠ "java/lang/invoke/MethodHandle" ∧ yX9_delay.cls ≠ "java/lang/invoke/VarHandle" ∧ (parseMethodDescriptor yX9_delay.desc).map (fun d => d.parameters.length) = some 0 := by decide +kernel
theorem hd_X9_depthOf : yX9_depthOf.cls ≠ "java/lang/invoke/MethodHandle" ∧ yX9_depthOf.cls ≠ "java/lang/invoke/VarHandle" ∧ (parseMethodDescriptor yX9_depthOf.desc).map (fun d => d.parameters.length) = some 1 := by decide +kernel
theorem hd_X9_even : yX9_even.cls ≠ "java/lang/invoke/MethodHandle" ∧ yX9_even.cls ≠ "java/lang/invoke/VarHandle" ∧ (parseMethodDescriptor yX9_even.desc).map (fun d => d.parameters.length) = some 0 := by decide +kernel
theorem hd_X9_farFrom : yX9_farFrom.cls ≠ "java/lang/invoke/MethodHandle" ∧ yX9_farFrom.cls ≠ "java/lang/invoke/VarHandle" ∧ (parseMethodDescriptor yX9_farFrom.desc).map (fun d => d.parameters.length) = some 3 := by decide +kernel
theorem hd_X9_farFromKey : yX9_farFromKey.cls ≠ "java/lang/invoke/MethodHandle" ∧ yX9_farFromKey.cls ≠ "java/lang/invoke/VarHandle" ∧ (parseMethodDescriptor yX9_farFromKey.desc).map (fun d => d.parameters.length) = some 2 := by decide +kernel
theorem hd_X9_farOf : yX9_farOf.cls ≠ "java/lang/invoke/MethodHandle" ∧ yX9_farOf.cls ≠ "java/lang/invoke/VarHandle" ∧ (parseMethodDescriptor yX9_farOf.desc).map (fun d => d.parameters.length) = some 3 := by decide +kernel
theorem hd_X9_gives : yX9_gives.cls ≠ "java/lang/invoke/MethodHandle" ∧ yX9_gives.cls ≠ "java/lang/invoke/VarHandle" ∧ (parseMethodDescriptor yX9_gives.desc).map (fun d => d.parameters.length) = some 3 := by decide +kernel
theorem hd_X9_go0 : yX9_go0.cls ≠ "java/lang/invoke/MethodHandle" ∧ yX9_go0.cls ≠ "java/lang/invoke/VarHandle" ∧ (parseMethodDescriptor yX9_go0.desc).map (fun d => d.parameters.length) = some 2 := by decide +kernel
theorem hd_X9_goText : yX9_goText.cls ≠ "java/lang/invoke/MethodHandle" ∧ yX9_goText.cls ≠ "java/lang/invoke/VarHandle" ∧ (parseMethodDescriptor yX9_goText.desc).map (fun d => d.parameters.length) = some 1 := by decide +kernel
theorem hd_X9_goes : yX9_goes.cls ≠ "java/lang/invoke/MethodHandle" ∧ yX9_goes.cls ≠ "java/lang/invoke/VarHandle" ∧ (parseMethodDescriptor yX9_goes.desc).map (fun d => d.parameters.length) = some 3 := by decide +kernel
theorem hd_X9_goesAway : yX9_goesAway.cls ≠ "java/lang/invoke/MethodHandle" ∧ yX9_goesAway.cls ≠ "java/lang/invoke/VarHandle" ∧ (parseMethodDescriptor yX9_goesAway.desc).map (fun d => d.parameters.length) = some 1 := by decide +kernel
theorem hd_X9_goesTo : yX9_goesTo.cls ≠ "java/lang/invoke/MethodHandle" ∧ yX9_goesTo.cls ≠ "java/lang/invoke/VarHandle" ∧ (parseMethodDescriptor yX9_goesTo.desc).map (fun d => d.parameters.length) = some 2 := by decide +kernel
theorem hd_X9_halfAt : yX9_halfAt.cls ≠ "java/lang/invoke/MethodHandle" ∧ yX9_halfAt.cls ≠ "java/lang/invoke/VarHandle" ∧ (parseMethodDescriptor yX9_halfAt.desc).map (fun d => d.parameters.length) = some 2 := by decide +kernel
theorem hd_X9_halfWith : yX9_halfWith.cls ≠ "java/lang/invoke/MethodHandle" ∧ yX9_halfWith.cls ≠ "java/lang/invoke/VarHandle" ∧ (parseMethodDescriptor yX9_halfWith.desc).map (fun d => d.parameters.length) = some 3 := by decide +kernel
theorem hd_X9_handsAll : yX9_handsAll.cls ≠ "java/lang/invoke/MethodHandle" ∧ yX9_handsAll.cls ≠ "java/lang/invoke/VarHandle" ∧ (parseMethodDescriptor yX9_handsAll.desc).map (fun d => d.parameters.length) = some 2 := by decide +kernel
theorem hd_X9_has : yX9_has.cls ≠ "java/lang/invoke/MethodHandle" ∧ yX9_has.cls ≠ "java/lang/invoke/VarHandle" ∧ (parseMethodDescriptor yX9_has.desc).map (fun d => d.parameters.length) = some 1 := by decide +kernel
theorem hd_X9_hasOther : yX9_hasOther.cls ≠ "java/lang/invoke/MethodHandle" ∧ yX9_hasOther.cls ≠ "java/lang/invoke/VarHandle" ∧ (parseMethodDescriptor yX9_hasOther.desc).map (fun d => d.parameters.length) = some 2 := by decide +kernel
theorem hd_X9_heirOf : yX9_heirOf.cls ≠ "java/lang/invoke/MethodHandle" ∧ yX9_heirOf.cls ≠ "java/lang/invoke/VarHandle" ∧ (parseMethodDescriptor yX9_heirOf.desc).map (fun d => d.parameters.length) = some 3 := by decide +kernel
theorem hd_X9_heldCopies : yX9_heldCopies.cls ≠ "java/lang/invoke/MethodHandle" ∧ yX9_heldCopies.cls ≠ "java/lang/invoke/VarHandle" ∧ (parseMethodDescriptor yX9_heldCopies.desc).map (fun d => d.parameters.length) = some 1 := by decide +kernel
theorem hd_X9_heldIn : yX9_heldIn.cls ≠ "java/lang/invoke/MethodHandle" ∧ yX9_heldIn.cls ≠ "java/lang/invoke/VarHandle" ∧ (parseMethodDescriptor yX9_heldIn.desc).map (fun d => d.parameters.length) = some 1 := by decide +kernel
theorem hd_X9_here : yX9_here.cls ≠ "java/lang/invoke/MethodHandle" ∧ yX9_here.cls ≠ "java/lang/invoke/VarHandle" ∧ (parseMethodDescriptor yX9_here.desc).map (fun d => d.parameters.length) = some 0 := by decide +kernel
theorem hd_X9_hinges : yX9_hinges.cls ≠ "java/lang/invoke/MethodHandle" ∧ yX9_hinges.cls ≠ "java/lang/invoke/VarHandle" ∧ (parseMethodDescriptor yX9_hinges.desc).map (fun d => d.parameters.length) = some 0 := by decide +kernel
theorem hd_X9_hubOf : yX9_hubOf.cls ≠ "java/lang/invoke/MethodHandle" ∧ yX9_hubOf.cls ≠ "java/lang/invoke/VarHandle" ∧ (parseMethodDescriptor yX9_hubOf.desc).map (fun d => d.parameters.length) = some 0 := by decide +kernel
theorem hd_X9_isAllWith : yX9_isAllWith.cls ≠ "java/lang/invoke/MethodHandle" ∧ yX9_isAllWith.cls ≠ "java/lang/invoke/VarHandle" ∧ (parseMethodDescriptor yX9_isAllWith.desc).map (fun d => d.parameters.length) = some 2 := by decide +kernel
theorem hd_X9_isCell : yX9_isCell.cls ≠ "java/lang/invoke/MethodHandle" ∧ yX9_isCell.cls ≠ "java/lang/invoke/VarHandle" ∧ (parseMethodDescriptor yX9_isCell.desc).map (fun d => d.parameters.length) = some 2 := by decide +kernel
theorem hd_X9_isDone : yX9_isDone.cls ≠ "java/lang/invoke/MethodHandle" ∧ yX9_isDone.cls ≠ "java/lang/invoke/VarHandle" ∧ (parseMethodDescriptor yX9_isDone.desc).map (fun d => d.parameters.length) = some 2 := by decide +kernel
theorem hd_X9_isHeld : yX9_isHeld.cls ≠ "java/lang/invoke/MethodHandle" ∧ yX9_isHeld.cls ≠ "java/lang/invoke/VarHandle" ∧ (parseMethodDescriptor yX9_isHeld.desc).map (fun d => d.parameters.length) = some 2 := by decide +kernel
theorem hd_X9_isHinge : yX9_isHinge.cls ≠ "java/lang/invoke/MethodHandle" ∧ yX9_isHinge.cls ≠ "java/lang/invoke/VarHandle" ∧ (parseMethodDescriptor yX9_isHinge.desc).map (fun d => d.parameters.length) = some 1 := by decide +kernel
theorem hd_X9_isIn : yX9_isIn.cls ≠ "java/lang/invoke/MethodHandle" ∧ yX9_isIn.cls ≠ "java/lang/invoke/VarHandle" ∧ (parseMethodDescriptor yX9_isIn.desc).map (fun d => d.parameters.length) = some 3 := by decide +kernel
theorem hd_X9_isInBox : yX9_isInBox.cls ≠ "java/lang/invoke/MethodHandle" ∧ yX9_isInBox.cls ≠ "java/lang/invoke/VarHandle" ∧ (parseMethodDescriptor yX9_isInBox.desc).map (fun d => d.parameters.length) = some 2 := by decide +kernel
theorem hd_X9_isInside : yX9_isInside.cls ≠ "java/lang/invoke/MethodHandle" ∧ yX9_isInside.cls ≠ "java/lang/invoke/VarHandle" ∧ (parseMethodDescriptor yX9_isInside.desc).map (fun d => d.parameters.length) = some 2 := by decide +kernel
theorem hd_X9_isKey : yX9_isKey.cls ≠ "java/lang/invoke/MethodHandle" ∧ yX9_isKey.cls ≠ "java/lang/invoke/VarHandle" ∧ (parseMethodDescriptor yX9_isKey.desc).map (fun d => d.parameters.length) = some 1 := by decide +kernel
theorem hd_X9_isNearer : yX9_isNearer.cls ≠ "java/lang/invoke/MethodHandle" ∧ yX9_isNearer.cls ≠ "java/lang/invoke/VarHandle" ∧ (parseMethodDescriptor yX9_isNearer.desc).map (fun d => d.parameters.length) = some 4 := by decide +kernel
theorem hd_X9_isNode : yX9_isNode.cls ≠ "java/lang/invoke/MethodHandle" ∧ yX9_isNode.cls ≠ "java/lang/invoke/VarHandle" ∧ (parseMethodDescriptor yX9_isNode.desc).map (fun d => d.parameters.length) = some 1 := by decide +kernel
theorem hd_X9_isPlace : yX9_isPlace.cls ≠ "java/lang/invoke/MethodHandle" ∧ yX9_isPlace.cls ≠ "java/lang/invoke/VarHandle" ∧ (parseMethodDescriptor yX9_isPlace.desc).map (fun d => d.parameters.length) = some 2 := by decide +kernel
theorem hd_X9_isReality : yX9_isReality.cls ≠ "java/lang/invoke/MethodHandle" ∧ yX9_isReality.cls ≠ "java/lang/invoke/VarHandle" ∧ (parseMethodDescriptor yX9_isReality.desc).map (fun d => d.parameters.length) = some 1 := by decide +kernel
theorem hd_X9_isState : yX9_isState.cls ≠ "java/lang/invoke/MethodHandle" ∧ yX9_isState.cls ≠ "java/lang/invoke/VarHandle" ∧ (parseMethodDescriptor yX9_isState.desc).map (fun d => d.parameters.length) = some 2 := by decide +kernel
theorem hd_X9_join0 : yX9_join0.cls ≠ "java/lang/invoke/MethodHandle" ∧ yX9_join0.cls ≠ "java/lang/invoke/VarHandle" ∧ (parseMethodDescriptor yX9_join0.desc).map (fun d => d.parameters.length) = some 4 := by decide +kernel
theorem hd_X9_joinText : yX9_joinText.cls ≠ "java/lang/invoke/MethodHandle" ∧ yX9_joinText.cls ≠ "java/lang/invoke/VarHandle" ∧ (parseMethodDescriptor yX9_joinText.desc).map (fun d => d.parameters.length) = some 0 := by decide +kernel
theorem hd_X9_keeperOf : yX9_keeperOf.cls ≠ "java/lang/invoke/MethodHandle" ∧ yX9_keeperOf.cls ≠ "java/lang/invoke/VarHandle" ∧ (parseMethodDescriptor yX9_keeperOf.desc).map (fun d => d.parameters.length) = some 2 := by decide +kernel
theorem hd_X9_landmark0 : yX9_landmark0.cls ≠ "java/lang/invoke/MethodHandle" ∧ yX9_landmark0.cls ≠ "java/lang/invoke/VarHandle" ∧ (parseMethodDescriptor yX9_landmark0.desc).map (fun d => d.parameters.length) = some 2 := by decide +kernel
theorem hd_X9_landmarkText : yX9_landmarkText.cls ≠ "java/lang/invoke/MethodHandle" ∧ yX9_landmarkText.cls ≠ "java/lang/invoke/VarHandle" ∧ (parseMethodDescriptor yX9_landmarkText.desc).map (fun d => d.parameters.length) = some 0 := by decide +kernel
theorem hd_X9_laysList : yX9_laysList.cls ≠ "java/lang/invoke/MethodHandle" ∧ yX9_laysList.cls ≠ "java/lang/invoke/VarHandle" ∧ (parseMethodDescriptor yX9_laysList.desc).map (fun d => d.parameters.length) = some 1 := by decide +kernel
theorem hd_X9_leastOf : yX9_leastOf.cls ≠ "java/lang/invoke/MethodHandle" ∧ yX9_leastOf.cls ≠ "java/lang/invoke/VarHandle" ∧ (parseMethodDescriptor yX9_leastOf.desc).map (fun d => d.parameters.length) = some 1 := by decide +kernel
theorem hd_X9_leave0 : yX9_leave0.cls ≠ "java/lang/invoke/MethodHandle" ∧ yX9_leave0.cls ≠ "java/lang/invoke/VarHandle" ∧ (parseMethodDescriptor yX9_leave0.desc).map (fun d => d.parameters.length) = some 1 := by decide +kernel
theorem hd_X9_lesser : yX9_lesser.cls ≠ "java/lang/invoke/MethodHandle" ∧ yX9_lesser.cls ≠ "java/lang/invoke/VarHandle" ∧ (parseMethodDescriptor yX9_lesser.desc).map (fun d => d.parameters.length) = some 2 := by decide +kernel
theorem hd_X9_loadOf : yX9_loadOf.cls ≠ "java/lang/invoke/MethodHandle" ∧ yX9_loadOf.cls ≠ "java/lang/invoke/VarHandle" ∧ (parseMethodDescriptor yX9_loadOf.desc).map (fun d => d.parameters.length) = some 2 := by decide +kernel
theorem hd_X9_lostCopies : yX9_lostCopies.cls ≠ "java/lang/invoke/MethodHandle" ∧ yX9_lostCopies.cls ≠ "java/lang/invoke/VarHandle" ∧ (parseMethodDescriptor yX9_lostCopies.desc).map (fun d => d.parameters.length) = some 0 := by decide +kernel
theorem hd_X9_manifold : yX9_manifold.cls ≠ "java/lang/invoke/MethodHandle" ∧ yX9_manifold.cls ≠ "java/lang/invoke/VarHandle" ∧ (parseMethodDescriptor yX9_manifold.desc).map (fun d => d.parameters.length) = some 0 := by decide +kernel
theorem hd_X9_meet : yX9_meet.cls ≠ "java/lang/invoke/MethodHandle" ∧ yX9_meet.cls ≠ "java/lang/invoke/VarHandle" ∧ (parseMethodDescriptor yX9_meet.desc).map (fun d => d.parameters.length) = some 4 := by decide +kernel
theorem hd_X9_members : yX9_members.cls ≠ "java/lang/invoke/MethodHandle" ∧ yX9_members.cls ≠ "java/lang/invoke/VarHandle" ∧ (parseMethodDescriptor yX9_members.desc).map (fun d => d.parameters.length) = some 1 := by decide +kernel
theorem hd_X9_mend0 : yX9_mend0.cls ≠ "java/lang/invoke/MethodHandle" ∧ yX9_mend0.cls ≠ "java/lang/invoke/VarHandle" ∧ (parseMethodDescriptor yX9_mend0.desc).map (fun d => d.parameters.length) = some 0 := by decide +kernel
theorem hd_X9_merges : yX9_merges.cls ≠ "java/lang/invoke/MethodHandle" ∧ yX9_merges.cls ≠ "java/lang/invoke/VarHandle" ∧ (parseMethodDescriptor yX9_merges.desc).map (fun d => d.parameters.length) = some 2 := by decide +kernel
theorem hd_X9_near0 : yX9_near0.cls ≠ "java/lang/invoke/MethodHandle" ∧ yX9_near0.cls ≠ "java/lang/invoke/VarHandle" ∧ (parseMethodDescriptor yX9_near0.desc).map (fun d => d.parameters.length) = some 2 := by decide +kernel
theorem hd_X9_nearestTo : yX9_nearestTo.cls ≠ "java/lang/invoke/MethodHandle" ∧ yX9_nearestTo.cls ≠ "java/lang/invoke/VarHandle" ∧ (parseMethodDescriptor yX9_nearestTo.desc).map (fun d => d.parameters.length) = some 3 := by decide +kernel
theorem hd_X9_nextToKey : yX9_nextToKey.cls ≠ "java/lang/invoke/MethodHandle" ∧ yX9_nextToKey.cls ≠ "java/lang/invoke/VarHandle" ∧ (parseMethodDescriptor yX9_nextToKey.desc).map (fun d => d.parameters.length) = some 2 := by decide +kernel
theorem hd_X9_nodeAt : yX9_nodeAt.cls ≠ "java/lang/invoke/MethodHandle" ∧ yX9_nodeAt.cls ≠ "java/lang/invoke/VarHandle" ∧ (parseMethodDescriptor yX9_nodeAt.desc).map (fun d => d.parameters.length) = some 3 := by decide +kernel
theorem hd_X9_notice0 : yX9_notice0.cls ≠ "java/lang/invoke/MethodHandle" ∧ yX9_notice0.cls ≠ "java/lang/invoke/VarHandle" ∧ (parseMethodDescriptor yX9_notice0.desc).map (fun d => d.parameters.length) = some 1 := by decide +kernel
theorem hd_X9_number : yX9_number.cls ≠ "java/lang/invoke/MethodHandle" ∧ yX9_number.cls ≠ "java/lang/invoke/VarHandle" ∧ (parseMethodDescriptor yX9_number.desc).map (fun d => d.parameters.length) = some 2 := by decide +kernel
theorem hd_X9_orderOf : yX9_orderOf.cls ≠ "java/lang/invoke/MethodHandle" ∧ yX9_orderOf.cls ≠ "java/lang/invoke/VarHandle" ∧ (parseMethodDescriptor yX9_orderOf.desc).map (fun d => d.parameters.length) = some 2 := by decide +kernel
theorem hd_X9_ordersOf : yX9_ordersOf.cls ≠ "java/lang/invoke/MethodHandle" ∧ yX9_ordersOf.cls ≠ "java/lang/invoke/VarHandle" ∧ (parseMethodDescriptor yX9_ordersOf.desc).map (fun d => d.parameters.length) = some 0 := by decide +kernel
theorem hd_X9_ownerOf : yX9_ownerOf.cls ≠ "java/lang/invoke/MethodHandle" ∧ yX9_ownerOf.cls ≠ "java/lang/invoke/VarHandle" ∧ (parseMethodDescriptor yX9_ownerOf.desc).map (fun d => d.parameters.length) = some 2 := by decide +kernel
theorem hd_X9_owns : yX9_owns.cls ≠ "java/lang/invoke/MethodHandle" ∧ yX9_owns.cls ≠ "java/lang/invoke/VarHandle" ∧ (parseMethodDescriptor yX9_owns.desc).map (fun d => d.parameters.length) = some 3 := by decide +kernel
theorem hd_X9_parts : yX9_parts.cls ≠ "java/lang/invoke/MethodHandle" ∧ yX9_parts.cls ≠ "java/lang/invoke/VarHandle" ∧ (parseMethodDescriptor yX9_parts.desc).map (fun d => d.parameters.length) = some 3 := by decide +kernel
theorem hd_X9_placeInList : yX9_placeInList.cls ≠ "java/lang/invoke/MethodHandle" ∧ yX9_placeInList.cls ≠ "java/lang/invoke/VarHandle" ∧ (parseMethodDescriptor yX9_placeInList.desc).map (fun d => d.parameters.length) = some 1 := by decide +kernel
theorem hd_X9_placesApart : yX9_placesApart.cls ≠ "java/lang/invoke/MethodHandle" ∧ yX9_placesApart.cls ≠ "java/lang/invoke/VarHandle" ∧ (parseMethodDescriptor yX9_placesApart.desc).map (fun d => d.parameters.length) = some 2 := by decide +kernel
theorem hd_X9_pointOf : yX9_pointOf.cls ≠ "java/lang/invoke/MethodHandle" ∧ yX9_pointOf.cls ≠ "java/lang/invoke/VarHandle" ∧ (parseMethodDescriptor yX9_pointOf.desc).map (fun d => d.parameters.length) = some 2 := by decide +kernel
theorem hd_X9_pointX : yX9_pointX.cls ≠ "java/lang/invoke/MethodHandle" ∧ yX9_pointX.cls ≠ "java/lang/invoke/VarHandle" ∧ (parseMethodDescriptor yX9_pointX.desc).map (fun d => d.parameters.length) = some 2 := by decide +kernel
theorem hd_X9_pointY : yX9_pointY.cls ≠ "java/lang/invoke/MethodHandle" ∧ yX9_pointY.cls ≠ "java/lang/invoke/VarHandle" ∧ (parseMethodDescriptor yX9_pointY.desc).map (fun d => d.parameters.length) = some 2 := by decide +kernel
theorem hd_X9_put0 : yX9_put0.cls ≠ "java/lang/invoke/MethodHandle" ∧ yX9_put0.cls ≠ "java/lang/invoke/VarHandle" ∧ (parseMethodDescriptor yX9_put0.desc).map (fun d => d.parameters.length) = some 2 := by decide +kernel
theorem hd_X9_putText : yX9_putText.cls ≠ "java/lang/invoke/MethodHandle" ∧ yX9_putText.cls ≠ "java/lang/invoke/VarHandle" ∧ (parseMethodDescriptor yX9_putText.desc).map (fun d => d.parameters.length) = some 0 := by decide +kernel
theorem hd_X9_putsAside : yX9_putsAside.cls ≠ "java/lang/invoke/MethodHandle" ∧ yX9_putsAside.cls ≠ "java/lang/invoke/VarHandle" ∧ (parseMethodDescriptor yX9_putsAside.desc).map (fun d => d.parameters.length) = some 0 := by decide +kernel
theorem hd_X9_remembers : yX9_remembers.cls ≠ "java/lang/invoke/MethodHandle" ∧ yX9_remembers.cls ≠ "java/lang/invoke/VarHandle" ∧ (parseMethodDescriptor yX9_remembers.desc).map (fun d => d.parameters.length) = some 0 := by decide +kernel
theorem hd_X9_safeKeys : yX9_safeKeys.cls ≠ "java/lang/invoke/MethodHandle" ∧ yX9_safeKeys.cls ≠ "java/lang/invoke/VarHandle" ∧ (parseMethodDescriptor yX9_safeKeys.desc).map (fun d => d.parameters.length) = some 0 := by decide +kernel
theorem hd_X9_seeks : yX9_seeks.cls ≠ "java/lang/invoke/MethodHandle" ∧ yX9_seeks.cls ≠ "java/lang/invoke/VarHandle" ∧ (parseMethodDescriptor yX9_seeks.desc).map (fun d => d.parameters.length) = some 2 := by decide +kernel
theorem hd_X9_spot : yX9_spot.cls ≠ "java/lang/invoke/MethodHandle" ∧ yX9_spot.cls ≠ "java/lang/invoke/VarHandle" ∧ (parseMethodDescriptor yX9_spot.desc).map (fun d => d.parameters.length) = some 0 := by decide +kernel
theorem hd_X9_storedKeys : yX9_storedKeys.cls ≠ "java/lang/invoke/MethodHandle" ∧ yX9_storedKeys.cls ≠ "java/lang/invoke/VarHandle" ∧ (parseMethodDescriptor yX9_storedKeys.desc).map (fun d => d.parameters.length) = some 0 := by decide +kernel
theorem hd_X9_strayOf : yX9_strayOf.cls ≠ "java/lang/invoke/MethodHandle" ∧ yX9_strayOf.cls ≠ "java/lang/invoke/VarHandle" ∧ (parseMethodDescriptor yX9_strayOf.desc).map (fun d => d.parameters.length) = some 1 := by decide +kernel
theorem hd_X9_strays : yX9_strays.cls ≠ "java/lang/invoke/MethodHandle" ∧ yX9_strays.cls ≠ "java/lang/invoke/VarHandle" ∧ (parseMethodDescriptor yX9_strays.desc).map (fun d => d.parameters.length) = some 0 := by decide +kernel
theorem hd_X9_stretch : yX9_stretch.cls ≠ "java/lang/invoke/MethodHandle" ∧ yX9_stretch.cls ≠ "java/lang/invoke/VarHandle" ∧ (parseMethodDescriptor yX9_stretch.desc).map (fun d => d.parameters.length) = some 1 := by decide +kernel
theorem hd_X9_tidies : yX9_tidies.cls ≠ "java/lang/invoke/MethodHandle" ∧ yX9_tidies.cls ≠ "java/lang/invoke/VarHandle" ∧ (parseMethodDescriptor yX9_tidies.desc).map (fun d => d.parameters.length) = some 1 := by decide +kernel
theorem hd_X9_tidy0 : yX9_tidy0.cls ≠ "java/lang/invoke/MethodHandle" ∧ yX9_tidy0.cls ≠ "java/lang/invoke/VarHandle" ∧ (parseMethodDescriptor yX9_tidy0.desc).map (fun d => d.parameters.length) = some 0 := by decide +kernel
theorem hd_X9_touch : yX9_touch.cls ≠ "java/lang/invoke/MethodHandle" ∧ yX9_touch.cls ≠ "java/lang/invoke/VarHandle" ∧ (parseMethodDescriptor yX9_touch.desc).map (fun d => d.parameters.length) = some 4 := by decide +kernel
theorem hd_X9_turned : yX9_turned.cls ≠ "java/lang/invoke/MethodHandle" ∧ yX9_turned.cls ≠ "java/lang/invoke/VarHandle" ∧ (parseMethodDescriptor yX9_turned.desc).map (fun d => d.parameters.length) = some 2 := by decide +kernel
theorem hd_X9_twinsIn : yX9_twinsIn.cls ≠ "java/lang/invoke/MethodHandle" ∧ yX9_twinsIn.cls ≠ "java/lang/invoke/VarHandle" ∧ (parseMethodDescriptor yX9_twinsIn.desc).map (fun d => d.parameters.length) = some 2 := by decide +kernel
theorem hd_X9_volumeOf : yX9_volumeOf.cls ≠ "java/lang/invoke/MethodHandle" ∧ yX9_volumeOf.cls ≠ "java/lang/invoke/VarHandle" ∧ (parseMethodDescriptor yX9_volumeOf.desc).map (fun d => d.parameters.length) = some 1 := by decide +kernel
theorem hd_X9_wrong : yX9_wrong.cls ≠ "java/lang/invoke/MethodHandle" ∧ yX9_wrong.cls ≠ "java/lang/invoke/VarHandle" ∧ (parseMethodDescriptor yX9_wrong.desc).map (fun d => d.parameters.length) = some 1 := by decide +kernel
theorem hd_X9_zoneAt : yX9_zoneAt.cls ≠ "java/lang/invoke/MethodHandle" ∧ yX9_zoneAt.cls ≠ "java/lang/invoke/VarHandle" ∧ (parseMethodDescriptor yX9_zoneAt.desc).map (fun d => d.parameters.length) = some 3 := by decide +kernel
theorem hd_X9_zoneOf : yX9_zoneOf.cls ≠ "java/lang/invoke/MethodHandle" ∧ yX9_zoneOf.cls ≠ "java/lang/invoke/VarHandle" ∧ (parseMethodDescriptor yX9_zoneOf.desc).map (fun d => d.parameters.length) = some 3 := by decide +kernel
theorem hd_X9_zonesOf : yX9_zonesOf.cls ≠ "java/lang/invoke/MethodHandle" ∧ yX9_zonesOf.cls ≠ "java/lang/invoke/VarHandle" ∧ (parseMethodDescriptor yX9_zonesOf.desc).map (fun d => d.parameters.length) = some 1 := by decide +kernel
def wc_0 : List Cond := [Cond.constant RJ6 265 (nI 1431655765), Cond.constant RJ6 266 (nI 858993459), Cond.constant RJ6 267 (nI 252645135), Cond.constant RX9 233 (nI 46774), Cond.constant RX9 385 (nI 1000000), Cond.fieldLink RX0 9 RX0 (TX0 0).2.1 (TX0 0).2.2.1, Cond.fieldLink RX0 15 RX0 (TX0 1).2.1 (TX0 1).2.2.1, Cond.fieldLink RX1 11 RX1 (TX1 0).2.1 (TX1 0).2.2.1, Cond.fieldLink RX1 17 RX1 (TX1 1).2.1 (TX1 1).2.2.1, Cond.fieldLink RX1 21 RX1 (TX1 2).2.1 (TX1 2).2.2.1, Cond.fieldLink RX1 24 RX1 (TX1 3).2.1 (TX1 3).2.2.1, Cond.fieldLink RX1 27 RX1 (TX1 4).2.1 (TX1 4).2.2.1, Cond.fieldLink RX1 30 RX1 (TX1 5).2.1 (TX1 5).2.2.1, Cond.fieldLink RX1 33 RX1 (TX1 6).2.1 (TX1 6).2.2.1, Cond.fieldLink RX1 36 RX1 (TX1 7).2.1 (TX1 7).2.2.1, Cond.fieldLink RX1 39 RX1 (TX1 8).2.1 (TX1 8).2.2.1, Cond.fieldLink RX1 43 RX1 (TX1 9).2.1 (TX1 9).2.2.1, Cond.fieldLink RX1 63 RX0 (TX0 0).2.1 (TX0 0).2.2.1, Cond.fieldLink RX1 68 RX0 (TX0 1).2.1 (TX0 1).2.2.1, Cond.fieldLink RX2 11 RX2 (TX2 0).2.1 (TX2 0).2.2.1, Cond.fieldLink RX2 17 RX2 (TX2 1).2.1 (TX2 1).2.2.1, Cond.fieldLink RX2 21 RX2 (TX2 2).2.1 (TX2 2).2.2.1, Cond.fieldLink RX3 9 RX3 (TX3 1).2.1 (TX3 1).2.2.1, Cond.fieldLink RX3 15 RX3 (TX3 2).2.1 (TX3 2).2.2.1, Cond.fieldLink RX3 18 RX3 (TX3 3).2.1 (TX3 3).2.2.1, Cond.fieldLink RX3 21 RX3 (TX3 4).2.1 (TX3 4).2.2.1, Cond.fieldLink RX3 25 RX3 (TX3 0).2.1 (TX3 0).2.2.1, Cond.fieldLink RX3 32 RX6 (TX6 1).2.1 (TX6 1).2.2.1, Cond.fieldLink RX3 78 RX0 (TX0 1).2.1 (TX0 1).2.2.1, Cond.fieldLink RX3 95 RX6 (TX6 0).2.1 (TX6 0).2.2.1, Cond.fieldLink RX3 99 RX0 (TX0 0).2.1 (TX0 0).2.2.1, Cond.fieldLink RX4 9 RX4 (TX4 0).2.1 (TX4 0).2.2.1, Cond.fieldLink RX4 15 RX4 (TX4 1).2.1 (TX4 1).2.2.1, Cond.fieldLink RX4 18 RX4 (TX4 2).2.1 (TX4 2).2.2.1, Cond.fieldLink RX5 9 RX5 (TX5 1).2.1 (TX5 1).2.2.1, Cond.fieldLink RX5 15 RX5 (TX5 2).2.1 (TX5 2).2.2.1, Cond.fieldLink RX5 18 RX5 (TX5 3).2.1 (TX5 3).2.2.1, Cond.fieldLink RX5 21 RX5 (TX5 4).2.1 (TX5 4).2.2.1, Cond.fieldLink RX5 24 RX5 (TX5 0).2.1 (TX5 0).2.2.1, Cond.fieldLink RX5 62 RX7 (TX7 4).2.1 (TX7 4).2.2.1]
theorem wi_0 : ∀ w ∈ wc_0, w ∈ TBL := tb_ch _ [648, 649, 650, 1643, 1749, 207, 210, 255, 257, 259, 261, 263, 264, 265, 267, 269, 271, 208, 211, 294, 295, 296, 183, 185, 187, 188, 182, 169, 212, 166, 209, 239, 241, 243, 337, 339, 341, 343, 336, 318] (by decide +kernel) (by decide +kernel)
theorem lk_J6_265 : Cond.constant RJ6 265 (nI 1431655765) ∈ TBL := wi_0 _ (List.mem_of_getElem? (i := 0) rfl)
theorem lk_J6_266 : Cond.constant RJ6 266 (nI 858993459) ∈ TBL := wi_0 _ (List.mem_of_getElem? (i := 1) rfl)
theorem lk_J6_267 : Cond.constant RJ6 267 (nI 252645135) ∈ TBL := wi_0 _ (List.mem_of_getElem? (i := 2) rfl)
theorem lk_X9_233 : Cond.constant RX9 233 (nI 46774) ∈ TBL := wi_0 _ (List.mem_of_getElem? (i := 3) rfl)
theorem lk_X9_385 : Cond.constant RX9 385 (nI 1000000) ∈ TBL := wi_0 _ (List.mem_of_getElem? (i := 4) rfl)
theorem lf_X0_9 : Cond.fieldLink RX0 9 RX0 (TX0 0).2.1 (TX0 0).2.2.1 ∈ TBL := wi_0 _ (List.mem_of_getElem? (i := 5) rfl)
theorem lf_X0_15 : Cond.fieldLink RX0 15 RX0 (TX0 1).2.1 (TX0 1).2.2.1 ∈ TBL := wi_0 _ (List.mem_of_getElem? (i := 6) rfl)
theorem lf_X1_11 : Cond.fieldLink RX1 11 RX1 (TX1 0).2.1 (TX1 0).2.2.1 ∈ TBL := wi_0 _ (List.mem_of_getElem? (i := 7) rfl)
theorem lf_X1_17 : Cond.fieldLink RX1 17 RX1 (TX1 1).2.1 (TX1 1).2.2.1 ∈ TBL := wi_0 _ (List.mem_of_getElem? (i := 8) rfl)
theorem lf_X1_21 : Cond.fieldLink RX1 21 RX1 (TX1 2).2.1 (TX1 2).2.2.1 ∈ TBL := wi_0 _ (List.mem_of_getElem? (i := 9) rfl)
theorem lf_X1_24 : Cond.fieldLink RX1 24 RX1 (TX1 3).2.1 (TX1 3).2.2.1 ∈ TBL := wi_0 _ (List.mem_of_getElem? (i := 10) rfl)
theorem lf_X1_27 : Cond.fieldLink RX1 27 RX1 (TX1 4).2.1 (TX1 4).2.2.1 ∈ TBL := wi_0 _ (List.mem_of_getElem? (i := 11) rfl)
theorem lf_X1_30 : Cond.fieldLink RX1 30 RX1 (TX1 5).2.1 (TX1 5).2.2.1 ∈ TBL := wi_0 _ (List.mem_of_getElem? (i := 12) rfl)
theorem lf_X1_33 : Cond.fieldLink RX1 33 RX1 (TX1 6).2.1 (TX1 6).2.2.1 ∈ TBL := wi_0 _ (List.mem_of_getElem? (i := 13) rfl)
theorem lf_X1_36 : Cond.fieldLink RX1 36 RX1 (TX1 7).2.1 (TX1 7).2.2.1 ∈ TBL := wi_0 _ (List.mem_of_getElem? (i := 14) rfl)
theorem lf_X1_39 : Cond.fieldLink RX1 39 RX1 (TX1 8).2.1 (TX1 8).2.2.1 ∈ TBL := wi_0 _ (List.mem_of_getElem? (i := 15) rfl)
theorem lf_X1_43 : Cond.fieldLink RX1 43 RX1 (TX1 9).2.1 (TX1 9).2.2.1 ∈ TBL := wi_0 _ (List.mem_of_getElem? (i := 16) rfl)
theorem lf_X1_63 : Cond.fieldLink RX1 63 RX0 (TX0 0).2.1 (TX0 0).2.2.1 ∈ TBL := wi_0 _ (List.mem_of_getElem? (i := 17) rfl)
theorem lf_X1_68 : Cond.fieldLink RX1 68 RX0 (TX0 1).2.1 (TX0 1).2.2.1 ∈ TBL := wi_0 _ (List.mem_of_getElem? (i := 18) rfl)
theorem lf_X2_11 : Cond.fieldLink RX2 11 RX2 (TX2 0).2.1 (TX2 0).2.2.1 ∈ TBL := wi_0 _ (List.mem_of_getElem? (i := 19) rfl)
theorem lf_X2_17 : Cond.fieldLink RX2 17 RX2 (TX2 1).2.1 (TX2 1).2.2.1 ∈ TBL := wi_0 _ (List.mem_of_getElem? (i := 20) rfl)
theorem lf_X2_21 : Cond.fieldLink RX2 21 RX2 (TX2 2).2.1 (TX2 2).2.2.1 ∈ TBL := wi_0 _ (List.mem_of_getElem? (i := 21) rfl)
theorem lf_X3_9 : Cond.fieldLink RX3 9 RX3 (TX3 1).2.1 (TX3 1).2.2.1 ∈ TBL := wi_0 _ (List.mem_of_getElem? (i := 22) rfl)
theorem lf_X3_15 : Cond.fieldLink RX3 15 RX3 (TX3 2).2.1 (TX3 2).2.2.1 ∈ TBL := wi_0 _ (List.mem_of_getElem? (i := 23) rfl)
theorem lf_X3_18 : Cond.fieldLink RX3 18 RX3 (TX3 3).2.1 (TX3 3).2.2.1 ∈ TBL := wi_0 _ (List.mem_of_getElem? (i := 24) rfl)
theorem lf_X3_21 : Cond.fieldLink RX3 21 RX3 (TX3 4).2.1 (TX3 4).2.2.1 ∈ TBL := wi_0 _ (List.mem_of_getElem? (i := 25) rfl)
theorem lf_X3_25 : Cond.fieldLink RX3 25 RX3 (TX3 0).2.1 (TX3 0).2.2.1 ∈ TBL := wi_0 _ (List.mem_of_getElem? (i := 26) rfl)
theorem lf_X3_32 : Cond.fieldLink RX3 32 RX6 (TX6 1).2.1 (TX6 1).2.2.1 ∈ TBL := wi_0 _ (List.mem_of_getElem? (i := 27) rfl)
theorem lf_X3_78 : Cond.fieldLink RX3 78 RX0 (TX0 1).2.1 (TX0 1).2.2.1 ∈ TBL := wi_0 _ (List.mem_of_getElem? (i := 28) rfl)
theorem lf_X3_95 : Cond.fieldLink RX3 95 RX6 (TX6 0).2.1 (TX6 0).2.2.1 ∈ TBL := wi_0 _ (List.mem_of_getElem? (i := 29) rfl)
theorem lf_X3_99 : Cond.fieldLink RX3 99 RX0 (TX0 0).2.1 (TX0 0).2.2.1 ∈ TBL := wi_0 _ (List.mem_of_getElem? (i := 30) rfl)
theorem lf_X4_9 : Cond.fieldLink RX4 9 RX4 (TX4 0).2.1 (TX4 0).2.2.1 ∈ TBL := wi_0 _ (List.mem_of_getElem? (i := 31) rfl)
theorem lf_X4_15 : Cond.fieldLink RX4 15 RX4 (TX4 1).2.1 (TX4 1).2.2.1 ∈ TBL := wi_0 _ (List.mem_of_getElem? (i := 32) rfl)
theorem lf_X4_18 : Cond.fieldLink RX4 18 RX4 (TX4 2).2.1 (TX4 2).2.2.1 ∈ TBL := wi_0 _ (List.mem_of_getElem? (i := 33) rfl)
theorem lf_X5_9 : Cond.fieldLink RX5 9 RX5 (TX5 1).2.1 (TX5 1).2.2.1 ∈ TBL := wi_0 _ (List.mem_of_getElem? (i := 34) rfl)
theorem lf_X5_15 : Cond.fieldLink RX5 15 RX5 (TX5 2).2.1 (TX5 2).2.2.1 ∈ TBL := wi_0 _ (List.mem_of_getElem? (i := 35) rfl)
theorem lf_X5_18 : Cond.fieldLink RX5 18 RX5 (TX5 3).2.1 (TX5 3).2.2.1 ∈ TBL := wi_0 _ (List.mem_of_getElem? (i := 36) rfl)
theorem lf_X5_21 : Cond.fieldLink RX5 21 RX5 (TX5 4).2.1 (TX5 4).2.2.1 ∈ TBL := wi_0 _ (List.mem_of_getElem? (i := 37) rfl)
theorem lf_X5_24 : Cond.fieldLink RX5 24 RX5 (TX5 0).2.1 (TX5 0).2.2.1 ∈ TBL := wi_0 _ (List.mem_of_getElem? (i := 38) rfl)
theorem lf_X5_62 : Cond.fieldLink RX5 62 RX7 (TX7 4).2.1 (TX7 4).2.2.1 ∈ TBL := wi_0 _ (List.mem_of_getElem? (i := 39) rfl)
def wc_1 : List Cond := [Cond.fieldLink RX5 66 RX7 (TX7 3).2.1 (TX7 3).2.2.1, Cond.fieldLink RX6 9 RX6 (TX6 0).2.1 (TX6 0).2.2.1, Cond.fieldLink RX6 15 RX6 (TX6 1).2.1 (TX6 1).2.2.1, Cond.fieldLink RX7 9 RX7 (TX7 0).2.1 (TX7 0).2.2.1, Cond.fieldLink RX7 15 RX7 (TX7 1).2.1 (TX7 1).2.2.1, Cond.fieldLink RX7 18 RX7 (TX7 2).2.1 (TX7 2).2.2.1, Cond.fieldLink RX7 21 RX7 (TX7 3).2.1 (TX7 3).2.2.1, Cond.fieldLink RX7 25 RX7 (TX7 4).2.1 (TX7 4).2.2.1, Cond.fieldLink RX7 35 RX4 (TX4 0).2.1 (TX4 0).2.2.1, Cond.fieldLink RX8 12 RX8 (TX8 0).2.1 (TX8 0).2.2.1, Cond.fieldLink RX8 21 RX8 (TX8 1).2.1 (TX8 1).2.2.1, Cond.fieldLink RX8 28 RX8 (TX8 2).2.1 (TX8 2).2.2.1, Cond.fieldLink RX8 35 RX8 (TX8 3).2.1 (TX8 3).2.2.1, Cond.fieldLink RX8 42 RX8 (TX8 4).2.1 (TX8 4).2.2.1, Cond.fieldLink RX8 51 RX8 (TX8 5).2.1 (TX8 5).2.2.1, Cond.fieldLink RX8 58 RX8 (TX8 6).2.1 (TX8 6).2.2.1, Cond.fieldLink RX8 62 RX8 (TX8 7).2.1 (TX8 7).2.2.1, Cond.fieldLink RX8 66 RX8 (TX8 8).2.1 (TX8 8).2.2.1, Cond.fieldLink RX8 69 RX8 (TX8 9).2.1 (TX8 9).2.2.1, Cond.fieldLink RX8 72 RX8 (TX8 10).2.1 (TX8 10).2.2.1, Cond.fieldLink RX8 76 RX8 (TX8 11).2.1 (TX8 11).2.2.1, Cond.fieldLink RX8 79 RX6 (TX6 1).2.1 (TX6 1).2.2.1, Cond.fieldLink RX8 104 RX3 (TX3 2).2.1 (TX3 2).2.2.1, Cond.fieldLink RX8 117 RX3 (TX3 4).2.1 (TX3 4).2.2.1, Cond.fieldLink RX8 120 RX3 (TX3 1).2.1 (TX3 1).2.2.1, Cond.fieldLink RX8 166 RX2 (TX2 2).2.1 (TX2 2).2.2.1, Cond.fieldLink RX8 174 RX1 (TX1 1).2.1 (TX1 1).2.2.1, Cond.fieldLink RX8 178 RX1 (TX1 2).2.1 (TX1 2).2.2.1, Cond.fieldLink RX8 181 RX1 (TX1 3).2.1 (TX1 3).2.2.1, Cond.fieldLink RX8 187 RX1 (TX1 0).2.1 (TX1 0).2.2.1, Cond.fieldLink RX8 191 RX4 (TX4 2).2.1 (TX4 2).2.2.1, Cond.fieldLink RX8 196 RX4 (TX4 1).2.1 (TX4 1).2.2.1, Cond.fieldLink RX8 249 RX1 (TX1 6).2.1 (TX1 6).2.2.1, Cond.fieldLink RX8 252 RX1 (TX1 7).2.1 (TX1 7).2.2.1, Cond.fieldLink RX8 279 RX1 (TX1 9).2.1 (TX1 9).2.2.1, Cond.fieldLink RX8 298 RX7 (TX7 3).2.1 (TX7 3).2.2.1, Cond.fieldLink RX8 317 RX5 (TX5 3).2.1 (TX5 3).2.2.1, Cond.fieldLink RX8 334 RX5 (TX5 4).2.1 (TX5 4).2.2.1, Cond.fieldLink RX8 337 RX5 (TX5 1).2.1 (TX5 1).2.2.1, Cond.fieldLink RX8 340 RX5 (TX5 2).2.1 (TX5 2).2.2.1]
theorem wi_1 : ∀ w ∈ wc_1, w ∈ TBL := tb_ch _ [315, 165, 167, 311, 312, 313, 314, 317, 240, 358, 359, 360, 361, 362, 363, 364, 365, 366, 367, 368, 369, 168, 186, 189, 184, 297, 258, 260, 262, 256, 244, 242, 266, 268, 272, 316, 342, 344, 338, 340] (by decide +kernel) (by decide +kernel)
theorem lf_X5_66 : Cond.fieldLink RX5 66 RX7 (TX7 3).2.1 (TX7 3).2.2.1 ∈ TBL := wi_1 _ (List.mem_of_getElem? (i := 0) rfl)
theorem lf_X6_9 : Cond.fieldLink RX6 9 RX6 (TX6 0).2.1 (TX6 0).2.2.1 ∈ TBL := wi_1 _ (List.mem_of_getElem? (i := 1) rfl)
theorem lf_X6_15 : Cond.fieldLink RX6 15 RX6 (TX6 1).2.1 (TX6 1).2.2.1 ∈ TBL := wi_1 _ (List.mem_of_getElem? (i := 2) rfl)
theorem lf_X7_9 : Cond.fieldLink RX7 9 RX7 (TX7 0).2.1 (TX7 0).2.2.1 ∈ TBL := wi_1 _ (List.mem_of_getElem? (i := 3) rfl)
theorem lf_X7_15 : Cond.fieldLink RX7 15 RX7 (TX7 1).2.1 (TX7 1).2.2.1 ∈ TBL := wi_1 _ (List.mem_of_getElem? (i := 4) rfl)
theorem lf_X7_18 : Cond.fieldLink RX7 18 RX7 (TX7 2).2.1 (TX7 2).2.2.1 ∈ TBL := wi_1 _ (List.mem_of_getElem? (i := 5) rfl)
theorem lf_X7_21 : Cond.fieldLink RX7 21 RX7 (TX7 3).2.1 (TX7 3).2.2.1 ∈ TBL := wi_1 _ (List.mem_of_getElem? (i := 6) rfl)
theorem lf_X7_25 : Cond.fieldLink RX7 25 RX7 (TX7 4).2.1 (TX7 4).2.2.1 ∈ TBL := wi_1 _ (List.mem_of_getElem? (i := 7) rfl)
theorem lf_X7_35 : Cond.fieldLink RX7 35 RX4 (TX4 0).2.1 (TX4 0).2.2.1 ∈ TBL := wi_1 _ (List.mem_of_getElem? (i := 8) rfl)
theorem lf_X8_12 : Cond.fieldLink RX8 12 RX8 (TX8 0).2.1 (TX8 0).2.2.1 ∈ TBL := wi_1 _ (List.mem_of_getElem? (i := 9) rfl)
theorem lf_X8_21 : Cond.fieldLink RX8 21 RX8 (TX8 1).2.1 (TX8 1).2.2.1 ∈ TBL := wi_1 _ (List.mem_of_getElem? (i := 10) rfl)
theorem lf_X8_28 : Cond.fieldLink RX8 28 RX8 (TX8 2).2.1 (TX8 2).2.2.1 ∈ TBL := wi_1 _ (List.mem_of_getElem? (i := 11) rfl)
theorem lf_X8_35 : Cond.fieldLink RX8 35 RX8 (TX8 3).2.1 (TX8 3).2.2.1 ∈ TBL := wi_1 _ (List.mem_of_getElem? (i := 12) rfl)
theorem lf_X8_42 : Cond.fieldLink RX8 42 RX8 (TX8 4).2.1 (TX8 4).2.2.1 ∈ TBL := wi_1 _ (List.mem_of_getElem? (i := 13) rfl)
theorem lf_X8_51 : Cond.fieldLink RX8 51 RX8 (TX8 5).2.1 (TX8 5).2.2.1 ∈ TBL := wi_1 _ (List.mem_of_getElem? (i := 14) rfl)
theorem lf_X8_58 : Cond.fieldLink RX8 58 RX8 (TX8 6).2.1 (TX8 6).2.2.1 ∈ TBL := wi_1 _ (List.mem_of_getElem? (i := 15) rfl)
theorem lf_X8_62 : Cond.fieldLink RX8 62 RX8 (TX8 7).2.1 (TX8 7).2.2.1 ∈ TBL := wi_1 _ (List.mem_of_getElem? (i := 16) rfl)
theorem lf_X8_66 : Cond.fieldLink RX8 66 RX8 (TX8 8).2.1 (TX8 8).2.2.1 ∈ TBL := wi_1 _ (List.mem_of_getElem? (i := 17) rfl)
theorem lf_X8_69 : Cond.fieldLink RX8 69 RX8 (TX8 9).2.1 (TX8 9).2.2.1 ∈ TBL := wi_1 _ (List.mem_of_getElem? (i := 18) rfl)
theorem lf_X8_72 : Cond.fieldLink RX8 72 RX8 (TX8 10).2.1 (TX8 10).2.2.1 ∈ TBL := wi_1 _ (List.mem_of_getElem? (i := 19) rfl)
theorem lf_X8_76 : Cond.fieldLink RX8 76 RX8 (TX8 11).2.1 (TX8 11).2.2.1 ∈ TBL := wi_1 _ (List.mem_of_getElem? (i := 20) rfl)
theorem lf_X8_79 : Cond.fieldLink RX8 79 RX6 (TX6 1).2.1 (TX6 1).2.2.1 ∈ TBL := wi_1 _ (List.mem_of_getElem? (i := 21) rfl)
theorem lf_X8_104 : Cond.fieldLink RX8 104 RX3 (TX3 2).2.1 (TX3 2).2.2.1 ∈ TBL := wi_1 _ (List.mem_of_getElem? (i := 22) rfl)
theorem lf_X8_117 : Cond.fieldLink RX8 117 RX3 (TX3 4).2.1 (TX3 4).2.2.1 ∈ TBL := wi_1 _ (List.mem_of_getElem? (i := 23) rfl)
theorem lf_X8_120 : Cond.fieldLink RX8 120 RX3 (TX3 1).2.1 (TX3 1).2.2.1 ∈ TBL := wi_1 _ (List.mem_of_getElem? (i := 24) rfl)
theorem lf_X8_166 : Cond.fieldLink RX8 166 RX2 (TX2 2).2.1 (TX2 2).2.2.1 ∈ TBL := wi_1 _ (List.mem_of_getElem? (i := 25) rfl)
theorem lf_X8_174 : Cond.fieldLink RX8 174 RX1 (TX1 1).2.1 (TX1 1).2.2.1 ∈ TBL := wi_1 _ (List.mem_of_getElem? (i := 26) rfl)
theorem lf_X8_178 : Cond.fieldLink RX8 178 RX1 (TX1 2).2.1 (TX1 2).2.2.1 ∈ TBL := wi_1 _ (List.mem_of_getElem? (i := 27) rfl)
theorem lf_X8_181 : Cond.fieldLink RX8 181 RX1 (TX1 3).2.1 (TX1 3).2.2.1 ∈ TBL := wi_1 _ (List.mem_of_getElem? (i := 28) rfl)
theorem lf_X8_187 : Cond.fieldLink RX8 187 RX1 (TX1 0).2.1 (TX1 0).2.2.1 ∈ TBL := wi_1 _ (List.mem_of_getElem? (i := 29) rfl)
theorem lf_X8_191 : Cond.fieldLink RX8 191 RX4 (TX4 2).2.1 (TX4 2).2.2.1 ∈ TBL := wi_1 _ (List.mem_of_getElem? (i := 30) rfl)
theorem lf_X8_196 : Cond.fieldLink RX8 196 RX4 (TX4 1).2.1 (TX4 1).2.2.1 ∈ TBL := wi_1 _ (List.mem_of_getElem? (i := 31) rfl)
theorem lf_X8_249 : Cond.fieldLink RX8 249 RX1 (TX1 6).2.1 (TX1 6).2.2.1 ∈ TBL := wi_1 _ (List.mem_of_getElem? (i := 32) rfl)
theorem lf_X8_252 : Cond.fieldLink RX8 252 RX1 (TX1 7).2.1 (TX1 7).2.2.1 ∈ TBL := wi_1 _ (List.mem_of_getElem? (i := 33) rfl)
theorem lf_X8_279 : Cond.fieldLink RX8 279 RX1 (TX1 9).2.1 (TX1 9).2.2.1 ∈ TBL := wi_1 _ (List.mem_of_getElem? (i := 34) rfl)
theorem lf_X8_298 : Cond.fieldLink RX8 298 RX7 (TX7 3).2.1 (TX7 3).2.2.1 ∈ TBL := wi_1 _ (List.mem_of_getElem? (i := 35) rfl)
theorem lf_X8_317 : Cond.fieldLink RX8 317 RX5 (TX5 3).2.1 (TX5 3).2.2.1 ∈ TBL := wi_1 _ (List.mem_of_getElem? (i := 36) rfl)
theorem lf_X8_334 : Cond.fieldLink RX8 334 RX5 (TX5 4).2.1 (TX5 4).2.2.1 ∈ TBL := wi_1 _ (List.mem_of_getElem? (i := 37) rfl)
theorem lf_X8_337 : Cond.fieldLink RX8 337 RX5 (TX5 1).2.1 (TX5 1).2.2.1 ∈ TBL := wi_1 _ (List.mem_of_getElem? (i := 38) rfl)
theorem lf_X8_340 : Cond.fieldLink RX8 340 RX5 (TX5 2).2.1 (TX5 2).2.2.1 ∈ TBL := wi_1 _ (List.mem_of_getElem? (i := 39) rfl)
def wc_2 : List Cond := [Cond.fieldLink RX8 343 RX1 (TX1 8).2.1 (TX1 8).2.2.1, Cond.fieldLink RX9 7 RX9 (TX9 1).2.1 (TX9 1).2.2.1, Cond.fieldLink RX9 13 RX9 (TX9 2).2.1 (TX9 2).2.2.1, Cond.fieldLink RX9 16 RX9 (TX9 3).2.1 (TX9 3).2.2.1, Cond.fieldLink RX9 20 RX9 (TX9 4).2.1 (TX9 4).2.2.1, Cond.fieldLink RX9 23 RX9 (TX9 8).2.1 (TX9 8).2.2.1, Cond.fieldLink RX9 26 RX9 (TX9 12).2.1 (TX9 12).2.2.1, Cond.fieldLink RX9 30 RX9 (TX9 17).2.1 (TX9 17).2.2.1, Cond.fieldLink RX9 33 RX9 (TX9 18).2.1 (TX9 18).2.2.1, Cond.fieldLink RX9 36 RX9 (TX9 19).2.1 (TX9 19).2.2.1, Cond.fieldLink RX9 39 RX9 (TX9 20).2.1 (TX9 20).2.2.1, Cond.fieldLink RX9 42 RX9 (TX9 21).2.1 (TX9 21).2.2.1, Cond.fieldLink RX9 45 RX9 (TX9 22).2.1 (TX9 22).2.2.1, Cond.fieldLink RX9 48 RX9 (TX9 24).2.1 (TX9 24).2.2.1, Cond.fieldLink RX9 51 RX9 (TX9 25).2.1 (TX9 25).2.2.1, Cond.fieldLink RX9 54 RX9 (TX9 0).2.1 (TX9 0).2.2.1, Cond.fieldLink RX9 61 RX9 (TX9 13).2.1 (TX9 13).2.2.1, Cond.fieldLink RX9 64 RX9 (TX9 14).2.1 (TX9 14).2.2.1, Cond.fieldLink RX9 67 RX9 (TX9 15).2.1 (TX9 15).2.2.1, Cond.fieldLink RX9 70 RX9 (TX9 16).2.1 (TX9 16).2.2.1, Cond.fieldLink RX9 113 RX9 (TX9 23).2.1 (TX9 23).2.2.1, Cond.fieldLink RX9 171 RX9 (TX9 28).2.1 (TX9 28).2.2.1, Cond.fieldLink RX9 230 RX9 (TX9 5).2.1 (TX9 5).2.2.1, Cond.fieldLink RX9 234 RX9 (TX9 7).2.1 (TX9 7).2.2.1, Cond.fieldLink RX9 240 RX9 (TX9 9).2.1 (TX9 9).2.2.1, Cond.fieldLink RX9 243 RX9 (TX9 11).2.1 (TX9 11).2.2.1, Cond.fieldLink RX9 246 RX9 (TX9 10).2.1 (TX9 10).2.2.1, Cond.fieldLink RX9 392 RX9 (TX9 26).2.1 (TX9 26).2.2.1, Cond.fieldLink RX9 395 RX9 (TX9 27).2.1 (TX9 27).2.2.1, Cond.fieldLink RX9 405 RX9 (TX9 29).2.1 (TX9 29).2.2.1, Cond.fieldLink RX9 433 RX9 (TX9 30).2.1 (TX9 30).2.2.1, Cond.fieldLink RX9 436 RX9 (TX9 31).2.1 (TX9 31).2.2.1, Cond.fieldLink RX9 439 RX9 (TX9 32).2.1 (TX9 32).2.2.1, Cond.fieldLink RX9 469 RX9 (TX9 6).2.1 (TX9 6).2.2.1, Cond.methodLink RX1 47 yJ7_fill_53178, Cond.methodLink RX1 53 yX4_copyFrom, Cond.methodLink RX1 57 arraycopyName, Cond.methodLink RX1 71 yX1_refusalOfJoin, Cond.methodLink RX1 75 yX1_nearX, Cond.methodLink RX1 78 yX1_nearY]
theorem wi_2 : ∀ w ∈ wc_2, w ∈ TBL := tb_ch _ [270, 1223, 1224, 1225, 1226, 1230, 1234, 1239, 1240, 1241, 1242, 1243, 1244, 1246, 1247, 1222, 1235, 1236, 1237, 1238, 1245, 1250, 1227, 1229, 1231, 1233, 1232, 1248, 1249, 1251, 1252, 1253, 1254, 1228, 252, 570, 577, 431, 450, 469] (by decide +kernel) (by decide +kernel)
theorem lf_X8_343 : Cond.fieldLink RX8 343 RX1 (TX1 8).2.1 (TX1 8).2.2.1 ∈ TBL := wi_2 _ (List.mem_of_getElem? (i := 0) rfl)
theorem lf_X9_7 : Cond.fieldLink RX9 7 RX9 (TX9 1).2.1 (TX9 1).2.2.1 ∈ TBL := wi_2 _ (List.mem_of_getElem? (i := 1) rfl)
theorem lf_X9_13 : Cond.fieldLink RX9 13 RX9 (TX9 2).2.1 (TX9 2).2.2.1 ∈ TBL := wi_2 _ (List.mem_of_getElem? (i := 2) rfl)
theorem lf_X9_16 : Cond.fieldLink RX9 16 RX9 (TX9 3).2.1 (TX9 3).2.2.1 ∈ TBL := wi_2 _ (List.mem_of_getElem? (i := 3) rfl)
theorem lf_X9_20 : Cond.fieldLink RX9 20 RX9 (TX9 4).2.1 (TX9 4).2.2.1 ∈ TBL := wi_2 _ (List.mem_of_getElem? (i := 4) rfl)
theorem lf_X9_23 : Cond.fieldLink RX9 23 RX9 (TX9 8).2.1 (TX9 8).2.2.1 ∈ TBL := wi_2 _ (List.mem_of_getElem? (i := 5) rfl)
theorem lf_X9_26 : Cond.fieldLink RX9 26 RX9 (TX9 12).2.1 (TX9 12).2.2.1 ∈ TBL := wi_2 _ (List.mem_of_getElem? (i := 6) rfl)
theorem lf_X9_30 : Cond.fieldLink RX9 30 RX9 (TX9 17).2.1 (TX9 17).2.2.1 ∈ TBL := wi_2 _ (List.mem_of_getElem? (i := 7) rfl)
theorem lf_X9_33 : Cond.fieldLink RX9 33 RX9 (TX9 18).2.1 (TX9 18).2.2.1 ∈ TBL := wi_2 _ (List.mem_of_getElem? (i := 8) rfl)
theorem lf_X9_36 : Cond.fieldLink RX9 36 RX9 (TX9 19).2.1 (TX9 19).2.2.1 ∈ TBL := wi_2 _ (List.mem_of_getElem? (i := 9) rfl)
theorem lf_X9_39 : Cond.fieldLink RX9 39 RX9 (TX9 20).2.1 (TX9 20).2.2.1 ∈ TBL := wi_2 _ (List.mem_of_getElem? (i := 10) rfl)
theorem lf_X9_42 : Cond.fieldLink RX9 42 RX9 (TX9 21).2.1 (TX9 21).2.2.1 ∈ TBL := wi_2 _ (List.mem_of_getElem? (i := 11) rfl)
theorem lf_X9_45 : Cond.fieldLink RX9 45 RX9 (TX9 22).2.1 (TX9 22).2.2.1 ∈ TBL := wi_2 _ (List.mem_of_getElem? (i := 12) rfl)
theorem lf_X9_48 : Cond.fieldLink RX9 48 RX9 (TX9 24).2.1 (TX9 24).2.2.1 ∈ TBL := wi_2 _ (List.mem_of_getElem? (i := 13) rfl)
theorem lf_X9_51 : Cond.fieldLink RX9 51 RX9 (TX9 25).2.1 (TX9 25).2.2.1 ∈ TBL := wi_2 _ (List.mem_of_getElem? (i := 14) rfl)
theorem lf_X9_54 : Cond.fieldLink RX9 54 RX9 (TX9 0).2.1 (TX9 0).2.2.1 ∈ TBL := wi_2 _ (List.mem_of_getElem? (i := 15) rfl)
theorem lf_X9_61 : Cond.fieldLink RX9 61 RX9 (TX9 13).2.1 (TX9 13).2.2.1 ∈ TBL := wi_2 _ (List.mem_of_getElem? (i := 16) rfl)
theorem lf_X9_64 : Cond.fieldLink RX9 64 RX9 (TX9 14).2.1 (TX9 14).2.2.1 ∈ TBL := wi_2 _ (List.mem_of_getElem? (i := 17) rfl)
theorem lf_X9_67 : Cond.fieldLink RX9 67 RX9 (TX9 15).2.1 (TX9 15).2.2.1 ∈ TBL := wi_2 _ (List.mem_of_getElem? (i := 18) rfl)
theorem lf_X9_70 : Cond.fieldLink RX9 70 RX9 (TX9 16).2.1 (TX9 16).2.2.1 ∈ TBL := wi_2 _ (List.mem_of_getElem? (i := 19) rfl)
theorem lf_X9_113 : Cond.fieldLink RX9 113 RX9 (TX9 23).2.1 (TX9 23).2.2.1 ∈ TBL := wi_2 _ (List.mem_of_getElem? (i := 20) rfl)
theorem lf_X9_171 : Cond.fieldLink RX9 171 RX9 (TX9 28).2.1 (TX9 28).2.2.1 ∈ TBL := wi_2 _ (List.mem_of_getElem? (i := 21) rfl)
theorem lf_X9_230 : Cond.fieldLink RX9 230 RX9 (TX9 5).2.1 (TX9 5).2.2.1 ∈ TBL := wi_2 _ (List.mem_of_getElem? (i := 22) rfl)
theorem lf_X9_234 : Cond.fieldLink RX9 234 RX9 (TX9 7).2.1 (TX9 7).2.2.1 ∈ TBL := wi_2 _ (List.mem_of_getElem? (i := 23) rfl)
theorem lf_X9_240 : Cond.fieldLink RX9 240 RX9 (TX9 9).2.1 (TX9 9).2.2.1 ∈ TBL := wi_2 _ (List.mem_of_getElem? (i := 24) rfl)
theorem lf_X9_243 : Cond.fieldLink RX9 243 RX9 (TX9 11).2.1 (TX9 11).2.2.1 ∈ TBL := wi_2 _ (List.mem_of_getElem? (i := 25) rfl)
theorem lf_X9_246 : Cond.fieldLink RX9 246 RX9 (TX9 10).2.1 (TX9 10).2.2.1 ∈ TBL := wi_2 _ (List.mem_of_getElem? (i := 26) rfl)
theorem lf_X9_392 : Cond.fieldLink RX9 392 RX9 (TX9 26).2.1 (TX9 26).2.2.1 ∈ TBL := wi_2 _ (List.mem_of_getElem? (i := 27) rfl)
theorem lf_X9_395 : Cond.fieldLink RX9 395 RX9 (TX9 27).2.1 (TX9 27).2.2.1 ∈ TBL := wi_2 _ (List.mem_of_getElem? (i := 28) rfl)
theorem lf_X9_405 : Cond.fieldLink RX9 405 RX9 (TX9 29).2.1 (TX9 29).2.2.1 ∈ TBL := wi_2 _ (List.mem_of_getElem? (i := 29) rfl)
theorem lf_X9_433 : Cond.fieldLink RX9 433 RX9 (TX9 30).2.1 (TX9 30).2.2.1 ∈ TBL := wi_2 _ (List.mem_of_getElem? (i := 30) rfl)
theorem lf_X9_436 : Cond.fieldLink RX9 436 RX9 (TX9 31).2.1 (TX9 31).2.2.1 ∈ TBL := wi_2 _ (List.mem_of_getElem? (i := 31) rfl)
theorem lf_X9_439 : Cond.fieldLink RX9 439 RX9 (TX9 32).2.1 (TX9 32).2.2.1 ∈ TBL := wi_2 _ (List.mem_of_getElem? (i := 32) rfl)
theorem lf_X9_469 : Cond.fieldLink RX9 469 RX9 (TX9 6).2.1 (TX9 6).2.2.1 ∈ TBL := wi_2 _ (List.mem_of_getElem? (i := 33) rfl)
theorem lm_X1_47 : Cond.methodLink RX1 47 yJ7_fill_53178 ∈ TBL := wi_2 _ (List.mem_of_getElem? (i := 34) rfl)
theorem lm_X1_53 : Cond.methodLink RX1 53 yX4_copyFrom ∈ TBL := wi_2 _ (List.mem_of_getElem? (i := 35) rfl)
theorem lm_X1_57 : Cond.methodLink RX1 57 arraycopyName ∈ TBL := wi_2 _ (List.mem_of_getElem? (i := 36) rfl)
theorem lm_X1_71 : Cond.methodLink RX1 71 yX1_refusalOfJoin ∈ TBL := wi_2 _ (List.mem_of_getElem? (i := 37) rfl)
theorem lm_X1_75 : Cond.methodLink RX1 75 yX1_nearX ∈ TBL := wi_2 _ (List.mem_of_getElem? (i := 38) rfl)
theorem lm_X1_78 : Cond.methodLink RX1 78 yX1_nearY ∈ TBL := wi_2 _ (List.mem_of_getElem? (i := 39) rfl)
def wc_3 : List Cond := [Cond.methodLink RX1 81 yX1_refusalOfHanding, Cond.methodLink RX1 85 yX1_nodesThatAre, Cond.methodLink RX1 88 yX1_realitiesWithin, Cond.methodLink RX1 91 yX1_leastNodeAway, Cond.methodLink RX1 95 yX4_zoneAt, Cond.methodLink RX1 98 yX4_nodeAt, Cond.methodLink RX1 101 yX1_startAnew, Cond.methodLink RX1 104 yX1_addLandmark, Cond.methodLink RX1 107 yX1_letIn, Cond.methodLink RX1 111 yX1_letGo, Cond.methodLink RX1 114 yX1_letDie, Cond.methodLink RX1 117 yX1_tidyAll, Cond.methodLink RX1 120 yX1_cutOut, Cond.methodLink RX1 123 yX1_mendAll, Cond.methodLink RX1 126 yX4_clear, Cond.methodLink RX1 129 yX4_split, Cond.methodLink RX1 133 yX4_handAll, Cond.methodLink RX1 137 yJ6_bitCount_0f7a4, Cond.methodLink RX1 142 yX1_isHeldBy, Cond.methodLink RX1 146 yX4_zonesOfAll, Cond.methodLink RX1 149 yX4_tidyUp, Cond.methodLink RX1 152 Lib.Math.abs.name, Cond.methodLink RX1 157 yX1_orderOf, Cond.methodLink RX1 160 yX1_landmarkInOrder, Cond.methodLink RX1 164 yX1_awayFrom, Cond.methodLink RX1 167 yX1_pointOf, Cond.methodLink RX1 170 yX1_pointX, Cond.methodLink RX1 173 yX1_pointY, Cond.methodLink RX1 176 yX1_isHeld, Cond.methodLink RX1 180 yX1_keysStored, Cond.methodLink RX2 25 yX1_copyFrom, Cond.methodLink RX3 29 yX3_skipBlanks, Cond.methodLink RX3 37 yX3_takeSemicolon, Cond.methodLink RX3 41 yX3_takeKind, Cond.methodLink RX3 45 yX3_takeNumbers, Cond.methodLink RX3 50 yX3_takeWord, Cond.methodLink RX3 72 yX0_tell, Cond.methodLink RX3 81 yX3_takeNumber, Cond.methodLink RX3 85 yX3_takeAim, Cond.methodLink RX3 91 yX3_isBetween]
theorem wi_3 : ∀ w ∈ wc_3, w ∈ TBL := tb_ch _ [473, 477, 481, 435, 439, 445, 582, 591, 595, 610, 651, 663, 691, 695, 586, 599, 614, 645, 655, 667, 671, 466, 454, 458, 462, 488, 485, 491, 659, 729, 566, 746, 754, 758, 825, 763, 824, 829, 833, 750] (by decide +kernel) (by decide +kernel)
theorem lm_X1_81 : Cond.methodLink RX1 81 yX1_refusalOfHanding ∈ TBL := wi_3 _ (List.mem_of_getElem? (i := 0) rfl)
theorem lm_X1_85 : Cond.methodLink RX1 85 yX1_nodesThatAre ∈ TBL := wi_3 _ (List.mem_of_getElem? (i := 1) rfl)
theorem lm_X1_88 : Cond.methodLink RX1 88 yX1_realitiesWithin ∈ TBL := wi_3 _ (List.mem_of_getElem? (i := 2) rfl)
theorem lm_X1_91 : Cond.methodLink RX1 91 yX1_leastNodeAway ∈ TBL := wi_3 _ (List.mem_of_getElem? (i := 3) rfl)
theorem lm_X1_95 : Cond.methodLink RX1 95 yX4_zoneAt ∈ TBL := wi_3 _ (List.mem_of_getElem? (i := 4) rfl)
theorem lm_X1_98 : Cond.methodLink RX1 98 yX4_nodeAt ∈ TBL := wi_3 _ (List.mem_of_getElem? (i := 5) rfl)
theorem lm_X1_101 : Cond.methodLink RX1 101 yX1_startAnew ∈ TBL := wi_3 _ (List.mem_of_getElem? (i := 6) rfl)
theorem lm_X1_104 : Cond.methodLink RX1 104 yX1_addLandmark ∈ TBL := wi_3 _ (List.mem_of_getElem? (i := 7) rfl)
theorem lm_X1_107 : Cond.methodLink RX1 107 yX1_letIn ∈ TBL := wi_3 _ (List.mem_of_getElem? (i := 8) rfl)
theorem lm_X1_111 : Cond.methodLink RX1 111 yX1_letGo ∈ TBL := wi_3 _ (List.mem_of_getElem? (i := 9) rfl)
theorem lm_X1_114 : Cond.methodLink RX1 114 yX1_letDie ∈ TBL := wi_3 _ (List.mem_of_getElem? (i := 10) rfl)
theorem lm_X1_117 : Cond.methodLink RX1 117 yX1_tidyAll ∈ TBL := wi_3 _ (List.mem_of_getElem? (i := 11) rfl)
theorem lm_X1_120 : Cond.methodLink RX1 120 yX1_cutOut ∈ TBL := wi_3 _ (List.mem_of_getElem? (i := 12) rfl)
theorem lm_X1_123 : Cond.methodLink RX1 123 yX1_mendAll ∈ TBL := wi_3 _ (List.mem_of_getElem? (i := 13) rfl)
theorem lm_X1_126 : Cond.methodLink RX1 126 yX4_clear ∈ TBL := wi_3 _ (List.mem_of_getElem? (i := 14) rfl)
theorem lm_X1_129 : Cond.methodLink RX1 129 yX4_split ∈ TBL := wi_3 _ (List.mem_of_getElem? (i := 15) rfl)
theorem lm_X1_133 : Cond.methodLink RX1 133 yX4_handAll ∈ TBL := wi_3 _ (List.mem_of_getElem? (i := 16) rfl)
theorem lm_X1_137 : Cond.methodLink RX1 137 yJ6_bitCount_0f7a4 ∈ TBL := wi_3 _ (List.mem_of_getElem? (i := 17) rfl)
theorem lm_X1_142 : Cond.methodLink RX1 142 yX1_isHeldBy ∈ TBL := wi_3 _ (List.mem_of_getElem? (i := 18) rfl)
theorem lm_X1_146 : Cond.methodLink RX1 146 yX4_zonesOfAll ∈ TBL := wi_3 _ (List.mem_of_getElem? (i := 19) rfl)
theorem lm_X1_149 : Cond.methodLink RX1 149 yX4_tidyUp ∈ TBL := wi_3 _ (List.mem_of_getElem? (i := 20) rfl)
theorem lm_X1_152 : Cond.methodLink RX1 152 Lib.Math.abs.name ∈ TBL := wi_3 _ (List.mem_of_getElem? (i := 21) rfl)
theorem lm_X1_157 : Cond.methodLink RX1 157 yX1_orderOf ∈ TBL := wi_3 _ (List.mem_of_getElem? (i := 22) rfl)
theorem lm_X1_160 : Cond.methodLink RX1 160 yX1_landmarkInOrder ∈ TBL := wi_3 _ (List.mem_of_getElem? (i := 23) rfl)
theorem lm_X1_164 : Cond.methodLink RX1 164 yX1_awayFrom ∈ TBL := wi_3 _ (List.mem_of_getElem? (i := 24) rfl)
theorem lm_X1_167 : Cond.methodLink RX1 167 yX1_pointOf ∈ TBL := wi_3 _ (List.mem_of_getElem? (i := 25) rfl)
theorem lm_X1_170 : Cond.methodLink RX1 170 yX1_pointX ∈ TBL := wi_3 _ (List.mem_of_getElem? (i := 26) rfl)
theorem lm_X1_173 : Cond.methodLink RX1 173 yX1_pointY ∈ TBL := wi_3 _ (List.mem_of_getElem? (i := 27) rfl)
theorem lm_X1_176 : Cond.methodLink RX1 176 yX1_isHeld ∈ TBL := wi_3 _ (List.mem_of_getElem? (i := 28) rfl)
theorem lm_X1_180 : Cond.methodLink RX1 180 yX1_keysStored ∈ TBL := wi_3 _ (List.mem_of_getElem? (i := 29) rfl)
theorem lm_X2_25 : Cond.methodLink RX2 25 yX1_copyFrom ∈ TBL := wi_3 _ (List.mem_of_getElem? (i := 30) rfl)
theorem lm_X3_29 : Cond.methodLink RX3 29 yX3_skipBlanks ∈ TBL := wi_3 _ (List.mem_of_getElem? (i := 31) rfl)
theorem lm_X3_37 : Cond.methodLink RX3 37 yX3_takeSemicolon ∈ TBL := wi_3 _ (List.mem_of_getElem? (i := 32) rfl)
theorem lm_X3_41 : Cond.methodLink RX3 41 yX3_takeKind ∈ TBL := wi_3 _ (List.mem_of_getElem? (i := 33) rfl)
theorem lm_X3_45 : Cond.methodLink RX3 45 yX3_takeNumbers ∈ TBL := wi_3 _ (List.mem_of_getElem? (i := 34) rfl)
theorem lm_X3_50 : Cond.methodLink RX3 50 yX3_takeWord ∈ TBL := wi_3 _ (List.mem_of_getElem? (i := 35) rfl)
theorem lm_X3_72 : Cond.methodLink RX3 72 yX0_tell ∈ TBL := wi_3 _ (List.mem_of_getElem? (i := 36) rfl)
theorem lm_X3_81 : Cond.methodLink RX3 81 yX3_takeNumber ∈ TBL := wi_3 _ (List.mem_of_getElem? (i := 37) rfl)
theorem lm_X3_85 : Cond.methodLink RX3 85 yX3_takeAim ∈ TBL := wi_3 _ (List.mem_of_getElem? (i := 38) rfl)
theorem lm_X3_91 : Cond.methodLink RX3 91 yX3_isBetween ∈ TBL := wi_3 _ (List.mem_of_getElem? (i := 39) rfl)
def wc_4 : List Cond := [Cond.methodLink RX3 103 yJ0_length_8abf5, Cond.methodLink RX3 108 yJ0_charAt_5068e, Cond.methodLink RX4 21 yJ7_fill_53178, Cond.methodLink RX4 27 arraycopyName, Cond.methodLink RX4 33 yX4_everyOtherBit, Cond.methodLink RX4 40 yX4_zoneAt, Cond.methodLink RX4 44 Lib.Math.max.name, Cond.methodLink RX4 49 Lib.Math.min.name, Cond.methodLink RX4 52 yX4_depthOf, Cond.methodLink RX4 55 yX4_wide, Cond.methodLink RX4 58 yX4_high, Cond.methodLink RX4 61 yX4_leastX, Cond.methodLink RX4 64 yX4_leastY, Cond.methodLink RX4 67 yX4_give, Cond.methodLink RX4 71 yX4_heirOf, Cond.methodLink RX4 74 yX4_besideOf, Cond.methodLink RX4 77 yX4_leastOf, Cond.methodLink RX4 80 yX4_leastScattered, Cond.methodLink RX4 84 yX4_zoneOf, Cond.methodLink RX4 87 yX4_moveStray, Cond.methodLink RX4 91 yX4_deepestPair, Cond.methodLink RX5 28 yX7_lookBeside, Cond.methodLink RX5 34 yX4_zoneOf, Cond.methodLink RX5 40 yX4_depthOf, Cond.methodLink RX5 44 yX4_leastX, Cond.methodLink RX5 47 yX4_leastY, Cond.methodLink RX5 50 yX7_lookFar, Cond.methodLink RX5 54 yX5_walkTo, Cond.methodLink RX5 58 yX7_follow, Cond.methodLink RX5 69 Lib.Math.max.name, Cond.methodLink RX5 74 yX5_addHinges, Cond.methodLink RX5 77 yX7_nodesBetween, Cond.methodLink RX7 29 yX4_zonesOfAll, Cond.methodLink RX7 38 yX4_besideOf, Cond.methodLink RX7 42 yX4_depthOf, Cond.methodLink RX7 45 yX4_leastX, Cond.methodLink RX7 49 yX4_wide, Cond.methodLink RX7 52 yX7_stepsTo, Cond.methodLink RX7 56 yX4_leastY, Cond.methodLink RX7 59 yX4_high]
theorem wi_4 : ∀ w ∈ wc_4, w ∈ TBL := tb_ch _ [767, 777, 590, 574, 635, 449, 1161, 1164, 607, 626, 629, 632, 638, 603, 618, 622, 641, 675, 679, 683, 687, 1169, 1170, 1171, 1172, 1173, 1174, 1175, 1179, 1180, 1181, 1185, 991, 992, 1080, 1081, 1082, 1083, 1089, 1090] (by decide +kernel) (by decide +kernel)
theorem lm_X3_103 : Cond.methodLink RX3 103 yJ0_length_8abf5 ∈ TBL := wi_4 _ (List.mem_of_getElem? (i := 0) rfl)
theorem lm_X3_108 : Cond.methodLink RX3 108 yJ0_charAt_5068e ∈ TBL := wi_4 _ (List.mem_of_getElem? (i := 1) rfl)
theorem lm_X4_21 : Cond.methodLink RX4 21 yJ7_fill_53178 ∈ TBL := wi_4 _ (List.mem_of_getElem? (i := 2) rfl)
theorem lm_X4_27 : Cond.methodLink RX4 27 arraycopyName ∈ TBL := wi_4 _ (List.mem_of_getElem? (i := 3) rfl)
theorem lm_X4_33 : Cond.methodLink RX4 33 yX4_everyOtherBit ∈ TBL := wi_4 _ (List.mem_of_getElem? (i := 4) rfl)
theorem lm_X4_40 : Cond.methodLink RX4 40 yX4_zoneAt ∈ TBL := wi_4 _ (List.mem_of_getElem? (i := 5) rfl)
theorem lm_X4_44 : Cond.methodLink RX4 44 Lib.Math.max.name ∈ TBL := wi_4 _ (List.mem_of_getElem? (i := 6) rfl)
theorem lm_X4_49 : Cond.methodLink RX4 49 Lib.Math.min.name ∈ TBL := wi_4 _ (List.mem_of_getElem? (i := 7) rfl)
theorem lm_X4_52 : Cond.methodLink RX4 52 yX4_depthOf ∈ TBL := wi_4 _ (List.mem_of_getElem? (i := 8) rfl)
theorem lm_X4_55 : Cond.methodLink RX4 55 yX4_wide ∈ TBL := wi_4 _ (List.mem_of_getElem? (i := 9) rfl)
theorem lm_X4_58 : Cond.methodLink RX4 58 yX4_high ∈ TBL := wi_4 _ (List.mem_of_getElem? (i := 10) rfl)
theorem lm_X4_61 : Cond.methodLink RX4 61 yX4_leastX ∈ TBL := wi_4 _ (List.mem_of_getElem? (i := 11) rfl)
theorem lm_X4_64 : Cond.methodLink RX4 64 yX4_leastY ∈ TBL := wi_4 _ (List.mem_of_getElem? (i := 12) rfl)
theorem lm_X4_67 : Cond.methodLink RX4 67 yX4_give ∈ TBL := wi_4 _ (List.mem_of_getElem? (i := 13) rfl)
theorem lm_X4_71 : Cond.methodLink RX4 71 yX4_heirOf ∈ TBL := wi_4 _ (List.mem_of_getElem? (i := 14) rfl)
theorem lm_X4_74 : Cond.methodLink RX4 74 yX4_besideOf ∈ TBL := wi_4 _ (List.mem_of_getElem? (i := 15) rfl)
theorem lm_X4_77 : Cond.methodLink RX4 77 yX4_leastOf ∈ TBL := wi_4 _ (List.mem_of_getElem? (i := 16) rfl)
theorem lm_X4_80 : Cond.methodLink RX4 80 yX4_leastScattered ∈ TBL := wi_4 _ (List.mem_of_getElem? (i := 17) rfl)
theorem lm_X4_84 : Cond.methodLink RX4 84 yX4_zoneOf ∈ TBL := wi_4 _ (List.mem_of_getElem? (i := 18) rfl)
theorem lm_X4_87 : Cond.methodLink RX4 87 yX4_moveStray ∈ TBL := wi_4 _ (List.mem_of_getElem? (i := 19) rfl)
theorem lm_X4_91 : Cond.methodLink RX4 91 yX4_deepestPair ∈ TBL := wi_4 _ (List.mem_of_getElem? (i := 20) rfl)
theorem lm_X5_28 : Cond.methodLink RX5 28 yX7_lookBeside ∈ TBL := wi_4 _ (List.mem_of_getElem? (i := 21) rfl)
theorem lm_X5_34 : Cond.methodLink RX5 34 yX4_zoneOf ∈ TBL := wi_4 _ (List.mem_of_getElem? (i := 22) rfl)
theorem lm_X5_40 : Cond.methodLink RX5 40 yX4_depthOf ∈ TBL := wi_4 _ (List.mem_of_getElem? (i := 23) rfl)
theorem lm_X5_44 : Cond.methodLink RX5 44 yX4_leastX ∈ TBL := wi_4 _ (List.mem_of_getElem? (i := 24) rfl)
theorem lm_X5_47 : Cond.methodLink RX5 47 yX4_leastY ∈ TBL := wi_4 _ (List.mem_of_getElem? (i := 25) rfl)
theorem lm_X5_50 : Cond.methodLink RX5 50 yX7_lookFar ∈ TBL := wi_4 _ (List.mem_of_getElem? (i := 26) rfl)
theorem lm_X5_54 : Cond.methodLink RX5 54 yX5_walkTo ∈ TBL := wi_4 _ (List.mem_of_getElem? (i := 27) rfl)
theorem lm_X5_58 : Cond.methodLink RX5 58 yX7_follow ∈ TBL := wi_4 _ (List.mem_of_getElem? (i := 28) rfl)
theorem lm_X5_69 : Cond.methodLink RX5 69 Lib.Math.max.name ∈ TBL := wi_4 _ (List.mem_of_getElem? (i := 29) rfl)
theorem lm_X5_74 : Cond.methodLink RX5 74 yX5_addHinges ∈ TBL := wi_4 _ (List.mem_of_getElem? (i := 30) rfl)
theorem lm_X5_77 : Cond.methodLink RX5 77 yX7_nodesBetween ∈ TBL := wi_4 _ (List.mem_of_getElem? (i := 31) rfl)
theorem lm_X7_29 : Cond.methodLink RX7 29 yX4_zonesOfAll ∈ TBL := wi_4 _ (List.mem_of_getElem? (i := 32) rfl)
theorem lm_X7_38 : Cond.methodLink RX7 38 yX4_besideOf ∈ TBL := wi_4 _ (List.mem_of_getElem? (i := 33) rfl)
theorem lm_X7_42 : Cond.methodLink RX7 42 yX4_depthOf ∈ TBL := wi_4 _ (List.mem_of_getElem? (i := 34) rfl)
theorem lm_X7_45 : Cond.methodLink RX7 45 yX4_leastX ∈ TBL := wi_4 _ (List.mem_of_getElem? (i := 35) rfl)
theorem lm_X7_49 : Cond.methodLink RX7 49 yX4_wide ∈ TBL := wi_4 _ (List.mem_of_getElem? (i := 36) rfl)
theorem lm_X7_52 : Cond.methodLink RX7 52 yX7_stepsTo ∈ TBL := wi_4 _ (List.mem_of_getElem? (i := 37) rfl)
theorem lm_X7_56 : Cond.methodLink RX7 56 yX4_leastY ∈ TBL := wi_4 _ (List.mem_of_getElem? (i := 38) rfl)
theorem lm_X7_59 : Cond.methodLink RX7 59 yX4_high ∈ TBL := wi_4 _ (List.mem_of_getElem? (i := 39) rfl)
def wc_5 : List Cond := [Cond.methodLink RX7 62 Lib.Math.min.name, Cond.methodLink RX7 67 yX7_nodeNearerThan, Cond.methodLink RX8 82 yX6_append, Cond.methodLink RX8 86 yX1_copyFrom, Cond.methodLink RX8 90 yX3_begin, Cond.methodLink RX8 93 yX3_takeAct, Cond.methodLink RX8 97 yX1_refusalOf, Cond.methodLink RX8 101 yX1_perform, Cond.methodLink RX8 107 yX8_dropText, Cond.methodLink RX8 125 yX2_forget, Cond.methodLink RX8 128 yX8_isPlace, Cond.methodLink RX8 132 yX8_isCell, Cond.methodLink RX8 137 yX0_tell, Cond.methodLink RX8 141 yX8_settle, Cond.methodLink RX8 146 yX8_checkNode, Cond.methodLink RX8 149 yX8_checkWhat, Cond.methodLink RX8 153 yX8_checkKey, Cond.methodLink RX8 163 yX2_keep, Cond.methodLink RX8 171 yX2_takeBack, Cond.methodLink RX8 184 yX8_checkReality, Cond.methodLink RX8 199 yX7_lookBeside, Cond.methodLink RX8 203 yX7_besideIn, Cond.methodLink RX8 207 yX1_loadOf, Cond.methodLink RX8 210 yX8_hubOf, Cond.methodLink RX8 214 yX4_zoneOf, Cond.methodLink RX8 219 yX4_depthOf, Cond.methodLink RX8 222 yX4_leastX, Cond.methodLink RX8 225 yX4_leastY, Cond.methodLink RX8 228 yX4_wide, Cond.methodLink RX8 231 yX4_high, Cond.methodLink RX8 234 yX8_checkCell, Cond.methodLink RX8 237 yX4_nodeAt, Cond.methodLink RX8 240 yX4_zoneAt, Cond.methodLink RX8 243 yX1_nodesThatAre, Cond.methodLink RX8 246 yX4_heirOf, Cond.methodLink RX8 255 yX1_pointX, Cond.methodLink RX8 258 yX1_pointY, Cond.methodLink RX8 261 yX8_checkUp, Cond.methodLink RX8 264 yX7_lookFar, Cond.methodLink RX8 268 yX7_follow]
theorem wi_5 : ∀ w ∈ wc_5, w ∈ TBL := tb_ch _ [1086, 1095, 399, 703, 738, 742, 427, 578, 839, 708, 868, 871, 419, 423, 892, 911, 944, 562, 964, 982, 987, 993, 997, 1001, 1013, 1022, 1023, 1024, 1025, 1026, 1034, 1038, 1039, 716, 1047, 1062, 1063, 1071, 1076, 1091] (by decide +kernel) (by decide +kernel)
theorem lm_X7_62 : Cond.methodLink RX7 62 Lib.Math.min.name ∈ TBL := wi_5 _ (List.mem_of_getElem? (i := 0) rfl)
theorem lm_X7_67 : Cond.methodLink RX7 67 yX7_nodeNearerThan ∈ TBL := wi_5 _ (List.mem_of_getElem? (i := 1) rfl)
theorem lm_X8_82 : Cond.methodLink RX8 82 yX6_append ∈ TBL := wi_5 _ (List.mem_of_getElem? (i := 2) rfl)
theorem lm_X8_86 : Cond.methodLink RX8 86 yX1_copyFrom ∈ TBL := wi_5 _ (List.mem_of_getElem? (i := 3) rfl)
theorem lm_X8_90 : Cond.methodLink RX8 90 yX3_begin ∈ TBL := wi_5 _ (List.mem_of_getElem? (i := 4) rfl)
theorem lm_X8_93 : Cond.methodLink RX8 93 yX3_takeAct ∈ TBL := wi_5 _ (List.mem_of_getElem? (i := 5) rfl)
theorem lm_X8_97 : Cond.methodLink RX8 97 yX1_refusalOf ∈ TBL := wi_5 _ (List.mem_of_getElem? (i := 6) rfl)
theorem lm_X8_101 : Cond.methodLink RX8 101 yX1_perform ∈ TBL := wi_5 _ (List.mem_of_getElem? (i := 7) rfl)
theorem lm_X8_107 : Cond.methodLink RX8 107 yX8_dropText ∈ TBL := wi_5 _ (List.mem_of_getElem? (i := 8) rfl)
theorem lm_X8_125 : Cond.methodLink RX8 125 yX2_forget ∈ TBL := wi_5 _ (List.mem_of_getElem? (i := 9) rfl)
theorem lm_X8_128 : Cond.methodLink RX8 128 yX8_isPlace ∈ TBL := wi_5 _ (List.mem_of_getElem? (i := 10) rfl)
theorem lm_X8_132 : Cond.methodLink RX8 132 yX8_isCell ∈ TBL := wi_5 _ (List.mem_of_getElem? (i := 11) rfl)
theorem lm_X8_137 : Cond.methodLink RX8 137 yX0_tell ∈ TBL := wi_5 _ (List.mem_of_getElem? (i := 12) rfl)
theorem lm_X8_141 : Cond.methodLink RX8 141 yX8_settle ∈ TBL := wi_5 _ (List.mem_of_getElem? (i := 13) rfl)
theorem lm_X8_146 : Cond.methodLink RX8 146 yX8_checkNode ∈ TBL := wi_5 _ (List.mem_of_getElem? (i := 14) rfl)
theorem lm_X8_149 : Cond.methodLink RX8 149 yX8_checkWhat ∈ TBL := wi_5 _ (List.mem_of_getElem? (i := 15) rfl)
theorem lm_X8_153 : Cond.methodLink RX8 153 yX8_checkKey ∈ TBL := wi_5 _ (List.mem_of_getElem? (i := 16) rfl)
theorem lm_X8_163 : Cond.methodLink RX8 163 yX2_keep ∈ TBL := wi_5 _ (List.mem_of_getElem? (i := 17) rfl)
theorem lm_X8_171 : Cond.methodLink RX8 171 yX2_takeBack ∈ TBL := wi_5 _ (List.mem_of_getElem? (i := 18) rfl)
theorem lm_X8_184 : Cond.methodLink RX8 184 yX8_checkReality ∈ TBL := wi_5 _ (List.mem_of_getElem? (i := 19) rfl)
theorem lm_X8_199 : Cond.methodLink RX8 199 yX7_lookBeside ∈ TBL := wi_5 _ (List.mem_of_getElem? (i := 20) rfl)
theorem lm_X8_203 : Cond.methodLink RX8 203 yX7_besideIn ∈ TBL := wi_5 _ (List.mem_of_getElem? (i := 21) rfl)
theorem lm_X8_207 : Cond.methodLink RX8 207 yX1_loadOf ∈ TBL := wi_5 _ (List.mem_of_getElem? (i := 22) rfl)
theorem lm_X8_210 : Cond.methodLink RX8 210 yX8_hubOf ∈ TBL := wi_5 _ (List.mem_of_getElem? (i := 23) rfl)
theorem lm_X8_214 : Cond.methodLink RX8 214 yX4_zoneOf ∈ TBL := wi_5 _ (List.mem_of_getElem? (i := 24) rfl)
theorem lm_X8_219 : Cond.methodLink RX8 219 yX4_depthOf ∈ TBL := wi_5 _ (List.mem_of_getElem? (i := 25) rfl)
theorem lm_X8_222 : Cond.methodLink RX8 222 yX4_leastX ∈ TBL := wi_5 _ (List.mem_of_getElem? (i := 26) rfl)
theorem lm_X8_225 : Cond.methodLink RX8 225 yX4_leastY ∈ TBL := wi_5 _ (List.mem_of_getElem? (i := 27) rfl)
theorem lm_X8_228 : Cond.methodLink RX8 228 yX4_wide ∈ TBL := wi_5 _ (List.mem_of_getElem? (i := 28) rfl)
theorem lm_X8_231 : Cond.methodLink RX8 231 yX4_high ∈ TBL := wi_5 _ (List.mem_of_getElem? (i := 29) rfl)
theorem lm_X8_234 : Cond.methodLink RX8 234 yX8_checkCell ∈ TBL := wi_5 _ (List.mem_of_getElem? (i := 30) rfl)
theorem lm_X8_237 : Cond.methodLink RX8 237 yX4_nodeAt ∈ TBL := wi_5 _ (List.mem_of_getElem? (i := 31) rfl)
theorem lm_X8_240 : Cond.methodLink RX8 240 yX4_zoneAt ∈ TBL := wi_5 _ (List.mem_of_getElem? (i := 32) rfl)
theorem lm_X8_243 : Cond.methodLink RX8 243 yX1_nodesThatAre ∈ TBL := wi_5 _ (List.mem_of_getElem? (i := 33) rfl)
theorem lm_X8_246 : Cond.methodLink RX8 246 yX4_heirOf ∈ TBL := wi_5 _ (List.mem_of_getElem? (i := 34) rfl)
theorem lm_X8_255 : Cond.methodLink RX8 255 yX1_pointX ∈ TBL := wi_5 _ (List.mem_of_getElem? (i := 35) rfl)
theorem lm_X8_258 : Cond.methodLink RX8 258 yX1_pointY ∈ TBL := wi_5 _ (List.mem_of_getElem? (i := 36) rfl)
theorem lm_X8_261 : Cond.methodLink RX8 261 yX8_checkUp ∈ TBL := wi_5 _ (List.mem_of_getElem? (i := 37) rfl)
theorem lm_X8_264 : Cond.methodLink RX8 264 yX7_lookFar ∈ TBL := wi_5 _ (List.mem_of_getElem? (i := 38) rfl)
theorem lm_X8_268 : Cond.methodLink RX8 268 yX7_follow ∈ TBL := wi_5 _ (List.mem_of_getElem? (i := 39) rfl)
def wc_6 : List Cond := [Cond.methodLink RX8 272 yX7_hopsOrNone, Cond.methodLink RX8 276 yX7_nodeOfWay, Cond.methodLink RX8 282 yX1_isHeld, Cond.methodLink RX8 285 yX8_delayOfWay, Cond.methodLink RX8 288 yX7_lastNode, Cond.methodLink RX8 291 yX1_apart, Cond.methodLink RX8 294 yX8_stretch, Cond.methodLink RX8 301 yX1_isHeldByNoneBut, Cond.methodLink RX8 304 yX1_orderOf, Cond.methodLink RX8 307 yX4_zonesOfAll, Cond.methodLink RX8 310 yX4_evenOf, Cond.methodLink RX8 313 yX5_walkAll, Cond.methodLink RX8 320 yX4_zonesOfTheScattered, Cond.methodLink RX8 323 yX1_copiesHeldIn, Cond.methodLink RX8 326 yJ6_bitCount_0f7a4, Cond.methodLink RX8 331 yX4_firstZoneOfAny, Cond.methodLink RX8 346 yX1_keysStored, Cond.methodLink RX8 349 yX1_keysSafe, Cond.methodLink RX8 352 yX1_copiesLost, Cond.methodLink RX9 57 yX9_isState, Cond.methodLink RX9 73 yX9_depthOf, Cond.methodLink RX9 77 yX9_isIn, Cond.methodLink RX9 81 yX9_halfAt, Cond.methodLink RX9 85 yX9_boxes, Cond.methodLink RX9 89 yX9_isInBox, Cond.methodLink RX9 92 yX9_countOf, Cond.methodLink RX9 95 yX9_ownerOf, Cond.methodLink RX9 98 yX9_halfWith, Cond.methodLink RX9 102 yX9_zoneAt, Cond.methodLink RX9 105 yX9_owns, Cond.methodLink RX9 109 yX9_merges, Cond.methodLink RX9 116 yX9_touch, Cond.methodLink RX9 120 yX9_meet, Cond.methodLink RX9 123 yX9_areBeside, Cond.methodLink RX9 126 yX9_besideZone, Cond.methodLink RX9 129 yX9_volumeOf, Cond.methodLink RX9 132 yX9_laysList, Cond.methodLink RX9 135 yX9_bitsOf, Cond.methodLink RX9 138 yX9_placeInList, Cond.methodLink RX9 141 yX9_leastOf]
theorem wi_6 : ∀ w ∈ wc_6, w ∈ TBL := tb_ch _ [1099, 1103, 1114, 1115, 1123, 1119, 1127, 1137, 1148, 1156, 1157, 1165, 1189, 1193, 1005, 1204, 717, 721, 725, 1414, 1444, 1334, 1437, 1440, 1447, 1418, 1429, 1433, 1425, 1451, 1527, 1509, 1512, 1505, 1501, 1519, 1493, 1477, 1497, 1515] (by decide +kernel) (by decide +kernel)
theorem lm_X8_272 : Cond.methodLink RX8 272 yX7_hopsOrNone ∈ TBL := wi_6 _ (List.mem_of_getElem? (i := 0) rfl)
theorem lm_X8_276 : Cond.methodLink RX8 276 yX7_nodeOfWay ∈ TBL := wi_6 _ (List.mem_of_getElem? (i := 1) rfl)
theorem lm_X8_282 : Cond.methodLink RX8 282 yX1_isHeld ∈ TBL := wi_6 _ (List.mem_of_getElem? (i := 2) rfl)
theorem lm_X8_285 : Cond.methodLink RX8 285 yX8_delayOfWay ∈ TBL := wi_6 _ (List.mem_of_getElem? (i := 3) rfl)
theorem lm_X8_288 : Cond.methodLink RX8 288 yX7_lastNode ∈ TBL := wi_6 _ (List.mem_of_getElem? (i := 4) rfl)
theorem lm_X8_291 : Cond.methodLink RX8 291 yX1_apart ∈ TBL := wi_6 _ (List.mem_of_getElem? (i := 5) rfl)
theorem lm_X8_294 : Cond.methodLink RX8 294 yX8_stretch ∈ TBL := wi_6 _ (List.mem_of_getElem? (i := 6) rfl)
theorem lm_X8_301 : Cond.methodLink RX8 301 yX1_isHeldByNoneBut ∈ TBL := wi_6 _ (List.mem_of_getElem? (i := 7) rfl)
theorem lm_X8_304 : Cond.methodLink RX8 304 yX1_orderOf ∈ TBL := wi_6 _ (List.mem_of_getElem? (i := 8) rfl)
theorem lm_X8_307 : Cond.methodLink RX8 307 yX4_zonesOfAll ∈ TBL := wi_6 _ (List.mem_of_getElem? (i := 9) rfl)
theorem lm_X8_310 : Cond.methodLink RX8 310 yX4_evenOf ∈ TBL := wi_6 _ (List.mem_of_getElem? (i := 10) rfl)
theorem lm_X8_313 : Cond.methodLink RX8 313 yX5_walkAll ∈ TBL := wi_6 _ (List.mem_of_getElem? (i := 11) rfl)
theorem lm_X8_320 : Cond.methodLink RX8 320 yX4_zonesOfTheScattered ∈ TBL := wi_6 _ (List.mem_of_getElem? (i := 12) rfl)
theorem lm_X8_323 : Cond.methodLink RX8 323 yX1_copiesHeldIn ∈ TBL := wi_6 _ (List.mem_of_getElem? (i := 13) rfl)
theorem lm_X8_326 : Cond.methodLink RX8 326 yJ6_bitCount_0f7a4 ∈ TBL := wi_6 _ (List.mem_of_getElem? (i := 14) rfl)
theorem lm_X8_331 : Cond.methodLink RX8 331 yX4_firstZoneOfAny ∈ TBL := wi_6 _ (List.mem_of_getElem? (i := 15) rfl)
theorem lm_X8_346 : Cond.methodLink RX8 346 yX1_keysStored ∈ TBL := wi_6 _ (List.mem_of_getElem? (i := 16) rfl)
theorem lm_X8_349 : Cond.methodLink RX8 349 yX1_keysSafe ∈ TBL := wi_6 _ (List.mem_of_getElem? (i := 17) rfl)
theorem lm_X8_352 : Cond.methodLink RX8 352 yX1_copiesLost ∈ TBL := wi_6 _ (List.mem_of_getElem? (i := 18) rfl)
theorem lm_X9_57 : Cond.methodLink RX9 57 yX9_isState ∈ TBL := wi_6 _ (List.mem_of_getElem? (i := 19) rfl)
theorem lm_X9_73 : Cond.methodLink RX9 73 yX9_depthOf ∈ TBL := wi_6 _ (List.mem_of_getElem? (i := 20) rfl)
theorem lm_X9_77 : Cond.methodLink RX9 77 yX9_isIn ∈ TBL := wi_6 _ (List.mem_of_getElem? (i := 21) rfl)
theorem lm_X9_81 : Cond.methodLink RX9 81 yX9_halfAt ∈ TBL := wi_6 _ (List.mem_of_getElem? (i := 22) rfl)
theorem lm_X9_85 : Cond.methodLink RX9 85 yX9_boxes ∈ TBL := wi_6 _ (List.mem_of_getElem? (i := 23) rfl)
theorem lm_X9_89 : Cond.methodLink RX9 89 yX9_isInBox ∈ TBL := wi_6 _ (List.mem_of_getElem? (i := 24) rfl)
theorem lm_X9_92 : Cond.methodLink RX9 92 yX9_countOf ∈ TBL := wi_6 _ (List.mem_of_getElem? (i := 25) rfl)
theorem lm_X9_95 : Cond.methodLink RX9 95 yX9_ownerOf ∈ TBL := wi_6 _ (List.mem_of_getElem? (i := 26) rfl)
theorem lm_X9_98 : Cond.methodLink RX9 98 yX9_halfWith ∈ TBL := wi_6 _ (List.mem_of_getElem? (i := 27) rfl)
theorem lm_X9_102 : Cond.methodLink RX9 102 yX9_zoneAt ∈ TBL := wi_6 _ (List.mem_of_getElem? (i := 28) rfl)
theorem lm_X9_105 : Cond.methodLink RX9 105 yX9_owns ∈ TBL := wi_6 _ (List.mem_of_getElem? (i := 29) rfl)
theorem lm_X9_109 : Cond.methodLink RX9 109 yX9_merges ∈ TBL := wi_6 _ (List.mem_of_getElem? (i := 30) rfl)
theorem lm_X9_116 : Cond.methodLink RX9 116 yX9_touch ∈ TBL := wi_6 _ (List.mem_of_getElem? (i := 31) rfl)
theorem lm_X9_120 : Cond.methodLink RX9 120 yX9_meet ∈ TBL := wi_6 _ (List.mem_of_getElem? (i := 32) rfl)
theorem lm_X9_123 : Cond.methodLink RX9 123 yX9_areBeside ∈ TBL := wi_6 _ (List.mem_of_getElem? (i := 33) rfl)
theorem lm_X9_126 : Cond.methodLink RX9 126 yX9_besideZone ∈ TBL := wi_6 _ (List.mem_of_getElem? (i := 34) rfl)
theorem lm_X9_129 : Cond.methodLink RX9 129 yX9_volumeOf ∈ TBL := wi_6 _ (List.mem_of_getElem? (i := 35) rfl)
theorem lm_X9_132 : Cond.methodLink RX9 132 yX9_laysList ∈ TBL := wi_6 _ (List.mem_of_getElem? (i := 36) rfl)
theorem lm_X9_135 : Cond.methodLink RX9 135 yX9_bitsOf ∈ TBL := wi_6 _ (List.mem_of_getElem? (i := 37) rfl)
theorem lm_X9_138 : Cond.methodLink RX9 138 yX9_placeInList ∈ TBL := wi_6 _ (List.mem_of_getElem? (i := 38) rfl)
theorem lm_X9_141 : Cond.methodLink RX9 141 yX9_leastOf ∈ TBL := wi_6 _ (List.mem_of_getElem? (i := 39) rfl)
def wc_7 : List Cond := [Cond.methodLink RX9 144 yX9_heirOf, Cond.methodLink RX9 147 yX9_gives, Cond.methodLink RX9 150 yX9_handsAll, Cond.methodLink RX9 153 yX9_pointOf, Cond.methodLink RX9 156 yX9_pointX, Cond.methodLink RX9 159 yX9_pointY, Cond.methodLink RX9 162 yX9_nodeAt, Cond.methodLink RX9 165 yX9_isHeld, Cond.methodLink RX9 168 yX9_keeperOf, Cond.methodLink RX9 174 yX9_turned, Cond.methodLink RX9 177 yX9_parts, Cond.methodLink RX9 180 yX9_apart, Cond.methodLink RX9 183 yX9_farFrom, Cond.methodLink RX9 186 yX9_isNearer, Cond.methodLink RX9 189 yX9_ordersOf, Cond.methodLink RX9 193 yX9_orderOf, Cond.methodLink RX9 196 yX9_join0, Cond.methodLink RX9 200 yX9_hasOther, Cond.methodLink RX9 203 yX9_goesAway, Cond.methodLink RX9 206 yX9_zonesOf, Cond.methodLink RX9 209 yX9_isInside, Cond.methodLink RX9 212 yX9_manifold, Cond.methodLink RX9 215 yX9_strayOf, Cond.methodLink RX9 218 yX9_twinsIn, Cond.methodLink RX9 221 yX9_tidies, Cond.methodLink RX9 224 yX9_canHold, Cond.methodLink RX9 227 yX9_heldIn, Cond.methodLink RX9 237 yX9_remembers, Cond.methodLink RX9 249 yX9_here, Cond.methodLink RX9 252 yJ0_length_8abf5, Cond.methodLink RX9 257 yJ0_charAt_5068e, Cond.methodLink RX9 261 yX9_wrong, Cond.methodLink RX9 264 yX9_number, Cond.methodLink RX9 269 yX9_has, Cond.methodLink RX9 273 yX9_near0, Cond.methodLink RX9 277 yX9_landmark0, Cond.methodLink RX9 280 yX9_go0, Cond.methodLink RX9 283 yX9_put0, Cond.methodLink RX9 288 yX9_clearsAll, Cond.methodLink RX9 293 yX9_landmarkText]
theorem wi_7 : ∀ w ∈ wc_7, w ∈ TBL := tb_ch _ [1489, 1523, 1485, 1546, 1543, 1549, 1552, 1535, 1539, 1422, 1455, 1407, 1403, 1399, 1391, 1395, 1410, 1473, 1481, 1575, 1587, 1571, 1579, 1583, 1567, 1599, 1613, 1639, 1345, 1362, 1363, 1349, 1364, 1358, 1387, 1377, 1465, 1595, 1368, 1373] (by decide +kernel) (by decide +kernel)
theorem lm_X9_144 : Cond.methodLink RX9 144 yX9_heirOf ∈ TBL := wi_7 _ (List.mem_of_getElem? (i := 0) rfl)
theorem lm_X9_147 : Cond.methodLink RX9 147 yX9_gives ∈ TBL := wi_7 _ (List.mem_of_getElem? (i := 1) rfl)
theorem lm_X9_150 : Cond.methodLink RX9 150 yX9_handsAll ∈ TBL := wi_7 _ (List.mem_of_getElem? (i := 2) rfl)
theorem lm_X9_153 : Cond.methodLink RX9 153 yX9_pointOf ∈ TBL := wi_7 _ (List.mem_of_getElem? (i := 3) rfl)
theorem lm_X9_156 : Cond.methodLink RX9 156 yX9_pointX ∈ TBL := wi_7 _ (List.mem_of_getElem? (i := 4) rfl)
theorem lm_X9_159 : Cond.methodLink RX9 159 yX9_pointY ∈ TBL := wi_7 _ (List.mem_of_getElem? (i := 5) rfl)
theorem lm_X9_162 : Cond.methodLink RX9 162 yX9_nodeAt ∈ TBL := wi_7 _ (List.mem_of_getElem? (i := 6) rfl)
theorem lm_X9_165 : Cond.methodLink RX9 165 yX9_isHeld ∈ TBL := wi_7 _ (List.mem_of_getElem? (i := 7) rfl)
theorem lm_X9_168 : Cond.methodLink RX9 168 yX9_keeperOf ∈ TBL := wi_7 _ (List.mem_of_getElem? (i := 8) rfl)
theorem lm_X9_174 : Cond.methodLink RX9 174 yX9_turned ∈ TBL := wi_7 _ (List.mem_of_getElem? (i := 9) rfl)
theorem lm_X9_177 : Cond.methodLink RX9 177 yX9_parts ∈ TBL := wi_7 _ (List.mem_of_getElem? (i := 10) rfl)
theorem lm_X9_180 : Cond.methodLink RX9 180 yX9_apart ∈ TBL := wi_7 _ (List.mem_of_getElem? (i := 11) rfl)
theorem lm_X9_183 : Cond.methodLink RX9 183 yX9_farFrom ∈ TBL := wi_7 _ (List.mem_of_getElem? (i := 12) rfl)
theorem lm_X9_186 : Cond.methodLink RX9 186 yX9_isNearer ∈ TBL := wi_7 _ (List.mem_of_getElem? (i := 13) rfl)
theorem lm_X9_189 : Cond.methodLink RX9 189 yX9_ordersOf ∈ TBL := wi_7 _ (List.mem_of_getElem? (i := 14) rfl)
theorem lm_X9_193 : Cond.methodLink RX9 193 yX9_orderOf ∈ TBL := wi_7 _ (List.mem_of_getElem? (i := 15) rfl)
theorem lm_X9_196 : Cond.methodLink RX9 196 yX9_join0 ∈ TBL := wi_7 _ (List.mem_of_getElem? (i := 16) rfl)
theorem lm_X9_200 : Cond.methodLink RX9 200 yX9_hasOther ∈ TBL := wi_7 _ (List.mem_of_getElem? (i := 17) rfl)
theorem lm_X9_203 : Cond.methodLink RX9 203 yX9_goesAway ∈ TBL := wi_7 _ (List.mem_of_getElem? (i := 18) rfl)
theorem lm_X9_206 : Cond.methodLink RX9 206 yX9_zonesOf ∈ TBL := wi_7 _ (List.mem_of_getElem? (i := 19) rfl)
theorem lm_X9_209 : Cond.methodLink RX9 209 yX9_isInside ∈ TBL := wi_7 _ (List.mem_of_getElem? (i := 20) rfl)
theorem lm_X9_212 : Cond.methodLink RX9 212 yX9_manifold ∈ TBL := wi_7 _ (List.mem_of_getElem? (i := 21) rfl)
theorem lm_X9_215 : Cond.methodLink RX9 215 yX9_strayOf ∈ TBL := wi_7 _ (List.mem_of_getElem? (i := 22) rfl)
theorem lm_X9_218 : Cond.methodLink RX9 218 yX9_twinsIn ∈ TBL := wi_7 _ (List.mem_of_getElem? (i := 23) rfl)
theorem lm_X9_221 : Cond.methodLink RX9 221 yX9_tidies ∈ TBL := wi_7 _ (List.mem_of_getElem? (i := 24) rfl)
theorem lm_X9_224 : Cond.methodLink RX9 224 yX9_canHold ∈ TBL := wi_7 _ (List.mem_of_getElem? (i := 25) rfl)
theorem lm_X9_227 : Cond.methodLink RX9 227 yX9_heldIn ∈ TBL := wi_7 _ (List.mem_of_getElem? (i := 26) rfl)
theorem lm_X9_237 : Cond.methodLink RX9 237 yX9_remembers ∈ TBL := wi_7 _ (List.mem_of_getElem? (i := 27) rfl)
theorem lm_X9_249 : Cond.methodLink RX9 249 yX9_here ∈ TBL := wi_7 _ (List.mem_of_getElem? (i := 28) rfl)
theorem lm_X9_252 : Cond.methodLink RX9 252 yJ0_length_8abf5 ∈ TBL := wi_7 _ (List.mem_of_getElem? (i := 29) rfl)
theorem lm_X9_257 : Cond.methodLink RX9 257 yJ0_charAt_5068e ∈ TBL := wi_7 _ (List.mem_of_getElem? (i := 30) rfl)
theorem lm_X9_261 : Cond.methodLink RX9 261 yX9_wrong ∈ TBL := wi_7 _ (List.mem_of_getElem? (i := 31) rfl)
theorem lm_X9_264 : Cond.methodLink RX9 264 yX9_number ∈ TBL := wi_7 _ (List.mem_of_getElem? (i := 32) rfl)
theorem lm_X9_269 : Cond.methodLink RX9 269 yX9_has ∈ TBL := wi_7 _ (List.mem_of_getElem? (i := 33) rfl)
theorem lm_X9_273 : Cond.methodLink RX9 273 yX9_near0 ∈ TBL := wi_7 _ (List.mem_of_getElem? (i := 34) rfl)
theorem lm_X9_277 : Cond.methodLink RX9 277 yX9_landmark0 ∈ TBL := wi_7 _ (List.mem_of_getElem? (i := 35) rfl)
theorem lm_X9_280 : Cond.methodLink RX9 280 yX9_go0 ∈ TBL := wi_7 _ (List.mem_of_getElem? (i := 36) rfl)
theorem lm_X9_283 : Cond.methodLink RX9 283 yX9_put0 ∈ TBL := wi_7 _ (List.mem_of_getElem? (i := 37) rfl)
theorem lm_X9_288 : Cond.methodLink RX9 288 yX9_clearsAll ∈ TBL := wi_7 _ (List.mem_of_getElem? (i := 38) rfl)
theorem lm_X9_293 : Cond.methodLink RX9 293 yX9_landmarkText ∈ TBL := wi_7 _ (List.mem_of_getElem? (i := 39) rfl)
def wc_8 : List Cond := [Cond.methodLink RX9 298 yX9_joinText, Cond.methodLink RX9 303 yX9_goText, Cond.methodLink RX9 312 yX9_tidy0, Cond.methodLink RX9 317 yX9_putText, Cond.methodLink RX9 322 yX9_cut0, Cond.methodLink RX9 327 yX9_mend0, Cond.methodLink RX9 330 yX9_putsAside, Cond.methodLink RX9 333 yX9_act, Cond.methodLink RX9 336 yX9_isPlace, Cond.methodLink RX9 339 yX9_isCell, Cond.methodLink RX9 342 yX9_isDone, Cond.methodLink RX9 345 yX9_leave0, Cond.methodLink RX9 348 yX9_crash0, Cond.methodLink RX9 351 yX9_notice0, Cond.methodLink RX9 354 yX9_isNode, Cond.methodLink RX9 358 yX9_allZones, Cond.methodLink RX9 361 yX9_isKey, Cond.methodLink RX9 364 yX9_besideNode, Cond.methodLink RX9 367 yX9_members, Cond.methodLink RX9 370 yX9_isReality, Cond.methodLink RX9 373 yX9_loadOf, Cond.methodLink RX9 376 yX9_hubOf, Cond.methodLink RX9 379 yX9_zoneOf, Cond.methodLink RX9 382 yX9_lesser, Cond.methodLink RX9 386 yX9_around, Cond.methodLink RX9 389 yX9_farOf, Cond.methodLink RX9 399 yX9_nearestTo, Cond.methodLink RX9 402 yX9_goes, Cond.methodLink RX9 408 yX9_farFromKey, Cond.methodLink RX9 411 yX9_nextToKey, Cond.methodLink RX9 414 yX9_placesApart, Cond.methodLink RX9 417 yX9_delay, Cond.methodLink RX9 420 yX9_common, Cond.methodLink RX9 423 yX9_seeks, Cond.methodLink RX9 426 yX9_stretch, Cond.methodLink RX9 430 yX9_isAllWith, Cond.methodLink RX9 442 yX9_arePair, Cond.methodLink RX9 445 yX9_goesTo, Cond.methodLink RX9 448 yX9_even, Cond.methodLink RX9 451 yX9_allWays]
theorem wi_8 : ∀ w ∈ wc_8, w ∈ TBL := tb_ch _ [1382, 1461, 1563, 1591, 1604, 1609, 1341, 1353, 1629, 1632, 1635, 1469, 1531, 1556, 1652, 1659, 1667, 1694, 1706, 1690, 1698, 1702, 1713, 1753, 1750, 1745, 1756, 1741, 1768, 1772, 1780, 1776, 1788, 1764, 1784, 1795, 1815, 1819, 1807, 1811] (by decide +kernel) (by decide +kernel)
theorem lm_X9_298 : Cond.methodLink RX9 298 yX9_joinText ∈ TBL := wi_8 _ (List.mem_of_getElem? (i := 0) rfl)
theorem lm_X9_303 : Cond.methodLink RX9 303 yX9_goText ∈ TBL := wi_8 _ (List.mem_of_getElem? (i := 1) rfl)
theorem lm_X9_312 : Cond.methodLink RX9 312 yX9_tidy0 ∈ TBL := wi_8 _ (List.mem_of_getElem? (i := 2) rfl)
theorem lm_X9_317 : Cond.methodLink RX9 317 yX9_putText ∈ TBL := wi_8 _ (List.mem_of_getElem? (i := 3) rfl)
theorem lm_X9_322 : Cond.methodLink RX9 322 yX9_cut0 ∈ TBL := wi_8 _ (List.mem_of_getElem? (i := 4) rfl)
theorem lm_X9_327 : Cond.methodLink RX9 327 yX9_mend0 ∈ TBL := wi_8 _ (List.mem_of_getElem? (i := 5) rfl)
theorem lm_X9_330 : Cond.methodLink RX9 330 yX9_putsAside ∈ TBL := wi_8 _ (List.mem_of_getElem? (i := 6) rfl)
theorem lm_X9_333 : Cond.methodLink RX9 333 yX9_act ∈ TBL := wi_8 _ (List.mem_of_getElem? (i := 7) rfl)
theorem lm_X9_336 : Cond.methodLink RX9 336 yX9_isPlace ∈ TBL := wi_8 _ (List.mem_of_getElem? (i := 8) rfl)
theorem lm_X9_339 : Cond.methodLink RX9 339 yX9_isCell ∈ TBL := wi_8 _ (List.mem_of_getElem? (i := 9) rfl)
theorem lm_X9_342 : Cond.methodLink RX9 342 yX9_isDone ∈ TBL := wi_8 _ (List.mem_of_getElem? (i := 10) rfl)
theorem lm_X9_345 : Cond.methodLink RX9 345 yX9_leave0 ∈ TBL := wi_8 _ (List.mem_of_getElem? (i := 11) rfl)
theorem lm_X9_348 : Cond.methodLink RX9 348 yX9_crash0 ∈ TBL := wi_8 _ (List.mem_of_getElem? (i := 12) rfl)
theorem lm_X9_351 : Cond.methodLink RX9 351 yX9_notice0 ∈ TBL := wi_8 _ (List.mem_of_getElem? (i := 13) rfl)
theorem lm_X9_354 : Cond.methodLink RX9 354 yX9_isNode ∈ TBL := wi_8 _ (List.mem_of_getElem? (i := 14) rfl)
theorem lm_X9_358 : Cond.methodLink RX9 358 yX9_allZones ∈ TBL := wi_8 _ (List.mem_of_getElem? (i := 15) rfl)
theorem lm_X9_361 : Cond.methodLink RX9 361 yX9_isKey ∈ TBL := wi_8 _ (List.mem_of_getElem? (i := 16) rfl)
theorem lm_X9_364 : Cond.methodLink RX9 364 yX9_besideNode ∈ TBL := wi_8 _ (List.mem_of_getElem? (i := 17) rfl)
theorem lm_X9_367 : Cond.methodLink RX9 367 yX9_members ∈ TBL := wi_8 _ (List.mem_of_getElem? (i := 18) rfl)
theorem lm_X9_370 : Cond.methodLink RX9 370 yX9_isReality ∈ TBL := wi_8 _ (List.mem_of_getElem? (i := 19) rfl)
theorem lm_X9_373 : Cond.methodLink RX9 373 yX9_loadOf ∈ TBL := wi_8 _ (List.mem_of_getElem? (i := 20) rfl)
theorem lm_X9_376 : Cond.methodLink RX9 376 yX9_hubOf ∈ TBL := wi_8 _ (List.mem_of_getElem? (i := 21) rfl)
theorem lm_X9_379 : Cond.methodLink RX9 379 yX9_zoneOf ∈ TBL := wi_8 _ (List.mem_of_getElem? (i := 22) rfl)
theorem lm_X9_382 : Cond.methodLink RX9 382 yX9_lesser ∈ TBL := wi_8 _ (List.mem_of_getElem? (i := 23) rfl)
theorem lm_X9_386 : Cond.methodLink RX9 386 yX9_around ∈ TBL := wi_8 _ (List.mem_of_getElem? (i := 24) rfl)
theorem lm_X9_389 : Cond.methodLink RX9 389 yX9_farOf ∈ TBL := wi_8 _ (List.mem_of_getElem? (i := 25) rfl)
theorem lm_X9_399 : Cond.methodLink RX9 399 yX9_nearestTo ∈ TBL := wi_8 _ (List.mem_of_getElem? (i := 26) rfl)
theorem lm_X9_402 : Cond.methodLink RX9 402 yX9_goes ∈ TBL := wi_8 _ (List.mem_of_getElem? (i := 27) rfl)
theorem lm_X9_408 : Cond.methodLink RX9 408 yX9_farFromKey ∈ TBL := wi_8 _ (List.mem_of_getElem? (i := 28) rfl)
theorem lm_X9_411 : Cond.methodLink RX9 411 yX9_nextToKey ∈ TBL := wi_8 _ (List.mem_of_getElem? (i := 29) rfl)
theorem lm_X9_414 : Cond.methodLink RX9 414 yX9_placesApart ∈ TBL := wi_8 _ (List.mem_of_getElem? (i := 30) rfl)
theorem lm_X9_417 : Cond.methodLink RX9 417 yX9_delay ∈ TBL := wi_8 _ (List.mem_of_getElem? (i := 31) rfl)
theorem lm_X9_420 : Cond.methodLink RX9 420 yX9_common ∈ TBL := wi_8 _ (List.mem_of_getElem? (i := 32) rfl)
theorem lm_X9_423 : Cond.methodLink RX9 423 yX9_seeks ∈ TBL := wi_8 _ (List.mem_of_getElem? (i := 33) rfl)
theorem lm_X9_426 : Cond.methodLink RX9 426 yX9_stretch ∈ TBL := wi_8 _ (List.mem_of_getElem? (i := 34) rfl)
theorem lm_X9_430 : Cond.methodLink RX9 430 yX9_isAllWith ∈ TBL := wi_8 _ (List.mem_of_getElem? (i := 35) rfl)
theorem lm_X9_442 : Cond.methodLink RX9 442 yX9_arePair ∈ TBL := wi_8 _ (List.mem_of_getElem? (i := 36) rfl)
theorem lm_X9_445 : Cond.methodLink RX9 445 yX9_goesTo ∈ TBL := wi_8 _ (List.mem_of_getElem? (i := 37) rfl)
theorem lm_X9_448 : Cond.methodLink RX9 448 yX9_even ∈ TBL := wi_8 _ (List.mem_of_getElem? (i := 38) rfl)
theorem lm_X9_451 : Cond.methodLink RX9 451 yX9_allWays ∈ TBL := wi_8 _ (List.mem_of_getElem? (i := 39) rfl)
def wc_9 : List Cond := [Cond.methodLink RX9 454 yX9_strays, Cond.methodLink RX9 457 yX9_heldCopies, Cond.methodLink RX9 460 yX9_isHinge, Cond.methodLink RX9 463 yX9_hinges, Cond.methodLink RX9 466 yX9_spot, Cond.methodLink RX9 472 yX9_storedKeys, Cond.methodLink RX9 475 yX9_safeKeys, Cond.methodLink RX9 478 yX9_lostCopies, Cond.static Lib.Math.max.name, Cond.code Lib.Math.max.name Lib.Math.max.code 2 (some .int), Cond.static Lib.Math.min.name, Cond.code Lib.Math.min.name Lib.Math.min.code 2 (some .int), Cond.static Lib.Math.abs.name, Cond.code Lib.Math.abs.name Lib.Math.abs.code 1 (some .int), Cond.initialized "java/lang/Math", Cond.initialized "java/lang/System", Cond.native arraycopyName, Cond.static arraycopyName, Cond.initialized RJ6, Cond.initialized RJ7, Cond.initialized RX0, Cond.initialized RX1, Cond.initialized RX2, Cond.initialized RX3, Cond.initialized RX4, Cond.initialized RX5, Cond.initialized RX6, Cond.initialized RX7, Cond.initialized RX8, Cond.initialized RX9, Cond.code yJ6_bitCount_0f7a4 cJ6_bitCount_0f7a4 1 (some .int), Cond.static yJ6_bitCount_0f7a4, Cond.code yJ7_fill_53178 cJ7_fill_53178 4 none, Cond.static yJ7_fill_53178, Cond.code yX0_tell cX0_tell 6 none, Cond.instanceMethod yX0_tell, Cond.selects RX0 yX0_tell yX0_tell, Cond.code yX1_addLandmark cX1_addLandmark 3 (some .int), Cond.instanceMethod yX1_addLandmark, Cond.selects RX1 yX1_addLandmark yX1_addLandmark]
theorem wi_9 : ∀ w ∈ wc_9, w ∈ TBL := tb_ch _ [1823, 1827, 1839, 1835, 1843, 1863, 1867, 1871, 1162, 1163, 1087, 1088, 467, 468, 142, 137, 576, 575, 143, 133, 129, 131, 130, 128, 132, 135, 127, 134, 126, 136, 647, 646, 254, 253, 422, 420, 421, 594, 593, 9] (by decide +kernel) (by decide +kernel)
theorem lm_X9_454 : Cond.methodLink RX9 454 yX9_strays ∈ TBL := wi_9 _ (List.mem_of_getElem? (i := 0) rfl)
theorem lm_X9_457 : Cond.methodLink RX9 457 yX9_heldCopies ∈ TBL := wi_9 _ (List.mem_of_getElem? (i := 1) rfl)
theorem lm_X9_460 : Cond.methodLink RX9 460 yX9_isHinge ∈ TBL := wi_9 _ (List.mem_of_getElem? (i := 2) rfl)
theorem lm_X9_463 : Cond.methodLink RX9 463 yX9_hinges ∈ TBL := wi_9 _ (List.mem_of_getElem? (i := 3) rfl)
theorem lm_X9_466 : Cond.methodLink RX9 466 yX9_spot ∈ TBL := wi_9 _ (List.mem_of_getElem? (i := 4) rfl)
theorem lm_X9_472 : Cond.methodLink RX9 472 yX9_storedKeys ∈ TBL := wi_9 _ (List.mem_of_getElem? (i := 5) rfl)
theorem lm_X9_475 : Cond.methodLink RX9 475 yX9_safeKeys ∈ TBL := wi_9 _ (List.mem_of_getElem? (i := 6) rfl)
theorem lm_X9_478 : Cond.methodLink RX9 478 yX9_lostCopies ∈ TBL := wi_9 _ (List.mem_of_getElem? (i := 7) rfl)
theorem st_max : Cond.static Lib.Math.max.name ∈ TBL := wi_9 _ (List.mem_of_getElem? (i := 8) rfl)
theorem co_max : Cond.code Lib.Math.max.name Lib.Math.max.code 2 (some .int) ∈ TBL := wi_9 _ (List.mem_of_getElem? (i := 9) rfl)
theorem st_min : Cond.static Lib.Math.min.name ∈ TBL := wi_9 _ (List.mem_of_getElem? (i := 10) rfl)
theorem co_min : Cond.code Lib.Math.min.name Lib.Math.min.code 2 (some .int) ∈ TBL := wi_9 _ (List.mem_of_getElem? (i := 11) rfl)
theorem st_abs : Cond.static Lib.Math.abs.name ∈ TBL := wi_9 _ (List.mem_of_getElem? (i := 12) rfl)
theorem co_abs : Cond.code Lib.Math.abs.name Lib.Math.abs.code 1 (some .int) ∈ TBL := wi_9 _ (List.mem_of_getElem? (i := 13) rfl)
theorem ini_Math : Cond.initialized "java/lang/Math" ∈ TBL := wi_9 _ (List.mem_of_getElem? (i := 14) rfl)
theorem ini_Sys : Cond.initialized "java/lang/System" ∈ TBL := wi_9 _ (List.mem_of_getElem? (i := 15) rfl)
theorem na_copy : Cond.native arraycopyName ∈ TBL := wi_9 _ (List.mem_of_getElem? (i := 16) rfl)
theorem st_copy : Cond.static arraycopyName ∈ TBL := wi_9 _ (List.mem_of_getElem? (i := 17) rfl)
theorem ini_J6 : Cond.initialized RJ6 ∈ TBL := wi_9 _ (List.mem_of_getElem? (i := 18) rfl)
theorem ini_J7 : Cond.initialized RJ7 ∈ TBL := wi_9 _ (List.mem_of_getElem? (i := 19) rfl)
theorem ini_X0 : Cond.initialized RX0 ∈ TBL := wi_9 _ (List.mem_of_getElem? (i := 20) rfl)
theorem ini_X1 : Cond.initialized RX1 ∈ TBL := wi_9 _ (List.mem_of_getElem? (i := 21) rfl)
theorem ini_X2 : Cond.initialized RX2 ∈ TBL := wi_9 _ (List.mem_of_getElem? (i := 22) rfl)
theorem ini_X3 : Cond.initialized RX3 ∈ TBL := wi_9 _ (List.mem_of_getElem? (i := 23) rfl)
theorem ini_X4 : Cond.initialized RX4 ∈ TBL := wi_9 _ (List.mem_of_getElem? (i := 24) rfl)
theorem ini_X5 : Cond.initialized RX5 ∈ TBL := wi_9 _ (List.mem_of_getElem? (i := 25) rfl)
theorem ini_X6 : Cond.initialized RX6 ∈ TBL := wi_9 _ (List.mem_of_getElem? (i := 26) rfl)
theorem ini_X7 : Cond.initialized RX7 ∈ TBL := wi_9 _ (List.mem_of_getElem? (i := 27) rfl)
theorem ini_X8 : Cond.initialized RX8 ∈ TBL := wi_9 _ (List.mem_of_getElem? (i := 28) rfl)
theorem ini_X9 : Cond.initialized RX9 ∈ TBL := wi_9 _ (List.mem_of_getElem? (i := 29) rfl)
theorem lc_J6_bitCount_0f7a4 : Cond.code yJ6_bitCount_0f7a4 cJ6_bitCount_0f7a4 1 (some .int) ∈ TBL := wi_9 _ (List.mem_of_getElem? (i := 30) rfl)
theorem li_J6_bitCount_0f7a4 : Cond.static yJ6_bitCount_0f7a4 ∈ TBL := wi_9 _ (List.mem_of_getElem? (i := 31) rfl)
theorem lc_J7_fill_53178 : Cond.code yJ7_fill_53178 cJ7_fill_53178 4 none ∈ TBL := wi_9 _ (List.mem_of_getElem? (i := 32) rfl)
theorem li_J7_fill_53178 : Cond.static yJ7_fill_53178 ∈ TBL := wi_9 _ (List.mem_of_getElem? (i := 33) rfl)
theorem lc_X0_tell : Cond.code yX0_tell cX0_tell 6 none ∈ TBL := wi_9 _ (List.mem_of_getElem? (i := 34) rfl)
theorem li_X0_tell : Cond.instanceMethod yX0_tell ∈ TBL := wi_9 _ (List.mem_of_getElem? (i := 35) rfl)
theorem ls_X0_tell : Cond.selects RX0 yX0_tell yX0_tell ∈ TBL := wi_9 _ (List.mem_of_getElem? (i := 36) rfl)
theorem lc_X1_addLandmark : Cond.code yX1_addLandmark cX1_addLandmark 3 (some .int) ∈ TBL := wi_9 _ (List.mem_of_getElem? (i := 37) rfl)
theorem li_X1_addLandmark : Cond.instanceMethod yX1_addLandmark ∈ TBL := wi_9 _ (List.mem_of_getElem? (i := 38) rfl)
theorem ls_X1_addLandmark : Cond.selects RX1 yX1_addLandmark yX1_addLandmark ∈ TBL := wi_9 _ (List.mem_of_getElem? (i := 39) rfl)
def wc_10 : List Cond := [Cond.code yX1_apart cX1_apart 3 (some .int), Cond.instanceMethod yX1_apart, Cond.selects RX1 yX1_apart yX1_apart, Cond.code yX1_awayFrom cX1_awayFrom 4 (some .int), Cond.instanceMethod yX1_awayFrom, Cond.selects RX1 yX1_awayFrom yX1_awayFrom, Cond.code yX1_copiesHeldIn cX1_copiesHeldIn 4 (some .int), Cond.instanceMethod yX1_copiesHeldIn, Cond.selects RX1 yX1_copiesHeldIn yX1_copiesHeldIn, Cond.code yX1_copiesLost cX1_copiesLost 3 (some .int), Cond.instanceMethod yX1_copiesLost, Cond.selects RX1 yX1_copiesLost yX1_copiesLost, Cond.code yX1_copyFrom cX1_copyFrom 3 none, Cond.instanceMethod yX1_copyFrom, Cond.selects RX1 yX1_copyFrom yX1_copyFrom, Cond.code yX1_cutOut cX1_cutOut 3 (some .int), Cond.instanceMethod yX1_cutOut, Cond.selects RX1 yX1_cutOut yX1_cutOut, Cond.code yX1_isHeld cX1_isHeld 3 (some .boolean), Cond.instanceMethod yX1_isHeld, Cond.selects RX1 yX1_isHeld yX1_isHeld, Cond.code yX1_isHeldBy cX1_isHeldBy 4 (some .boolean), Cond.instanceMethod yX1_isHeldBy, Cond.selects RX1 yX1_isHeldBy yX1_isHeldBy, Cond.code yX1_isHeldByNoneBut cX1_isHeldByNoneBut 4 (some .boolean), Cond.instanceMethod yX1_isHeldByNoneBut, Cond.selects RX1 yX1_isHeldByNoneBut yX1_isHeldByNoneBut, Cond.code yX1_keysSafe cX1_keysSafe 4 (some .int), Cond.instanceMethod yX1_keysSafe, Cond.selects RX1 yX1_keysSafe yX1_keysSafe, Cond.code yX1_keysStored cX1_keysStored 3 (some .int), Cond.instanceMethod yX1_keysStored, Cond.selects RX1 yX1_keysStored yX1_keysStored, Cond.code yX1_landmarkInOrder cX1_landmarkInOrder 8 (some .int), Cond.instanceMethod yX1_landmarkInOrder, Cond.selects RX1 yX1_landmarkInOrder yX1_landmarkInOrder, Cond.code yX1_leastNodeAway cX1_leastNodeAway 2 (some .int), Cond.instanceMethod yX1_leastNodeAway, Cond.selects RX1 yX1_leastNodeAway yX1_leastNodeAway, Cond.code yX1_letDie cX1_letDie 4 (some .int)]
theorem wi_10 : ∀ w ∈ wc_10, w ∈ TBL := tb_ch _ [1122, 1120, 1121, 465, 464, 4, 1196, 1194, 1195, 728, 726, 727, 569, 567, 568, 694, 693, 19, 662, 660, 661, 658, 657, 14, 1140, 1138, 1139, 724, 722, 723, 720, 718, 719, 461, 460, 3, 438, 437, 2, 654] (by decide +kernel) (by decide +kernel)
theorem lc_X1_apart : Cond.code yX1_apart cX1_apart 3 (some .int) ∈ TBL := wi_10 _ (List.mem_of_getElem? (i := 0) rfl)
theorem li_X1_apart : Cond.instanceMethod yX1_apart ∈ TBL := wi_10 _ (List.mem_of_getElem? (i := 1) rfl)
theorem ls_X1_apart : Cond.selects RX1 yX1_apart yX1_apart ∈ TBL := wi_10 _ (List.mem_of_getElem? (i := 2) rfl)
theorem lc_X1_awayFrom : Cond.code yX1_awayFrom cX1_awayFrom 4 (some .int) ∈ TBL := wi_10 _ (List.mem_of_getElem? (i := 3) rfl)
theorem li_X1_awayFrom : Cond.instanceMethod yX1_awayFrom ∈ TBL := wi_10 _ (List.mem_of_getElem? (i := 4) rfl)
theorem ls_X1_awayFrom : Cond.selects RX1 yX1_awayFrom yX1_awayFrom ∈ TBL := wi_10 _ (List.mem_of_getElem? (i := 5) rfl)
theorem lc_X1_copiesHeldIn : Cond.code yX1_copiesHeldIn cX1_copiesHeldIn 4 (some .int) ∈ TBL := wi_10 _ (List.mem_of_getElem? (i := 6) rfl)
theorem li_X1_copiesHeldIn : Cond.instanceMethod yX1_copiesHeldIn ∈ TBL := wi_10 _ (List.mem_of_getElem? (i := 7) rfl)
theorem ls_X1_copiesHeldIn : Cond.selects RX1 yX1_copiesHeldIn yX1_copiesHeldIn ∈ TBL := wi_10 _ (List.mem_of_getElem? (i := 8) rfl)
theorem lc_X1_copiesLost : Cond.code yX1_copiesLost cX1_copiesLost 3 (some .int) ∈ TBL := wi_10 _ (List.mem_of_getElem? (i := 9) rfl)
theorem li_X1_copiesLost : Cond.instanceMethod yX1_copiesLost ∈ TBL := wi_10 _ (List.mem_of_getElem? (i := 10) rfl)
theorem ls_X1_copiesLost : Cond.selects RX1 yX1_copiesLost yX1_copiesLost ∈ TBL := wi_10 _ (List.mem_of_getElem? (i := 11) rfl)
theorem lc_X1_copyFrom : Cond.code yX1_copyFrom cX1_copyFrom 3 none ∈ TBL := wi_10 _ (List.mem_of_getElem? (i := 12) rfl)
theorem li_X1_copyFrom : Cond.instanceMethod yX1_copyFrom ∈ TBL := wi_10 _ (List.mem_of_getElem? (i := 13) rfl)
theorem ls_X1_copyFrom : Cond.selects RX1 yX1_copyFrom yX1_copyFrom ∈ TBL := wi_10 _ (List.mem_of_getElem? (i := 14) rfl)
theorem lc_X1_cutOut : Cond.code yX1_cutOut cX1_cutOut 3 (some .int) ∈ TBL := wi_10 _ (List.mem_of_getElem? (i := 15) rfl)
theorem li_X1_cutOut : Cond.instanceMethod yX1_cutOut ∈ TBL := wi_10 _ (List.mem_of_getElem? (i := 16) rfl)
theorem ls_X1_cutOut : Cond.selects RX1 yX1_cutOut yX1_cutOut ∈ TBL := wi_10 _ (List.mem_of_getElem? (i := 17) rfl)
theorem lc_X1_isHeld : Cond.code yX1_isHeld cX1_isHeld 3 (some .boolean) ∈ TBL := wi_10 _ (List.mem_of_getElem? (i := 18) rfl)
theorem li_X1_isHeld : Cond.instanceMethod yX1_isHeld ∈ TBL := wi_10 _ (List.mem_of_getElem? (i := 19) rfl)
theorem ls_X1_isHeld : Cond.selects RX1 yX1_isHeld yX1_isHeld ∈ TBL := wi_10 _ (List.mem_of_getElem? (i := 20) rfl)
theorem lc_X1_isHeldBy : Cond.code yX1_isHeldBy cX1_isHeldBy 4 (some .boolean) ∈ TBL := wi_10 _ (List.mem_of_getElem? (i := 21) rfl)
theorem li_X1_isHeldBy : Cond.instanceMethod yX1_isHeldBy ∈ TBL := wi_10 _ (List.mem_of_getElem? (i := 22) rfl)
theorem ls_X1_isHeldBy : Cond.selects RX1 yX1_isHeldBy yX1_isHeldBy ∈ TBL := wi_10 _ (List.mem_of_getElem? (i := 23) rfl)
theorem lc_X1_isHeldByNoneBut : Cond.code yX1_isHeldByNoneBut cX1_isHeldByNoneBut 4 (some .boolean) ∈ TBL := wi_10 _ (List.mem_of_getElem? (i := 24) rfl)
theorem li_X1_isHeldByNoneBut : Cond.instanceMethod yX1_isHeldByNoneBut ∈ TBL := wi_10 _ (List.mem_of_getElem? (i := 25) rfl)
theorem ls_X1_isHeldByNoneBut : Cond.selects RX1 yX1_isHeldByNoneBut yX1_isHeldByNoneBut ∈ TBL := wi_10 _ (List.mem_of_getElem? (i := 26) rfl)
theorem lc_X1_keysSafe : Cond.code yX1_keysSafe cX1_keysSafe 4 (some .int) ∈ TBL := wi_10 _ (List.mem_of_getElem? (i := 27) rfl)
theorem li_X1_keysSafe : Cond.instanceMethod yX1_keysSafe ∈ TBL := wi_10 _ (List.mem_of_getElem? (i := 28) rfl)
theorem ls_X1_keysSafe : Cond.selects RX1 yX1_keysSafe yX1_keysSafe ∈ TBL := wi_10 _ (List.mem_of_getElem? (i := 29) rfl)
theorem lc_X1_keysStored : Cond.code yX1_keysStored cX1_keysStored 3 (some .int) ∈ TBL := wi_10 _ (List.mem_of_getElem? (i := 30) rfl)
theorem li_X1_keysStored : Cond.instanceMethod yX1_keysStored ∈ TBL := wi_10 _ (List.mem_of_getElem? (i := 31) rfl)
theorem ls_X1_keysStored : Cond.selects RX1 yX1_keysStored yX1_keysStored ∈ TBL := wi_10 _ (List.mem_of_getElem? (i := 32) rfl)
theorem lc_X1_landmarkInOrder : Cond.code yX1_landmarkInOrder cX1_landmarkInOrder 8 (some .int) ∈ TBL := wi_10 _ (List.mem_of_getElem? (i := 33) rfl)
theorem li_X1_landmarkInOrder : Cond.instanceMethod yX1_landmarkInOrder ∈ TBL := wi_10 _ (List.mem_of_getElem? (i := 34) rfl)
theorem ls_X1_landmarkInOrder : Cond.selects RX1 yX1_landmarkInOrder yX1_landmarkInOrder ∈ TBL := wi_10 _ (List.mem_of_getElem? (i := 35) rfl)
theorem lc_X1_leastNodeAway : Cond.code yX1_leastNodeAway cX1_leastNodeAway 2 (some .int) ∈ TBL := wi_10 _ (List.mem_of_getElem? (i := 36) rfl)
theorem li_X1_leastNodeAway : Cond.instanceMethod yX1_leastNodeAway ∈ TBL := wi_10 _ (List.mem_of_getElem? (i := 37) rfl)
theorem ls_X1_leastNodeAway : Cond.selects RX1 yX1_leastNodeAway yX1_leastNodeAway ∈ TBL := wi_10 _ (List.mem_of_getElem? (i := 38) rfl)
theorem lc_X1_letDie : Cond.code yX1_letDie cX1_letDie 4 (some .int) ∈ TBL := wi_10 _ (List.mem_of_getElem? (i := 39) rfl)
def wc_11 : List Cond := [Cond.instanceMethod yX1_letDie, Cond.selects RX1 yX1_letDie yX1_letDie, Cond.code yX1_letGo cX1_letGo 4 (some .int), Cond.instanceMethod yX1_letGo, Cond.selects RX1 yX1_letGo yX1_letGo, Cond.code yX1_letIn cX1_letIn 7 (some .int), Cond.instanceMethod yX1_letIn, Cond.selects RX1 yX1_letIn yX1_letIn, Cond.code yX1_loadOf cX1_loadOf 5 (some .int), Cond.instanceMethod yX1_loadOf, Cond.selects RX1 yX1_loadOf yX1_loadOf, Cond.code yX1_mendAll cX1_mendAll 4 (some .int), Cond.instanceMethod yX1_mendAll, Cond.selects RX1 yX1_mendAll yX1_mendAll, Cond.code yX1_nearX cX1_nearX 4 (some .int), Cond.instanceMethod yX1_nearX, Cond.selects RX1 yX1_nearX yX1_nearX, Cond.code yX1_nearY cX1_nearY 3 (some .int), Cond.instanceMethod yX1_nearY, Cond.selects RX1 yX1_nearY yX1_nearY, Cond.code yX1_nodesThatAre cX1_nodesThatAre 4 (some .int), Cond.instanceMethod yX1_nodesThatAre, Cond.selects RX1 yX1_nodesThatAre yX1_nodesThatAre, Cond.code yX1_orderOf cX1_orderOf 4 (some .int), Cond.instanceMethod yX1_orderOf, Cond.selects RX1 yX1_orderOf yX1_orderOf, Cond.code yX1_perform cX1_perform 3 (some .int), Cond.instanceMethod yX1_perform, Cond.selects RX1 yX1_perform yX1_perform, Cond.code yX1_pointOf cX1_pointOf 2 (some .int), Cond.static yX1_pointOf, Cond.code yX1_pointX cX1_pointX 2 (some .int), Cond.static yX1_pointX, Cond.code yX1_pointY cX1_pointY 2 (some .int), Cond.static yX1_pointY, Cond.code yX1_realitiesWithin cX1_realitiesWithin 5 (some .int), Cond.instanceMethod yX1_realitiesWithin, Cond.selects RX1 yX1_realitiesWithin yX1_realitiesWithin, Cond.code yX1_refusalOf cX1_refusalOf 3 (some .int), Cond.instanceMethod yX1_refusalOf]
theorem wi_11 : ∀ w ∈ wc_11, w ∈ TBL := tb_ch _ [653, 13, 613, 612, 11, 598, 597, 10, 1000, 998, 999, 698, 697, 20, 453, 451, 452, 472, 470, 471, 480, 478, 479, 457, 455, 456, 581, 579, 580, 490, 489, 487, 486, 493, 492, 484, 483, 6, 430, 428] (by decide +kernel) (by decide +kernel)
theorem li_X1_letDie : Cond.instanceMethod yX1_letDie ∈ TBL := wi_11 _ (List.mem_of_getElem? (i := 0) rfl)
theorem ls_X1_letDie : Cond.selects RX1 yX1_letDie yX1_letDie ∈ TBL := wi_11 _ (List.mem_of_getElem? (i := 1) rfl)
theorem lc_X1_letGo : Cond.code yX1_letGo cX1_letGo 4 (some .int) ∈ TBL := wi_11 _ (List.mem_of_getElem? (i := 2) rfl)
theorem li_X1_letGo : Cond.instanceMethod yX1_letGo ∈ TBL := wi_11 _ (List.mem_of_getElem? (i := 3) rfl)
theorem ls_X1_letGo : Cond.selects RX1 yX1_letGo yX1_letGo ∈ TBL := wi_11 _ (List.mem_of_getElem? (i := 4) rfl)
theorem lc_X1_letIn : Cond.code yX1_letIn cX1_letIn 7 (some .int) ∈ TBL := wi_11 _ (List.mem_of_getElem? (i := 5) rfl)
theorem li_X1_letIn : Cond.instanceMethod yX1_letIn ∈ TBL := wi_11 _ (List.mem_of_getElem? (i := 6) rfl)
theorem ls_X1_letIn : Cond.selects RX1 yX1_letIn yX1_letIn ∈ TBL := wi_11 _ (List.mem_of_getElem? (i := 7) rfl)
theorem lc_X1_loadOf : Cond.code yX1_loadOf cX1_loadOf 5 (some .int) ∈ TBL := wi_11 _ (List.mem_of_getElem? (i := 8) rfl)
theorem li_X1_loadOf : Cond.instanceMethod yX1_loadOf ∈ TBL := wi_11 _ (List.mem_of_getElem? (i := 9) rfl)
theorem ls_X1_loadOf : Cond.selects RX1 yX1_loadOf yX1_loadOf ∈ TBL := wi_11 _ (List.mem_of_getElem? (i := 10) rfl)
theorem lc_X1_mendAll : Cond.code yX1_mendAll cX1_mendAll 4 (some .int) ∈ TBL := wi_11 _ (List.mem_of_getElem? (i := 11) rfl)
theorem li_X1_mendAll : Cond.instanceMethod yX1_mendAll ∈ TBL := wi_11 _ (List.mem_of_getElem? (i := 12) rfl)
theorem ls_X1_mendAll : Cond.selects RX1 yX1_mendAll yX1_mendAll ∈ TBL := wi_11 _ (List.mem_of_getElem? (i := 13) rfl)
theorem lc_X1_nearX : Cond.code yX1_nearX cX1_nearX 4 (some .int) ∈ TBL := wi_11 _ (List.mem_of_getElem? (i := 14) rfl)
theorem li_X1_nearX : Cond.instanceMethod yX1_nearX ∈ TBL := wi_11 _ (List.mem_of_getElem? (i := 15) rfl)
theorem ls_X1_nearX : Cond.selects RX1 yX1_nearX yX1_nearX ∈ TBL := wi_11 _ (List.mem_of_getElem? (i := 16) rfl)
theorem lc_X1_nearY : Cond.code yX1_nearY cX1_nearY 3 (some .int) ∈ TBL := wi_11 _ (List.mem_of_getElem? (i := 17) rfl)
theorem li_X1_nearY : Cond.instanceMethod yX1_nearY ∈ TBL := wi_11 _ (List.mem_of_getElem? (i := 18) rfl)
theorem ls_X1_nearY : Cond.selects RX1 yX1_nearY yX1_nearY ∈ TBL := wi_11 _ (List.mem_of_getElem? (i := 19) rfl)
theorem lc_X1_nodesThatAre : Cond.code yX1_nodesThatAre cX1_nodesThatAre 4 (some .int) ∈ TBL := wi_11 _ (List.mem_of_getElem? (i := 20) rfl)
theorem li_X1_nodesThatAre : Cond.instanceMethod yX1_nodesThatAre ∈ TBL := wi_11 _ (List.mem_of_getElem? (i := 21) rfl)
theorem ls_X1_nodesThatAre : Cond.selects RX1 yX1_nodesThatAre yX1_nodesThatAre ∈ TBL := wi_11 _ (List.mem_of_getElem? (i := 22) rfl)
theorem lc_X1_orderOf : Cond.code yX1_orderOf cX1_orderOf 4 (some .int) ∈ TBL := wi_11 _ (List.mem_of_getElem? (i := 23) rfl)
theorem li_X1_orderOf : Cond.instanceMethod yX1_orderOf ∈ TBL := wi_11 _ (List.mem_of_getElem? (i := 24) rfl)
theorem ls_X1_orderOf : Cond.selects RX1 yX1_orderOf yX1_orderOf ∈ TBL := wi_11 _ (List.mem_of_getElem? (i := 25) rfl)
theorem lc_X1_perform : Cond.code yX1_perform cX1_perform 3 (some .int) ∈ TBL := wi_11 _ (List.mem_of_getElem? (i := 26) rfl)
theorem li_X1_perform : Cond.instanceMethod yX1_perform ∈ TBL := wi_11 _ (List.mem_of_getElem? (i := 27) rfl)
theorem ls_X1_perform : Cond.selects RX1 yX1_perform yX1_perform ∈ TBL := wi_11 _ (List.mem_of_getElem? (i := 28) rfl)
theorem lc_X1_pointOf : Cond.code yX1_pointOf cX1_pointOf 2 (some .int) ∈ TBL := wi_11 _ (List.mem_of_getElem? (i := 29) rfl)
theorem li_X1_pointOf : Cond.static yX1_pointOf ∈ TBL := wi_11 _ (List.mem_of_getElem? (i := 30) rfl)
theorem lc_X1_pointX : Cond.code yX1_pointX cX1_pointX 2 (some .int) ∈ TBL := wi_11 _ (List.mem_of_getElem? (i := 31) rfl)
theorem li_X1_pointX : Cond.static yX1_pointX ∈ TBL := wi_11 _ (List.mem_of_getElem? (i := 32) rfl)
theorem lc_X1_pointY : Cond.code yX1_pointY cX1_pointY 2 (some .int) ∈ TBL := wi_11 _ (List.mem_of_getElem? (i := 33) rfl)
theorem li_X1_pointY : Cond.static yX1_pointY ∈ TBL := wi_11 _ (List.mem_of_getElem? (i := 34) rfl)
theorem lc_X1_realitiesWithin : Cond.code yX1_realitiesWithin cX1_realitiesWithin 5 (some .int) ∈ TBL := wi_11 _ (List.mem_of_getElem? (i := 35) rfl)
theorem li_X1_realitiesWithin : Cond.instanceMethod yX1_realitiesWithin ∈ TBL := wi_11 _ (List.mem_of_getElem? (i := 36) rfl)
theorem ls_X1_realitiesWithin : Cond.selects RX1 yX1_realitiesWithin yX1_realitiesWithin ∈ TBL := wi_11 _ (List.mem_of_getElem? (i := 37) rfl)
theorem lc_X1_refusalOf : Cond.code yX1_refusalOf cX1_refusalOf 3 (some .int) ∈ TBL := wi_11 _ (List.mem_of_getElem? (i := 38) rfl)
theorem li_X1_refusalOf : Cond.instanceMethod yX1_refusalOf ∈ TBL := wi_11 _ (List.mem_of_getElem? (i := 39) rfl)
def wc_12 : List Cond := [Cond.selects RX1 yX1_refusalOf yX1_refusalOf, Cond.code yX1_refusalOfHanding cX1_refusalOfHanding 3 (some .int), Cond.instanceMethod yX1_refusalOfHanding, Cond.selects RX1 yX1_refusalOfHanding yX1_refusalOfHanding, Cond.code yX1_refusalOfJoin cX1_refusalOfJoin 5 (some .int), Cond.instanceMethod yX1_refusalOfJoin, Cond.selects RX1 yX1_refusalOfJoin yX1_refusalOfJoin, Cond.code yX1_startAnew cX1_startAnew 3 (some .int), Cond.instanceMethod yX1_startAnew, Cond.selects RX1 yX1_startAnew yX1_startAnew, Cond.code yX1_tidyAll cX1_tidyAll 3 (some .int), Cond.instanceMethod yX1_tidyAll, Cond.selects RX1 yX1_tidyAll yX1_tidyAll, Cond.code yX2_forget cX2_forget 1 none, Cond.instanceMethod yX2_forget, Cond.selects RX2 yX2_forget yX2_forget, Cond.code yX2_keep cX2_keep 2 none, Cond.instanceMethod yX2_keep, Cond.selects RX2 yX2_keep yX2_keep, Cond.code yX2_takeBack cX2_takeBack 2 none, Cond.instanceMethod yX2_takeBack, Cond.selects RX2 yX2_takeBack yX2_takeBack, Cond.code yX3_begin cX3_begin 1 none, Cond.instanceMethod yX3_begin, Cond.selects RX3 yX3_begin yX3_begin, Cond.code yX3_isBetween cX3_isBetween 4 (some .boolean), Cond.instanceMethod yX3_isBetween, Cond.selects RX3 yX3_isBetween yX3_isBetween, Cond.code yX3_skipBlanks cX3_skipBlanks 1 none, Cond.instanceMethod yX3_skipBlanks, Cond.selects RX3 yX3_skipBlanks yX3_skipBlanks, Cond.code yX3_takeAct cX3_takeAct 2 (some .boolean), Cond.instanceMethod yX3_takeAct, Cond.selects RX3 yX3_takeAct yX3_takeAct, Cond.code yX3_takeAim cX3_takeAim 2 (some .boolean), Cond.instanceMethod yX3_takeAim, Cond.selects RX3 yX3_takeAim yX3_takeAim, Cond.code yX3_takeKind cX3_takeKind 3 (some .boolean), Cond.instanceMethod yX3_takeKind, Cond.selects RX3 yX3_takeKind yX3_takeKind]
theorem wi_12 : ∀ w ∈ wc_12, w ∈ TBL := tb_ch _ [429, 476, 475, 5, 434, 433, 1, 585, 584, 8, 666, 665, 15, 711, 709, 710, 565, 563, 564, 967, 965, 966, 741, 739, 740, 753, 752, 22, 749, 748, 21, 745, 743, 744, 836, 835, 28, 761, 760, 24] (by decide +kernel) (by decide +kernel)
theorem ls_X1_refusalOf : Cond.selects RX1 yX1_refusalOf yX1_refusalOf ∈ TBL := wi_12 _ (List.mem_of_getElem? (i := 0) rfl)
theorem lc_X1_refusalOfHanding : Cond.code yX1_refusalOfHanding cX1_refusalOfHanding 3 (some .int) ∈ TBL := wi_12 _ (List.mem_of_getElem? (i := 1) rfl)
theorem li_X1_refusalOfHanding : Cond.instanceMethod yX1_refusalOfHanding ∈ TBL := wi_12 _ (List.mem_of_getElem? (i := 2) rfl)
theorem ls_X1_refusalOfHanding : Cond.selects RX1 yX1_refusalOfHanding yX1_refusalOfHanding ∈ TBL := wi_12 _ (List.mem_of_getElem? (i := 3) rfl)
theorem lc_X1_refusalOfJoin : Cond.code yX1_refusalOfJoin cX1_refusalOfJoin 5 (some .int) ∈ TBL := wi_12 _ (List.mem_of_getElem? (i := 4) rfl)
theorem li_X1_refusalOfJoin : Cond.instanceMethod yX1_refusalOfJoin ∈ TBL := wi_12 _ (List.mem_of_getElem? (i := 5) rfl)
theorem ls_X1_refusalOfJoin : Cond.selects RX1 yX1_refusalOfJoin yX1_refusalOfJoin ∈ TBL := wi_12 _ (List.mem_of_getElem? (i := 6) rfl)
theorem lc_X1_startAnew : Cond.code yX1_startAnew cX1_startAnew 3 (some .int) ∈ TBL := wi_12 _ (List.mem_of_getElem? (i := 7) rfl)
theorem li_X1_startAnew : Cond.instanceMethod yX1_startAnew ∈ TBL := wi_12 _ (List.mem_of_getElem? (i := 8) rfl)
theorem ls_X1_startAnew : Cond.selects RX1 yX1_startAnew yX1_startAnew ∈ TBL := wi_12 _ (List.mem_of_getElem? (i := 9) rfl)
theorem lc_X1_tidyAll : Cond.code yX1_tidyAll cX1_tidyAll 3 (some .int) ∈ TBL := wi_12 _ (List.mem_of_getElem? (i := 10) rfl)
theorem li_X1_tidyAll : Cond.instanceMethod yX1_tidyAll ∈ TBL := wi_12 _ (List.mem_of_getElem? (i := 11) rfl)
theorem ls_X1_tidyAll : Cond.selects RX1 yX1_tidyAll yX1_tidyAll ∈ TBL := wi_12 _ (List.mem_of_getElem? (i := 12) rfl)
theorem lc_X2_forget : Cond.code yX2_forget cX2_forget 1 none ∈ TBL := wi_12 _ (List.mem_of_getElem? (i := 13) rfl)
theorem li_X2_forget : Cond.instanceMethod yX2_forget ∈ TBL := wi_12 _ (List.mem_of_getElem? (i := 14) rfl)
theorem ls_X2_forget : Cond.selects RX2 yX2_forget yX2_forget ∈ TBL := wi_12 _ (List.mem_of_getElem? (i := 15) rfl)
theorem lc_X2_keep : Cond.code yX2_keep cX2_keep 2 none ∈ TBL := wi_12 _ (List.mem_of_getElem? (i := 16) rfl)
theorem li_X2_keep : Cond.instanceMethod yX2_keep ∈ TBL := wi_12 _ (List.mem_of_getElem? (i := 17) rfl)
theorem ls_X2_keep : Cond.selects RX2 yX2_keep yX2_keep ∈ TBL := wi_12 _ (List.mem_of_getElem? (i := 18) rfl)
theorem lc_X2_takeBack : Cond.code yX2_takeBack cX2_takeBack 2 none ∈ TBL := wi_12 _ (List.mem_of_getElem? (i := 19) rfl)
theorem li_X2_takeBack : Cond.instanceMethod yX2_takeBack ∈ TBL := wi_12 _ (List.mem_of_getElem? (i := 20) rfl)
theorem ls_X2_takeBack : Cond.selects RX2 yX2_takeBack yX2_takeBack ∈ TBL := wi_12 _ (List.mem_of_getElem? (i := 21) rfl)
theorem lc_X3_begin : Cond.code yX3_begin cX3_begin 1 none ∈ TBL := wi_12 _ (List.mem_of_getElem? (i := 22) rfl)
theorem li_X3_begin : Cond.instanceMethod yX3_begin ∈ TBL := wi_12 _ (List.mem_of_getElem? (i := 23) rfl)
theorem ls_X3_begin : Cond.selects RX3 yX3_begin yX3_begin ∈ TBL := wi_12 _ (List.mem_of_getElem? (i := 24) rfl)
theorem lc_X3_isBetween : Cond.code yX3_isBetween cX3_isBetween 4 (some .boolean) ∈ TBL := wi_12 _ (List.mem_of_getElem? (i := 25) rfl)
theorem li_X3_isBetween : Cond.instanceMethod yX3_isBetween ∈ TBL := wi_12 _ (List.mem_of_getElem? (i := 26) rfl)
theorem ls_X3_isBetween : Cond.selects RX3 yX3_isBetween yX3_isBetween ∈ TBL := wi_12 _ (List.mem_of_getElem? (i := 27) rfl)
theorem lc_X3_skipBlanks : Cond.code yX3_skipBlanks cX3_skipBlanks 1 none ∈ TBL := wi_12 _ (List.mem_of_getElem? (i := 28) rfl)
theorem li_X3_skipBlanks : Cond.instanceMethod yX3_skipBlanks ∈ TBL := wi_12 _ (List.mem_of_getElem? (i := 29) rfl)
theorem ls_X3_skipBlanks : Cond.selects RX3 yX3_skipBlanks yX3_skipBlanks ∈ TBL := wi_12 _ (List.mem_of_getElem? (i := 30) rfl)
theorem lc_X3_takeAct : Cond.code yX3_takeAct cX3_takeAct 2 (some .boolean) ∈ TBL := wi_12 _ (List.mem_of_getElem? (i := 31) rfl)
theorem li_X3_takeAct : Cond.instanceMethod yX3_takeAct ∈ TBL := wi_12 _ (List.mem_of_getElem? (i := 32) rfl)
theorem ls_X3_takeAct : Cond.selects RX3 yX3_takeAct yX3_takeAct ∈ TBL := wi_12 _ (List.mem_of_getElem? (i := 33) rfl)
theorem lc_X3_takeAim : Cond.code yX3_takeAim cX3_takeAim 2 (some .boolean) ∈ TBL := wi_12 _ (List.mem_of_getElem? (i := 34) rfl)
theorem li_X3_takeAim : Cond.instanceMethod yX3_takeAim ∈ TBL := wi_12 _ (List.mem_of_getElem? (i := 35) rfl)
theorem ls_X3_takeAim : Cond.selects RX3 yX3_takeAim yX3_takeAim ∈ TBL := wi_12 _ (List.mem_of_getElem? (i := 36) rfl)
theorem lc_X3_takeKind : Cond.code yX3_takeKind cX3_takeKind 3 (some .boolean) ∈ TBL := wi_12 _ (List.mem_of_getElem? (i := 37) rfl)
theorem li_X3_takeKind : Cond.instanceMethod yX3_takeKind ∈ TBL := wi_12 _ (List.mem_of_getElem? (i := 38) rfl)
theorem ls_X3_takeKind : Cond.selects RX3 yX3_takeKind yX3_takeKind ∈ TBL := wi_12 _ (List.mem_of_getElem? (i := 39) rfl)
def wc_13 : List Cond := [Cond.code yX3_takeNumber cX3_takeNumber 8 (some .boolean), Cond.instanceMethod yX3_takeNumber, Cond.selects RX3 yX3_takeNumber yX3_takeNumber, Cond.code yX3_takeNumbers cX3_takeNumbers 2 (some .boolean), Cond.instanceMethod yX3_takeNumbers, Cond.selects RX3 yX3_takeNumbers yX3_takeNumbers, Cond.code yX3_takeSemicolon cX3_takeSemicolon 1 (some .boolean), Cond.instanceMethod yX3_takeSemicolon, Cond.selects RX3 yX3_takeSemicolon yX3_takeSemicolon, Cond.code yX3_takeWord cX3_takeWord 4 (some .boolean), Cond.instanceMethod yX3_takeWord, Cond.selects RX3 yX3_takeWord yX3_takeWord, Cond.code yX4_besideOf cX4_besideOf 9 (some .int), Cond.instanceMethod yX4_besideOf, Cond.selects RX4 yX4_besideOf yX4_besideOf, Cond.code yX4_clear cX4_clear 1 none, Cond.instanceMethod yX4_clear, Cond.selects RX4 yX4_clear yX4_clear, Cond.code yX4_copyFrom cX4_copyFrom 2 none, Cond.instanceMethod yX4_copyFrom, Cond.selects RX4 yX4_copyFrom yX4_copyFrom, Cond.code yX4_deepestPair cX4_deepestPair 6 (some .int), Cond.instanceMethod yX4_deepestPair, Cond.selects RX4 yX4_deepestPair yX4_deepestPair, Cond.code yX4_depthOf cX4_depthOf 2 (some .int), Cond.static yX4_depthOf, Cond.code yX4_evenOf cX4_evenOf 5 (some .int), Cond.instanceMethod yX4_evenOf, Cond.selects RX4 yX4_evenOf yX4_evenOf, Cond.code yX4_everyOtherBit cX4_everyOtherBit 2 (some .int), Cond.static yX4_everyOtherBit, Cond.code yX4_firstZoneOfAny cX4_firstZoneOfAny 3 (some .int), Cond.instanceMethod yX4_firstZoneOfAny, Cond.selects RX4 yX4_firstZoneOfAny yX4_firstZoneOfAny, Cond.code yX4_give cX4_give 7 none, Cond.instanceMethod yX4_give, Cond.selects RX4 yX4_give yX4_give, Cond.code yX4_handAll cX4_handAll 6 none, Cond.instanceMethod yX4_handAll, Cond.selects RX4 yX4_handAll yX4_handAll]
theorem wi_13 : ∀ w ∈ wc_13, w ∈ TBL := tb_ch _ [832, 831, 27, 828, 827, 26, 757, 756, 23, 766, 765, 25, 625, 623, 624, 589, 587, 588, 573, 571, 572, 690, 689, 18, 609, 608, 1160, 1158, 1159, 637, 636, 1207, 1205, 1206, 606, 604, 605, 617, 615, 616] (by decide +kernel) (by decide +kernel)
theorem lc_X3_takeNumber : Cond.code yX3_takeNumber cX3_takeNumber 8 (some .boolean) ∈ TBL := wi_13 _ (List.mem_of_getElem? (i := 0) rfl)
theorem li_X3_takeNumber : Cond.instanceMethod yX3_takeNumber ∈ TBL := wi_13 _ (List.mem_of_getElem? (i := 1) rfl)
theorem ls_X3_takeNumber : Cond.selects RX3 yX3_takeNumber yX3_takeNumber ∈ TBL := wi_13 _ (List.mem_of_getElem? (i := 2) rfl)
theorem lc_X3_takeNumbers : Cond.code yX3_takeNumbers cX3_takeNumbers 2 (some .boolean) ∈ TBL := wi_13 _ (List.mem_of_getElem? (i := 3) rfl)
theorem li_X3_takeNumbers : Cond.instanceMethod yX3_takeNumbers ∈ TBL := wi_13 _ (List.mem_of_getElem? (i := 4) rfl)
theorem ls_X3_takeNumbers : Cond.selects RX3 yX3_takeNumbers yX3_takeNumbers ∈ TBL := wi_13 _ (List.mem_of_getElem? (i := 5) rfl)
theorem lc_X3_takeSemicolon : Cond.code yX3_takeSemicolon cX3_takeSemicolon 1 (some .boolean) ∈ TBL := wi_13 _ (List.mem_of_getElem? (i := 6) rfl)
theorem li_X3_takeSemicolon : Cond.instanceMethod yX3_takeSemicolon ∈ TBL := wi_13 _ (List.mem_of_getElem? (i := 7) rfl)
theorem ls_X3_takeSemicolon : Cond.selects RX3 yX3_takeSemicolon yX3_takeSemicolon ∈ TBL := wi_13 _ (List.mem_of_getElem? (i := 8) rfl)
theorem lc_X3_takeWord : Cond.code yX3_takeWord cX3_takeWord 4 (some .boolean) ∈ TBL := wi_13 _ (List.mem_of_getElem? (i := 9) rfl)
theorem li_X3_takeWord : Cond.instanceMethod yX3_takeWord ∈ TBL := wi_13 _ (List.mem_of_getElem? (i := 10) rfl)
theorem ls_X3_takeWord : Cond.selects RX3 yX3_takeWord yX3_takeWord ∈ TBL := wi_13 _ (List.mem_of_getElem? (i := 11) rfl)
theorem lc_X4_besideOf : Cond.code yX4_besideOf cX4_besideOf 9 (some .int) ∈ TBL := wi_13 _ (List.mem_of_getElem? (i := 12) rfl)
theorem li_X4_besideOf : Cond.instanceMethod yX4_besideOf ∈ TBL := wi_13 _ (List.mem_of_getElem? (i := 13) rfl)
theorem ls_X4_besideOf : Cond.selects RX4 yX4_besideOf yX4_besideOf ∈ TBL := wi_13 _ (List.mem_of_getElem? (i := 14) rfl)
theorem lc_X4_clear : Cond.code yX4_clear cX4_clear 1 none ∈ TBL := wi_13 _ (List.mem_of_getElem? (i := 15) rfl)
theorem li_X4_clear : Cond.instanceMethod yX4_clear ∈ TBL := wi_13 _ (List.mem_of_getElem? (i := 16) rfl)
theorem ls_X4_clear : Cond.selects RX4 yX4_clear yX4_clear ∈ TBL := wi_13 _ (List.mem_of_getElem? (i := 17) rfl)
theorem lc_X4_copyFrom : Cond.code yX4_copyFrom cX4_copyFrom 2 none ∈ TBL := wi_13 _ (List.mem_of_getElem? (i := 18) rfl)
theorem li_X4_copyFrom : Cond.instanceMethod yX4_copyFrom ∈ TBL := wi_13 _ (List.mem_of_getElem? (i := 19) rfl)
theorem ls_X4_copyFrom : Cond.selects RX4 yX4_copyFrom yX4_copyFrom ∈ TBL := wi_13 _ (List.mem_of_getElem? (i := 20) rfl)
theorem lc_X4_deepestPair : Cond.code yX4_deepestPair cX4_deepestPair 6 (some .int) ∈ TBL := wi_13 _ (List.mem_of_getElem? (i := 21) rfl)
theorem li_X4_deepestPair : Cond.instanceMethod yX4_deepestPair ∈ TBL := wi_13 _ (List.mem_of_getElem? (i := 22) rfl)
theorem ls_X4_deepestPair : Cond.selects RX4 yX4_deepestPair yX4_deepestPair ∈ TBL := wi_13 _ (List.mem_of_getElem? (i := 23) rfl)
theorem lc_X4_depthOf : Cond.code yX4_depthOf cX4_depthOf 2 (some .int) ∈ TBL := wi_13 _ (List.mem_of_getElem? (i := 24) rfl)
theorem li_X4_depthOf : Cond.static yX4_depthOf ∈ TBL := wi_13 _ (List.mem_of_getElem? (i := 25) rfl)
theorem lc_X4_evenOf : Cond.code yX4_evenOf cX4_evenOf 5 (some .int) ∈ TBL := wi_13 _ (List.mem_of_getElem? (i := 26) rfl)
theorem li_X4_evenOf : Cond.instanceMethod yX4_evenOf ∈ TBL := wi_13 _ (List.mem_of_getElem? (i := 27) rfl)
theorem ls_X4_evenOf : Cond.selects RX4 yX4_evenOf yX4_evenOf ∈ TBL := wi_13 _ (List.mem_of_getElem? (i := 28) rfl)
theorem lc_X4_everyOtherBit : Cond.code yX4_everyOtherBit cX4_everyOtherBit 2 (some .int) ∈ TBL := wi_13 _ (List.mem_of_getElem? (i := 29) rfl)
theorem li_X4_everyOtherBit : Cond.static yX4_everyOtherBit ∈ TBL := wi_13 _ (List.mem_of_getElem? (i := 30) rfl)
theorem lc_X4_firstZoneOfAny : Cond.code yX4_firstZoneOfAny cX4_firstZoneOfAny 3 (some .int) ∈ TBL := wi_13 _ (List.mem_of_getElem? (i := 31) rfl)
theorem li_X4_firstZoneOfAny : Cond.instanceMethod yX4_firstZoneOfAny ∈ TBL := wi_13 _ (List.mem_of_getElem? (i := 32) rfl)
theorem ls_X4_firstZoneOfAny : Cond.selects RX4 yX4_firstZoneOfAny yX4_firstZoneOfAny ∈ TBL := wi_13 _ (List.mem_of_getElem? (i := 33) rfl)
theorem lc_X4_give : Cond.code yX4_give cX4_give 7 none ∈ TBL := wi_13 _ (List.mem_of_getElem? (i := 34) rfl)
theorem li_X4_give : Cond.instanceMethod yX4_give ∈ TBL := wi_13 _ (List.mem_of_getElem? (i := 35) rfl)
theorem ls_X4_give : Cond.selects RX4 yX4_give yX4_give ∈ TBL := wi_13 _ (List.mem_of_getElem? (i := 36) rfl)
theorem lc_X4_handAll : Cond.code yX4_handAll cX4_handAll 6 none ∈ TBL := wi_13 _ (List.mem_of_getElem? (i := 37) rfl)
theorem li_X4_handAll : Cond.instanceMethod yX4_handAll ∈ TBL := wi_13 _ (List.mem_of_getElem? (i := 38) rfl)
theorem ls_X4_handAll : Cond.selects RX4 yX4_handAll yX4_handAll ∈ TBL := wi_13 _ (List.mem_of_getElem? (i := 39) rfl)
def wc_14 : List Cond := [Cond.code yX4_heirOf cX4_heirOf 5 (some .int), Cond.instanceMethod yX4_heirOf, Cond.selects RX4 yX4_heirOf yX4_heirOf, Cond.code yX4_high cX4_high 1 (some .int), Cond.static yX4_high, Cond.code yX4_leastOf cX4_leastOf 4 (some .int), Cond.instanceMethod yX4_leastOf, Cond.selects RX4 yX4_leastOf yX4_leastOf, Cond.code yX4_leastScattered cX4_leastScattered 2 (some .int), Cond.instanceMethod yX4_leastScattered, Cond.selects RX4 yX4_leastScattered yX4_leastScattered, Cond.code yX4_leastX cX4_leastX 2 (some .int), Cond.static yX4_leastX, Cond.code yX4_leastY cX4_leastY 2 (some .int), Cond.static yX4_leastY, Cond.code yX4_moveStray cX4_moveStray 6 none, Cond.instanceMethod yX4_moveStray, Cond.selects RX4 yX4_moveStray yX4_moveStray, Cond.code yX4_nodeAt cX4_nodeAt 3 (some .int), Cond.instanceMethod yX4_nodeAt, Cond.selects RX4 yX4_nodeAt yX4_nodeAt, Cond.code yX4_split cX4_split 5 none, Cond.instanceMethod yX4_split, Cond.selects RX4 yX4_split yX4_split, Cond.code yX4_tidyUp cX4_tidyUp 3 none, Cond.instanceMethod yX4_tidyUp, Cond.selects RX4 yX4_tidyUp yX4_tidyUp, Cond.code yX4_wide cX4_wide 1 (some .int), Cond.static yX4_wide, Cond.code yX4_zoneAt cX4_zoneAt 5 (some .int), Cond.instanceMethod yX4_zoneAt, Cond.selects RX4 yX4_zoneAt yX4_zoneAt, Cond.code yX4_zoneOf cX4_zoneOf 5 (some .int), Cond.instanceMethod yX4_zoneOf, Cond.selects RX4 yX4_zoneOf yX4_zoneOf, Cond.code yX4_zonesOfAll cX4_zonesOfAll 3 (some .int), Cond.instanceMethod yX4_zonesOfAll, Cond.selects RX4 yX4_zonesOfAll yX4_zonesOfAll, Cond.code yX4_zonesOfTheScattered cX4_zonesOfTheScattered 3 (some .int), Cond.instanceMethod yX4_zonesOfTheScattered]
theorem wi_14 : ∀ w ∈ wc_14, w ∈ TBL := tb_ch _ [621, 619, 620, 631, 630, 644, 643, 12, 678, 677, 16, 634, 633, 640, 639, 686, 685, 17, 448, 446, 447, 602, 600, 601, 674, 672, 673, 628, 627, 442, 440, 441, 682, 680, 681, 670, 668, 669, 1192, 1190] (by decide +kernel) (by decide +kernel)
theorem lc_X4_heirOf : Cond.code yX4_heirOf cX4_heirOf 5 (some .int) ∈ TBL := wi_14 _ (List.mem_of_getElem? (i := 0) rfl)
theorem li_X4_heirOf : Cond.instanceMethod yX4_heirOf ∈ TBL := wi_14 _ (List.mem_of_getElem? (i := 1) rfl)
theorem ls_X4_heirOf : Cond.selects RX4 yX4_heirOf yX4_heirOf ∈ TBL := wi_14 _ (List.mem_of_getElem? (i := 2) rfl)
theorem lc_X4_high : Cond.code yX4_high cX4_high 1 (some .int) ∈ TBL := wi_14 _ (List.mem_of_getElem? (i := 3) rfl)
theorem li_X4_high : Cond.static yX4_high ∈ TBL := wi_14 _ (List.mem_of_getElem? (i := 4) rfl)
theorem lc_X4_leastOf : Cond.code yX4_leastOf cX4_leastOf 4 (some .int) ∈ TBL := wi_14 _ (List.mem_of_getElem? (i := 5) rfl)
theorem li_X4_leastOf : Cond.instanceMethod yX4_leastOf ∈ TBL := wi_14 _ (List.mem_of_getElem? (i := 6) rfl)
theorem ls_X4_leastOf : Cond.selects RX4 yX4_leastOf yX4_leastOf ∈ TBL := wi_14 _ (List.mem_of_getElem? (i := 7) rfl)
theorem lc_X4_leastScattered : Cond.code yX4_leastScattered cX4_leastScattered 2 (some .int) ∈ TBL := wi_14 _ (List.mem_of_getElem? (i := 8) rfl)
theorem li_X4_leastScattered : Cond.instanceMethod yX4_leastScattered ∈ TBL := wi_14 _ (List.mem_of_getElem? (i := 9) rfl)
theorem ls_X4_leastScattered : Cond.selects RX4 yX4_leastScattered yX4_leastScattered ∈ TBL := wi_14 _ (List.mem_of_getElem? (i := 10) rfl)
theorem lc_X4_leastX : Cond.code yX4_leastX cX4_leastX 2 (some .int) ∈ TBL := wi_14 _ (List.mem_of_getElem? (i := 11) rfl)
theorem li_X4_leastX : Cond.static yX4_leastX ∈ TBL := wi_14 _ (List.mem_of_getElem? (i := 12) rfl)
theorem lc_X4_leastY : Cond.code yX4_leastY cX4_leastY 2 (some .int) ∈ TBL := wi_14 _ (List.mem_of_getElem? (i := 13) rfl)
theorem li_X4_leastY : Cond.static yX4_leastY ∈ TBL := wi_14 _ (List.mem_of_getElem? (i := 14) rfl)
theorem lc_X4_moveStray : Cond.code yX4_moveStray cX4_moveStray 6 none ∈ TBL := wi_14 _ (List.mem_of_getElem? (i := 15) rfl)
theorem li_X4_moveStray : Cond.instanceMethod yX4_moveStray ∈ TBL := wi_14 _ (List.mem_of_getElem? (i := 16) rfl)
theorem ls_X4_moveStray : Cond.selects RX4 yX4_moveStray yX4_moveStray ∈ TBL := wi_14 _ (List.mem_of_getElem? (i := 17) rfl)
theorem lc_X4_nodeAt : Cond.code yX4_nodeAt cX4_nodeAt 3 (some .int) ∈ TBL := wi_14 _ (List.mem_of_getElem? (i := 18) rfl)
theorem li_X4_nodeAt : Cond.instanceMethod yX4_nodeAt ∈ TBL := wi_14 _ (List.mem_of_getElem? (i := 19) rfl)
theorem ls_X4_nodeAt : Cond.selects RX4 yX4_nodeAt yX4_nodeAt ∈ TBL := wi_14 _ (List.mem_of_getElem? (i := 20) rfl)
theorem lc_X4_split : Cond.code yX4_split cX4_split 5 none ∈ TBL := wi_14 _ (List.mem_of_getElem? (i := 21) rfl)
theorem li_X4_split : Cond.instanceMethod yX4_split ∈ TBL := wi_14 _ (List.mem_of_getElem? (i := 22) rfl)
theorem ls_X4_split : Cond.selects RX4 yX4_split yX4_split ∈ TBL := wi_14 _ (List.mem_of_getElem? (i := 23) rfl)
theorem lc_X4_tidyUp : Cond.code yX4_tidyUp cX4_tidyUp 3 none ∈ TBL := wi_14 _ (List.mem_of_getElem? (i := 24) rfl)
theorem li_X4_tidyUp : Cond.instanceMethod yX4_tidyUp ∈ TBL := wi_14 _ (List.mem_of_getElem? (i := 25) rfl)
theorem ls_X4_tidyUp : Cond.selects RX4 yX4_tidyUp yX4_tidyUp ∈ TBL := wi_14 _ (List.mem_of_getElem? (i := 26) rfl)
theorem lc_X4_wide : Cond.code yX4_wide cX4_wide 1 (some .int) ∈ TBL := wi_14 _ (List.mem_of_getElem? (i := 27) rfl)
theorem li_X4_wide : Cond.static yX4_wide ∈ TBL := wi_14 _ (List.mem_of_getElem? (i := 28) rfl)
theorem lc_X4_zoneAt : Cond.code yX4_zoneAt cX4_zoneAt 5 (some .int) ∈ TBL := wi_14 _ (List.mem_of_getElem? (i := 29) rfl)
theorem li_X4_zoneAt : Cond.instanceMethod yX4_zoneAt ∈ TBL := wi_14 _ (List.mem_of_getElem? (i := 30) rfl)
theorem ls_X4_zoneAt : Cond.selects RX4 yX4_zoneAt yX4_zoneAt ∈ TBL := wi_14 _ (List.mem_of_getElem? (i := 31) rfl)
theorem lc_X4_zoneOf : Cond.code yX4_zoneOf cX4_zoneOf 5 (some .int) ∈ TBL := wi_14 _ (List.mem_of_getElem? (i := 32) rfl)
theorem li_X4_zoneOf : Cond.instanceMethod yX4_zoneOf ∈ TBL := wi_14 _ (List.mem_of_getElem? (i := 33) rfl)
theorem ls_X4_zoneOf : Cond.selects RX4 yX4_zoneOf yX4_zoneOf ∈ TBL := wi_14 _ (List.mem_of_getElem? (i := 34) rfl)
theorem lc_X4_zonesOfAll : Cond.code yX4_zonesOfAll cX4_zonesOfAll 3 (some .int) ∈ TBL := wi_14 _ (List.mem_of_getElem? (i := 35) rfl)
theorem li_X4_zonesOfAll : Cond.instanceMethod yX4_zonesOfAll ∈ TBL := wi_14 _ (List.mem_of_getElem? (i := 36) rfl)
theorem ls_X4_zonesOfAll : Cond.selects RX4 yX4_zonesOfAll yX4_zonesOfAll ∈ TBL := wi_14 _ (List.mem_of_getElem? (i := 37) rfl)
theorem lc_X4_zonesOfTheScattered : Cond.code yX4_zonesOfTheScattered cX4_zonesOfTheScattered 3 (some .int) ∈ TBL := wi_14 _ (List.mem_of_getElem? (i := 38) rfl)
theorem li_X4_zonesOfTheScattered : Cond.instanceMethod yX4_zonesOfTheScattered ∈ TBL := wi_14 _ (List.mem_of_getElem? (i := 39) rfl)
def wc_15 : List Cond := [Cond.selects RX4 yX4_zonesOfTheScattered yX4_zonesOfTheScattered, Cond.code yX5_addHinges cX5_addHinges 6 none, Cond.instanceMethod yX5_addHinges, Cond.selects RX5 yX5_addHinges yX5_addHinges, Cond.code yX5_walkAll cX5_walkAll 8 none, Cond.instanceMethod yX5_walkAll, Cond.selects RX5 yX5_walkAll yX5_walkAll, Cond.code yX5_walkTo cX5_walkTo 6 none, Cond.instanceMethod yX5_walkTo, Cond.selects RX5 yX5_walkTo yX5_walkTo, Cond.code yX6_append cX6_append 3 none, Cond.instanceMethod yX6_append, Cond.selects RX6 yX6_append yX6_append, Cond.code yX7_besideIn cX7_besideIn 3 (some .int), Cond.instanceMethod yX7_besideIn, Cond.selects RX7 yX7_besideIn yX7_besideIn, Cond.code yX7_follow cX7_follow 8 none, Cond.instanceMethod yX7_follow, Cond.selects RX7 yX7_follow yX7_follow, Cond.code yX7_hopsOrNone cX7_hopsOrNone 1 (some .int), Cond.instanceMethod yX7_hopsOrNone, Cond.selects RX7 yX7_hopsOrNone yX7_hopsOrNone, Cond.code yX7_lastNode cX7_lastNode 1 (some .int), Cond.instanceMethod yX7_lastNode, Cond.selects RX7 yX7_lastNode yX7_lastNode, Cond.code yX7_lookBeside cX7_lookBeside 7 none, Cond.instanceMethod yX7_lookBeside, Cond.selects RX7 yX7_lookBeside yX7_lookBeside, Cond.code yX7_lookFar cX7_lookFar 11 none, Cond.instanceMethod yX7_lookFar, Cond.selects RX7 yX7_lookFar yX7_lookFar, Cond.code yX7_nodeNearerThan cX7_nodeNearerThan 10 (some .int), Cond.instanceMethod yX7_nodeNearerThan, Cond.selects RX7 yX7_nodeNearerThan yX7_nodeNearerThan, Cond.code yX7_nodeOfWay cX7_nodeOfWay 2 (some .int), Cond.instanceMethod yX7_nodeOfWay, Cond.selects RX7 yX7_nodeOfWay yX7_nodeOfWay, Cond.code yX7_nodesBetween cX7_nodesBetween 3 (some .int), Cond.instanceMethod yX7_nodesBetween, Cond.selects RX7 yX7_nodesBetween yX7_nodesBetween]
theorem wi_15 : ∀ w ∈ wc_15, w ∈ TBL := tb_ch _ [1191, 1184, 1183, 36, 1168, 1166, 1167, 1178, 1177, 35, 402, 400, 401, 996, 994, 995, 1094, 1092, 1093, 1102, 1100, 1101, 1126, 1124, 1125, 990, 988, 989, 1079, 1077, 1078, 1098, 1097, 33, 1106, 1104, 1105, 1188, 1186, 1187] (by decide +kernel) (by decide +kernel)
theorem ls_X4_zonesOfTheScattered : Cond.selects RX4 yX4_zonesOfTheScattered yX4_zonesOfTheScattered ∈ TBL := wi_15 _ (List.mem_of_getElem? (i := 0) rfl)
theorem lc_X5_addHinges : Cond.code yX5_addHinges cX5_addHinges 6 none ∈ TBL := wi_15 _ (List.mem_of_getElem? (i := 1) rfl)
theorem li_X5_addHinges : Cond.instanceMethod yX5_addHinges ∈ TBL := wi_15 _ (List.mem_of_getElem? (i := 2) rfl)
theorem ls_X5_addHinges : Cond.selects RX5 yX5_addHinges yX5_addHinges ∈ TBL := wi_15 _ (List.mem_of_getElem? (i := 3) rfl)
theorem lc_X5_walkAll : Cond.code yX5_walkAll cX5_walkAll 8 none ∈ TBL := wi_15 _ (List.mem_of_getElem? (i := 4) rfl)
theorem li_X5_walkAll : Cond.instanceMethod yX5_walkAll ∈ TBL := wi_15 _ (List.mem_of_getElem? (i := 5) rfl)
theorem ls_X5_walkAll : Cond.selects RX5 yX5_walkAll yX5_walkAll ∈ TBL := wi_15 _ (List.mem_of_getElem? (i := 6) rfl)
theorem lc_X5_walkTo : Cond.code yX5_walkTo cX5_walkTo 6 none ∈ TBL := wi_15 _ (List.mem_of_getElem? (i := 7) rfl)
theorem li_X5_walkTo : Cond.instanceMethod yX5_walkTo ∈ TBL := wi_15 _ (List.mem_of_getElem? (i := 8) rfl)
theorem ls_X5_walkTo : Cond.selects RX5 yX5_walkTo yX5_walkTo ∈ TBL := wi_15 _ (List.mem_of_getElem? (i := 9) rfl)
theorem lc_X6_append : Cond.code yX6_append cX6_append 3 none ∈ TBL := wi_15 _ (List.mem_of_getElem? (i := 10) rfl)
theorem li_X6_append : Cond.instanceMethod yX6_append ∈ TBL := wi_15 _ (List.mem_of_getElem? (i := 11) rfl)
theorem ls_X6_append : Cond.selects RX6 yX6_append yX6_append ∈ TBL := wi_15 _ (List.mem_of_getElem? (i := 12) rfl)
theorem lc_X7_besideIn : Cond.code yX7_besideIn cX7_besideIn 3 (some .int) ∈ TBL := wi_15 _ (List.mem_of_getElem? (i := 13) rfl)
theorem li_X7_besideIn : Cond.instanceMethod yX7_besideIn ∈ TBL := wi_15 _ (List.mem_of_getElem? (i := 14) rfl)
theorem ls_X7_besideIn : Cond.selects RX7 yX7_besideIn yX7_besideIn ∈ TBL := wi_15 _ (List.mem_of_getElem? (i := 15) rfl)
theorem lc_X7_follow : Cond.code yX7_follow cX7_follow 8 none ∈ TBL := wi_15 _ (List.mem_of_getElem? (i := 16) rfl)
theorem li_X7_follow : Cond.instanceMethod yX7_follow ∈ TBL := wi_15 _ (List.mem_of_getElem? (i := 17) rfl)
theorem ls_X7_follow : Cond.selects RX7 yX7_follow yX7_follow ∈ TBL := wi_15 _ (List.mem_of_getElem? (i := 18) rfl)
theorem lc_X7_hopsOrNone : Cond.code yX7_hopsOrNone cX7_hopsOrNone 1 (some .int) ∈ TBL := wi_15 _ (List.mem_of_getElem? (i := 19) rfl)
theorem li_X7_hopsOrNone : Cond.instanceMethod yX7_hopsOrNone ∈ TBL := wi_15 _ (List.mem_of_getElem? (i := 20) rfl)
theorem ls_X7_hopsOrNone : Cond.selects RX7 yX7_hopsOrNone yX7_hopsOrNone ∈ TBL := wi_15 _ (List.mem_of_getElem? (i := 21) rfl)
theorem lc_X7_lastNode : Cond.code yX7_lastNode cX7_lastNode 1 (some .int) ∈ TBL := wi_15 _ (List.mem_of_getElem? (i := 22) rfl)
theorem li_X7_lastNode : Cond.instanceMethod yX7_lastNode ∈ TBL := wi_15 _ (List.mem_of_getElem? (i := 23) rfl)
theorem ls_X7_lastNode : Cond.selects RX7 yX7_lastNode yX7_lastNode ∈ TBL := wi_15 _ (List.mem_of_getElem? (i := 24) rfl)
theorem lc_X7_lookBeside : Cond.code yX7_lookBeside cX7_lookBeside 7 none ∈ TBL := wi_15 _ (List.mem_of_getElem? (i := 25) rfl)
theorem li_X7_lookBeside : Cond.instanceMethod yX7_lookBeside ∈ TBL := wi_15 _ (List.mem_of_getElem? (i := 26) rfl)
theorem ls_X7_lookBeside : Cond.selects RX7 yX7_lookBeside yX7_lookBeside ∈ TBL := wi_15 _ (List.mem_of_getElem? (i := 27) rfl)
theorem lc_X7_lookFar : Cond.code yX7_lookFar cX7_lookFar 11 none ∈ TBL := wi_15 _ (List.mem_of_getElem? (i := 28) rfl)
theorem li_X7_lookFar : Cond.instanceMethod yX7_lookFar ∈ TBL := wi_15 _ (List.mem_of_getElem? (i := 29) rfl)
theorem ls_X7_lookFar : Cond.selects RX7 yX7_lookFar yX7_lookFar ∈ TBL := wi_15 _ (List.mem_of_getElem? (i := 30) rfl)
theorem lc_X7_nodeNearerThan : Cond.code yX7_nodeNearerThan cX7_nodeNearerThan 10 (some .int) ∈ TBL := wi_15 _ (List.mem_of_getElem? (i := 31) rfl)
theorem li_X7_nodeNearerThan : Cond.instanceMethod yX7_nodeNearerThan ∈ TBL := wi_15 _ (List.mem_of_getElem? (i := 32) rfl)
theorem ls_X7_nodeNearerThan : Cond.selects RX7 yX7_nodeNearerThan yX7_nodeNearerThan ∈ TBL := wi_15 _ (List.mem_of_getElem? (i := 33) rfl)
theorem lc_X7_nodeOfWay : Cond.code yX7_nodeOfWay cX7_nodeOfWay 2 (some .int) ∈ TBL := wi_15 _ (List.mem_of_getElem? (i := 34) rfl)
theorem li_X7_nodeOfWay : Cond.instanceMethod yX7_nodeOfWay ∈ TBL := wi_15 _ (List.mem_of_getElem? (i := 35) rfl)
theorem ls_X7_nodeOfWay : Cond.selects RX7 yX7_nodeOfWay yX7_nodeOfWay ∈ TBL := wi_15 _ (List.mem_of_getElem? (i := 36) rfl)
theorem lc_X7_nodesBetween : Cond.code yX7_nodesBetween cX7_nodesBetween 3 (some .int) ∈ TBL := wi_15 _ (List.mem_of_getElem? (i := 37) rfl)
theorem li_X7_nodesBetween : Cond.instanceMethod yX7_nodesBetween ∈ TBL := wi_15 _ (List.mem_of_getElem? (i := 38) rfl)
theorem ls_X7_nodesBetween : Cond.selects RX7 yX7_nodesBetween yX7_nodesBetween ∈ TBL := wi_15 _ (List.mem_of_getElem? (i := 39) rfl)
def wc_16 : List Cond := [Cond.code yX7_stepsTo cX7_stepsTo 3 (some .int), Cond.static yX7_stepsTo, Cond.code yX8_checkCell cX8_checkCell 2 none, Cond.static yX8_checkCell, Cond.code yX8_checkKey cX8_checkKey 1 none, Cond.static yX8_checkKey, Cond.code yX8_checkNode cX8_checkNode 1 none, Cond.static yX8_checkNode, Cond.code yX8_checkReality cX8_checkReality 2 none, Cond.instanceMethod yX8_checkReality, Cond.selects RX8 yX8_checkReality yX8_checkReality, Cond.code yX8_checkUp cX8_checkUp 2 none, Cond.instanceMethod yX8_checkUp, Cond.selects RX8 yX8_checkUp yX8_checkUp, Cond.code yX8_checkWhat cX8_checkWhat 2 none, Cond.static yX8_checkWhat, Cond.code yX8_delayOfWay cX8_delayOfWay 3 (some .int), Cond.instanceMethod yX8_delayOfWay, Cond.selects RX8 yX8_delayOfWay yX8_delayOfWay, Cond.code yX8_dropText cX8_dropText 3 none, Cond.instanceMethod yX8_dropText, Cond.selects RX8 yX8_dropText yX8_dropText, Cond.code yX8_hubOf cX8_hubOf 6 (some .int), Cond.instanceMethod yX8_hubOf, Cond.selects RX8 yX8_hubOf yX8_hubOf, Cond.code yX8_isCell cX8_isCell 2 (some .boolean), Cond.static yX8_isCell, Cond.code yX8_isPlace cX8_isPlace 2 (some .boolean), Cond.static yX8_isPlace, Cond.code yX8_settle cX8_settle 1 none, Cond.instanceMethod yX8_settle, Cond.selects RX8 yX8_settle yX8_settle, Cond.code yX8_stretch cX8_stretch 7 (some .int), Cond.static yX8_stretch, Cond.code yX9_act cX9_act 4 (some .int), Cond.instanceMethod yX9_act, Cond.selects RX9 yX9_act yX9_act, Cond.code yX9_allWays cX9_allWays 3 none, Cond.instanceMethod yX9_allWays, Cond.selects RX9 yX9_allWays yX9_allWays]
theorem wi_16 : ∀ w ∈ wc_16, w ∈ TBL := tb_ch _ [1085, 1084, 1036, 1035, 946, 945, 894, 893, 985, 984, 30, 1074, 1073, 32, 913, 912, 1118, 1117, 34, 842, 841, 29, 1004, 1003, 31, 873, 872, 870, 869, 426, 425, 0, 1129, 1128, 1356, 1355, 40, 1814, 1813, 114] (by decide +kernel) (by decide +kernel)
theorem lc_X7_stepsTo : Cond.code yX7_stepsTo cX7_stepsTo 3 (some .int) ∈ TBL := wi_16 _ (List.mem_of_getElem? (i := 0) rfl)
theorem li_X7_stepsTo : Cond.static yX7_stepsTo ∈ TBL := wi_16 _ (List.mem_of_getElem? (i := 1) rfl)
theorem lc_X8_checkCell : Cond.code yX8_checkCell cX8_checkCell 2 none ∈ TBL := wi_16 _ (List.mem_of_getElem? (i := 2) rfl)
theorem li_X8_checkCell : Cond.static yX8_checkCell ∈ TBL := wi_16 _ (List.mem_of_getElem? (i := 3) rfl)
theorem lc_X8_checkKey : Cond.code yX8_checkKey cX8_checkKey 1 none ∈ TBL := wi_16 _ (List.mem_of_getElem? (i := 4) rfl)
theorem li_X8_checkKey : Cond.static yX8_checkKey ∈ TBL := wi_16 _ (List.mem_of_getElem? (i := 5) rfl)
theorem lc_X8_checkNode : Cond.code yX8_checkNode cX8_checkNode 1 none ∈ TBL := wi_16 _ (List.mem_of_getElem? (i := 6) rfl)
theorem li_X8_checkNode : Cond.static yX8_checkNode ∈ TBL := wi_16 _ (List.mem_of_getElem? (i := 7) rfl)
theorem lc_X8_checkReality : Cond.code yX8_checkReality cX8_checkReality 2 none ∈ TBL := wi_16 _ (List.mem_of_getElem? (i := 8) rfl)
theorem li_X8_checkReality : Cond.instanceMethod yX8_checkReality ∈ TBL := wi_16 _ (List.mem_of_getElem? (i := 9) rfl)
theorem ls_X8_checkReality : Cond.selects RX8 yX8_checkReality yX8_checkReality ∈ TBL := wi_16 _ (List.mem_of_getElem? (i := 10) rfl)
theorem lc_X8_checkUp : Cond.code yX8_checkUp cX8_checkUp 2 none ∈ TBL := wi_16 _ (List.mem_of_getElem? (i := 11) rfl)
theorem li_X8_checkUp : Cond.instanceMethod yX8_checkUp ∈ TBL := wi_16 _ (List.mem_of_getElem? (i := 12) rfl)
theorem ls_X8_checkUp : Cond.selects RX8 yX8_checkUp yX8_checkUp ∈ TBL := wi_16 _ (List.mem_of_getElem? (i := 13) rfl)
theorem lc_X8_checkWhat : Cond.code yX8_checkWhat cX8_checkWhat 2 none ∈ TBL := wi_16 _ (List.mem_of_getElem? (i := 14) rfl)
theorem li_X8_checkWhat : Cond.static yX8_checkWhat ∈ TBL := wi_16 _ (List.mem_of_getElem? (i := 15) rfl)
theorem lc_X8_delayOfWay : Cond.code yX8_delayOfWay cX8_delayOfWay 3 (some .int) ∈ TBL := wi_16 _ (List.mem_of_getElem? (i := 16) rfl)
theorem li_X8_delayOfWay : Cond.instanceMethod yX8_delayOfWay ∈ TBL := wi_16 _ (List.mem_of_getElem? (i := 17) rfl)
theorem ls_X8_delayOfWay : Cond.selects RX8 yX8_delayOfWay yX8_delayOfWay ∈ TBL := wi_16 _ (List.mem_of_getElem? (i := 18) rfl)
theorem lc_X8_dropText : Cond.code yX8_dropText cX8_dropText 3 none ∈ TBL := wi_16 _ (List.mem_of_getElem? (i := 19) rfl)
theorem li_X8_dropText : Cond.instanceMethod yX8_dropText ∈ TBL := wi_16 _ (List.mem_of_getElem? (i := 20) rfl)
theorem ls_X8_dropText : Cond.selects RX8 yX8_dropText yX8_dropText ∈ TBL := wi_16 _ (List.mem_of_getElem? (i := 21) rfl)
theorem lc_X8_hubOf : Cond.code yX8_hubOf cX8_hubOf 6 (some .int) ∈ TBL := wi_16 _ (List.mem_of_getElem? (i := 22) rfl)
theorem li_X8_hubOf : Cond.instanceMethod yX8_hubOf ∈ TBL := wi_16 _ (List.mem_of_getElem? (i := 23) rfl)
theorem ls_X8_hubOf : Cond.selects RX8 yX8_hubOf yX8_hubOf ∈ TBL := wi_16 _ (List.mem_of_getElem? (i := 24) rfl)
theorem lc_X8_isCell : Cond.code yX8_isCell cX8_isCell 2 (some .boolean) ∈ TBL := wi_16 _ (List.mem_of_getElem? (i := 25) rfl)
theorem li_X8_isCell : Cond.static yX8_isCell ∈ TBL := wi_16 _ (List.mem_of_getElem? (i := 26) rfl)
theorem lc_X8_isPlace : Cond.code yX8_isPlace cX8_isPlace 2 (some .boolean) ∈ TBL := wi_16 _ (List.mem_of_getElem? (i := 27) rfl)
theorem li_X8_isPlace : Cond.static yX8_isPlace ∈ TBL := wi_16 _ (List.mem_of_getElem? (i := 28) rfl)
theorem lc_X8_settle : Cond.code yX8_settle cX8_settle 1 none ∈ TBL := wi_16 _ (List.mem_of_getElem? (i := 29) rfl)
theorem li_X8_settle : Cond.instanceMethod yX8_settle ∈ TBL := wi_16 _ (List.mem_of_getElem? (i := 30) rfl)
theorem ls_X8_settle : Cond.selects RX8 yX8_settle yX8_settle ∈ TBL := wi_16 _ (List.mem_of_getElem? (i := 31) rfl)
theorem lc_X8_stretch : Cond.code yX8_stretch cX8_stretch 7 (some .int) ∈ TBL := wi_16 _ (List.mem_of_getElem? (i := 32) rfl)
theorem li_X8_stretch : Cond.static yX8_stretch ∈ TBL := wi_16 _ (List.mem_of_getElem? (i := 33) rfl)
theorem lc_X9_act : Cond.code yX9_act cX9_act 4 (some .int) ∈ TBL := wi_16 _ (List.mem_of_getElem? (i := 34) rfl)
theorem li_X9_act : Cond.instanceMethod yX9_act ∈ TBL := wi_16 _ (List.mem_of_getElem? (i := 35) rfl)
theorem ls_X9_act : Cond.selects RX9 yX9_act yX9_act ∈ TBL := wi_16 _ (List.mem_of_getElem? (i := 36) rfl)
theorem lc_X9_allWays : Cond.code yX9_allWays cX9_allWays 3 none ∈ TBL := wi_16 _ (List.mem_of_getElem? (i := 37) rfl)
theorem li_X9_allWays : Cond.instanceMethod yX9_allWays ∈ TBL := wi_16 _ (List.mem_of_getElem? (i := 38) rfl)
theorem ls_X9_allWays : Cond.selects RX9 yX9_allWays yX9_allWays ∈ TBL := wi_16 _ (List.mem_of_getElem? (i := 39) rfl)
def wc_17 : List Cond := [Cond.code yX9_allZones cX9_allZones 3 (some .int), Cond.instanceMethod yX9_allZones, Cond.selects RX9 yX9_allZones yX9_allZones, Cond.code yX9_apart cX9_apart 2 (some .int), Cond.static yX9_apart, Cond.code yX9_areBeside cX9_areBeside 5 (some .boolean), Cond.instanceMethod yX9_areBeside, Cond.selects RX9 yX9_areBeside yX9_areBeside, Cond.code yX9_arePair cX9_arePair 3 (some .boolean), Cond.instanceMethod yX9_arePair, Cond.selects RX9 yX9_arePair yX9_arePair, Cond.code yX9_around cX9_around 3 (some .int), Cond.static yX9_around, Cond.code yX9_besideNode cX9_besideNode 4 (some .int), Cond.instanceMethod yX9_besideNode, Cond.selects RX9 yX9_besideNode yX9_besideNode, Cond.code yX9_besideZone cX9_besideZone 4 (some .int), Cond.instanceMethod yX9_besideZone, Cond.selects RX9 yX9_besideZone yX9_besideZone, Cond.code yX9_bitsOf cX9_bitsOf 4 (some .int), Cond.instanceMethod yX9_bitsOf, Cond.selects RX9 yX9_bitsOf yX9_bitsOf, Cond.code yX9_boxes cX9_boxes 4 none, Cond.instanceMethod yX9_boxes, Cond.selects RX9 yX9_boxes yX9_boxes, Cond.code yX9_canHold cX9_canHold 4 (some .boolean), Cond.instanceMethod yX9_canHold, Cond.selects RX9 yX9_canHold yX9_canHold, Cond.code yX9_clearsAll cX9_clearsAll 3 none, Cond.instanceMethod yX9_clearsAll, Cond.selects RX9 yX9_clearsAll yX9_clearsAll, Cond.code yX9_common cX9_common 5 (some .int), Cond.static yX9_common, Cond.code yX9_countOf cX9_countOf 4 (some .int), Cond.instanceMethod yX9_countOf, Cond.selects RX9 yX9_countOf yX9_countOf, Cond.code yX9_crash0 cX9_crash0 4 (some .int), Cond.instanceMethod yX9_crash0, Cond.selects RX9 yX9_crash0 yX9_crash0, Cond.code yX9_cut0 cX9_cut0 3 (some .int)]
theorem wi_17 : ∀ w ∈ wc_17, w ∈ TBL := tb_ch _ [1662, 1661, 97, 1409, 1408, 1508, 1507, 73, 1818, 1817, 115, 1752, 1751, 1697, 1696, 99, 1504, 1503, 72, 1480, 1479, 66, 1443, 1442, 58, 1602, 1601, 91, 1371, 1370, 43, 1790, 1789, 1421, 1420, 54, 1534, 1533, 78, 1607] (by decide +kernel) (by decide +kernel)
theorem lc_X9_allZones : Cond.code yX9_allZones cX9_allZones 3 (some .int) ∈ TBL := wi_17 _ (List.mem_of_getElem? (i := 0) rfl)
theorem li_X9_allZones : Cond.instanceMethod yX9_allZones ∈ TBL := wi_17 _ (List.mem_of_getElem? (i := 1) rfl)
theorem ls_X9_allZones : Cond.selects RX9 yX9_allZones yX9_allZones ∈ TBL := wi_17 _ (List.mem_of_getElem? (i := 2) rfl)
theorem lc_X9_apart : Cond.code yX9_apart cX9_apart 2 (some .int) ∈ TBL := wi_17 _ (List.mem_of_getElem? (i := 3) rfl)
theorem li_X9_apart : Cond.static yX9_apart ∈ TBL := wi_17 _ (List.mem_of_getElem? (i := 4) rfl)
theorem lc_X9_areBeside : Cond.code yX9_areBeside cX9_areBeside 5 (some .boolean) ∈ TBL := wi_17 _ (List.mem_of_getElem? (i := 5) rfl)
theorem li_X9_areBeside : Cond.instanceMethod yX9_areBeside ∈ TBL := wi_17 _ (List.mem_of_getElem? (i := 6) rfl)
theorem ls_X9_areBeside : Cond.selects RX9 yX9_areBeside yX9_areBeside ∈ TBL := wi_17 _ (List.mem_of_getElem? (i := 7) rfl)
theorem lc_X9_arePair : Cond.code yX9_arePair cX9_arePair 3 (some .boolean) ∈ TBL := wi_17 _ (List.mem_of_getElem? (i := 8) rfl)
theorem li_X9_arePair : Cond.instanceMethod yX9_arePair ∈ TBL := wi_17 _ (List.mem_of_getElem? (i := 9) rfl)
theorem ls_X9_arePair : Cond.selects RX9 yX9_arePair yX9_arePair ∈ TBL := wi_17 _ (List.mem_of_getElem? (i := 10) rfl)
theorem lc_X9_around : Cond.code yX9_around cX9_around 3 (some .int) ∈ TBL := wi_17 _ (List.mem_of_getElem? (i := 11) rfl)
theorem li_X9_around : Cond.static yX9_around ∈ TBL := wi_17 _ (List.mem_of_getElem? (i := 12) rfl)
theorem lc_X9_besideNode : Cond.code yX9_besideNode cX9_besideNode 4 (some .int) ∈ TBL := wi_17 _ (List.mem_of_getElem? (i := 13) rfl)
theorem li_X9_besideNode : Cond.instanceMethod yX9_besideNode ∈ TBL := wi_17 _ (List.mem_of_getElem? (i := 14) rfl)
theorem ls_X9_besideNode : Cond.selects RX9 yX9_besideNode yX9_besideNode ∈ TBL := wi_17 _ (List.mem_of_getElem? (i := 15) rfl)
theorem lc_X9_besideZone : Cond.code yX9_besideZone cX9_besideZone 4 (some .int) ∈ TBL := wi_17 _ (List.mem_of_getElem? (i := 16) rfl)
theorem li_X9_besideZone : Cond.instanceMethod yX9_besideZone ∈ TBL := wi_17 _ (List.mem_of_getElem? (i := 17) rfl)
theorem ls_X9_besideZone : Cond.selects RX9 yX9_besideZone yX9_besideZone ∈ TBL := wi_17 _ (List.mem_of_getElem? (i := 18) rfl)
theorem lc_X9_bitsOf : Cond.code yX9_bitsOf cX9_bitsOf 4 (some .int) ∈ TBL := wi_17 _ (List.mem_of_getElem? (i := 19) rfl)
theorem li_X9_bitsOf : Cond.instanceMethod yX9_bitsOf ∈ TBL := wi_17 _ (List.mem_of_getElem? (i := 20) rfl)
theorem ls_X9_bitsOf : Cond.selects RX9 yX9_bitsOf yX9_bitsOf ∈ TBL := wi_17 _ (List.mem_of_getElem? (i := 21) rfl)
theorem lc_X9_boxes : Cond.code yX9_boxes cX9_boxes 4 none ∈ TBL := wi_17 _ (List.mem_of_getElem? (i := 22) rfl)
theorem li_X9_boxes : Cond.instanceMethod yX9_boxes ∈ TBL := wi_17 _ (List.mem_of_getElem? (i := 23) rfl)
theorem ls_X9_boxes : Cond.selects RX9 yX9_boxes yX9_boxes ∈ TBL := wi_17 _ (List.mem_of_getElem? (i := 24) rfl)
theorem lc_X9_canHold : Cond.code yX9_canHold cX9_canHold 4 (some .boolean) ∈ TBL := wi_17 _ (List.mem_of_getElem? (i := 25) rfl)
theorem li_X9_canHold : Cond.instanceMethod yX9_canHold ∈ TBL := wi_17 _ (List.mem_of_getElem? (i := 26) rfl)
theorem ls_X9_canHold : Cond.selects RX9 yX9_canHold yX9_canHold ∈ TBL := wi_17 _ (List.mem_of_getElem? (i := 27) rfl)
theorem lc_X9_clearsAll : Cond.code yX9_clearsAll cX9_clearsAll 3 none ∈ TBL := wi_17 _ (List.mem_of_getElem? (i := 28) rfl)
theorem li_X9_clearsAll : Cond.instanceMethod yX9_clearsAll ∈ TBL := wi_17 _ (List.mem_of_getElem? (i := 29) rfl)
theorem ls_X9_clearsAll : Cond.selects RX9 yX9_clearsAll yX9_clearsAll ∈ TBL := wi_17 _ (List.mem_of_getElem? (i := 30) rfl)
theorem lc_X9_common : Cond.code yX9_common cX9_common 5 (some .int) ∈ TBL := wi_17 _ (List.mem_of_getElem? (i := 31) rfl)
theorem li_X9_common : Cond.static yX9_common ∈ TBL := wi_17 _ (List.mem_of_getElem? (i := 32) rfl)
theorem lc_X9_countOf : Cond.code yX9_countOf cX9_countOf 4 (some .int) ∈ TBL := wi_17 _ (List.mem_of_getElem? (i := 33) rfl)
theorem li_X9_countOf : Cond.instanceMethod yX9_countOf ∈ TBL := wi_17 _ (List.mem_of_getElem? (i := 34) rfl)
theorem ls_X9_countOf : Cond.selects RX9 yX9_countOf yX9_countOf ∈ TBL := wi_17 _ (List.mem_of_getElem? (i := 35) rfl)
theorem lc_X9_crash0 : Cond.code yX9_crash0 cX9_crash0 4 (some .int) ∈ TBL := wi_17 _ (List.mem_of_getElem? (i := 36) rfl)
theorem li_X9_crash0 : Cond.instanceMethod yX9_crash0 ∈ TBL := wi_17 _ (List.mem_of_getElem? (i := 37) rfl)
theorem ls_X9_crash0 : Cond.selects RX9 yX9_crash0 yX9_crash0 ∈ TBL := wi_17 _ (List.mem_of_getElem? (i := 38) rfl)
theorem lc_X9_cut0 : Cond.code yX9_cut0 cX9_cut0 3 (some .int) ∈ TBL := wi_17 _ (List.mem_of_getElem? (i := 39) rfl)
def wc_18 : List Cond := [Cond.instanceMethod yX9_cut0, Cond.selects RX9 yX9_cut0 yX9_cut0, Cond.code yX9_delay cX9_delay 3 (some .int), Cond.instanceMethod yX9_delay, Cond.selects RX9 yX9_delay yX9_delay, Cond.code yX9_depthOf cX9_depthOf 2 (some .int), Cond.static yX9_depthOf, Cond.code yX9_even cX9_even 5 (some .int), Cond.instanceMethod yX9_even, Cond.selects RX9 yX9_even yX9_even, Cond.code yX9_farFrom cX9_farFrom 4 (some .int), Cond.instanceMethod yX9_farFrom, Cond.selects RX9 yX9_farFrom yX9_farFrom, Cond.code yX9_farFromKey cX9_farFromKey 5 (some .int), Cond.instanceMethod yX9_farFromKey, Cond.selects RX9 yX9_farFromKey yX9_farFromKey, Cond.code yX9_farOf cX9_farOf 6 (some .int), Cond.instanceMethod yX9_farOf, Cond.selects RX9 yX9_farOf yX9_farOf, Cond.code yX9_gives cX9_gives 4 none, Cond.instanceMethod yX9_gives, Cond.selects RX9 yX9_gives yX9_gives, Cond.code yX9_go0 cX9_go0 3 (some .int), Cond.instanceMethod yX9_go0, Cond.selects RX9 yX9_go0 yX9_go0, Cond.code yX9_goText cX9_goText 3 (some .int), Cond.instanceMethod yX9_goText, Cond.selects RX9 yX9_goText yX9_goText, Cond.code yX9_goes cX9_goes 6 none, Cond.instanceMethod yX9_goes, Cond.selects RX9 yX9_goes yX9_goes, Cond.code yX9_goesAway cX9_goesAway 3 none, Cond.instanceMethod yX9_goesAway, Cond.selects RX9 yX9_goesAway yX9_goesAway, Cond.code yX9_goesTo cX9_goesTo 4 none, Cond.instanceMethod yX9_goesTo, Cond.selects RX9 yX9_goesTo yX9_goesTo, Cond.code yX9_halfAt cX9_halfAt 2 (some .int), Cond.static yX9_halfAt, Cond.code yX9_halfWith cX9_halfWith 4 (some .int)]
theorem wi_18 : ∀ w ∈ wc_18, w ∈ TBL := tb_ch _ [1606, 92, 1779, 1778, 109, 1446, 1445, 1810, 1809, 113, 1406, 1405, 51, 1771, 1770, 107, 1748, 1747, 104, 1526, 1525, 76, 1468, 1467, 63, 1464, 1463, 62, 1744, 1743, 103, 1484, 1483, 67, 1822, 1821, 116, 1439, 1438, 1436] (by decide +kernel) (by decide +kernel)
theorem li_X9_cut0 : Cond.instanceMethod yX9_cut0 ∈ TBL := wi_18 _ (List.mem_of_getElem? (i := 0) rfl)
theorem ls_X9_cut0 : Cond.selects RX9 yX9_cut0 yX9_cut0 ∈ TBL := wi_18 _ (List.mem_of_getElem? (i := 1) rfl)
theorem lc_X9_delay : Cond.code yX9_delay cX9_delay 3 (some .int) ∈ TBL := wi_18 _ (List.mem_of_getElem? (i := 2) rfl)
theorem li_X9_delay : Cond.instanceMethod yX9_delay ∈ TBL := wi_18 _ (List.mem_of_getElem? (i := 3) rfl)
theorem ls_X9_delay : Cond.selects RX9 yX9_delay yX9_delay ∈ TBL := wi_18 _ (List.mem_of_getElem? (i := 4) rfl)
theorem lc_X9_depthOf : Cond.code yX9_depthOf cX9_depthOf 2 (some .int) ∈ TBL := wi_18 _ (List.mem_of_getElem? (i := 5) rfl)
theorem li_X9_depthOf : Cond.static yX9_depthOf ∈ TBL := wi_18 _ (List.mem_of_getElem? (i := 6) rfl)
theorem lc_X9_even : Cond.code yX9_even cX9_even 5 (some .int) ∈ TBL := wi_18 _ (List.mem_of_getElem? (i := 7) rfl)
theorem li_X9_even : Cond.instanceMethod yX9_even ∈ TBL := wi_18 _ (List.mem_of_getElem? (i := 8) rfl)
theorem ls_X9_even : Cond.selects RX9 yX9_even yX9_even ∈ TBL := wi_18 _ (List.mem_of_getElem? (i := 9) rfl)
theorem lc_X9_farFrom : Cond.code yX9_farFrom cX9_farFrom 4 (some .int) ∈ TBL := wi_18 _ (List.mem_of_getElem? (i := 10) rfl)
theorem li_X9_farFrom : Cond.instanceMethod yX9_farFrom ∈ TBL := wi_18 _ (List.mem_of_getElem? (i := 11) rfl)
theorem ls_X9_farFrom : Cond.selects RX9 yX9_farFrom yX9_farFrom ∈ TBL := wi_18 _ (List.mem_of_getElem? (i := 12) rfl)
theorem lc_X9_farFromKey : Cond.code yX9_farFromKey cX9_farFromKey 5 (some .int) ∈ TBL := wi_18 _ (List.mem_of_getElem? (i := 13) rfl)
theorem li_X9_farFromKey : Cond.instanceMethod yX9_farFromKey ∈ TBL := wi_18 _ (List.mem_of_getElem? (i := 14) rfl)
theorem ls_X9_farFromKey : Cond.selects RX9 yX9_farFromKey yX9_farFromKey ∈ TBL := wi_18 _ (List.mem_of_getElem? (i := 15) rfl)
theorem lc_X9_farOf : Cond.code yX9_farOf cX9_farOf 6 (some .int) ∈ TBL := wi_18 _ (List.mem_of_getElem? (i := 16) rfl)
theorem li_X9_farOf : Cond.instanceMethod yX9_farOf ∈ TBL := wi_18 _ (List.mem_of_getElem? (i := 17) rfl)
theorem ls_X9_farOf : Cond.selects RX9 yX9_farOf yX9_farOf ∈ TBL := wi_18 _ (List.mem_of_getElem? (i := 18) rfl)
theorem lc_X9_gives : Cond.code yX9_gives cX9_gives 4 none ∈ TBL := wi_18 _ (List.mem_of_getElem? (i := 19) rfl)
theorem li_X9_gives : Cond.instanceMethod yX9_gives ∈ TBL := wi_18 _ (List.mem_of_getElem? (i := 20) rfl)
theorem ls_X9_gives : Cond.selects RX9 yX9_gives yX9_gives ∈ TBL := wi_18 _ (List.mem_of_getElem? (i := 21) rfl)
theorem lc_X9_go0 : Cond.code yX9_go0 cX9_go0 3 (some .int) ∈ TBL := wi_18 _ (List.mem_of_getElem? (i := 22) rfl)
theorem li_X9_go0 : Cond.instanceMethod yX9_go0 ∈ TBL := wi_18 _ (List.mem_of_getElem? (i := 23) rfl)
theorem ls_X9_go0 : Cond.selects RX9 yX9_go0 yX9_go0 ∈ TBL := wi_18 _ (List.mem_of_getElem? (i := 24) rfl)
theorem lc_X9_goText : Cond.code yX9_goText cX9_goText 3 (some .int) ∈ TBL := wi_18 _ (List.mem_of_getElem? (i := 25) rfl)
theorem li_X9_goText : Cond.instanceMethod yX9_goText ∈ TBL := wi_18 _ (List.mem_of_getElem? (i := 26) rfl)
theorem ls_X9_goText : Cond.selects RX9 yX9_goText yX9_goText ∈ TBL := wi_18 _ (List.mem_of_getElem? (i := 27) rfl)
theorem lc_X9_goes : Cond.code yX9_goes cX9_goes 6 none ∈ TBL := wi_18 _ (List.mem_of_getElem? (i := 28) rfl)
theorem li_X9_goes : Cond.instanceMethod yX9_goes ∈ TBL := wi_18 _ (List.mem_of_getElem? (i := 29) rfl)
theorem ls_X9_goes : Cond.selects RX9 yX9_goes yX9_goes ∈ TBL := wi_18 _ (List.mem_of_getElem? (i := 30) rfl)
theorem lc_X9_goesAway : Cond.code yX9_goesAway cX9_goesAway 3 none ∈ TBL := wi_18 _ (List.mem_of_getElem? (i := 31) rfl)
theorem li_X9_goesAway : Cond.instanceMethod yX9_goesAway ∈ TBL := wi_18 _ (List.mem_of_getElem? (i := 32) rfl)
theorem ls_X9_goesAway : Cond.selects RX9 yX9_goesAway yX9_goesAway ∈ TBL := wi_18 _ (List.mem_of_getElem? (i := 33) rfl)
theorem lc_X9_goesTo : Cond.code yX9_goesTo cX9_goesTo 4 none ∈ TBL := wi_18 _ (List.mem_of_getElem? (i := 34) rfl)
theorem li_X9_goesTo : Cond.instanceMethod yX9_goesTo ∈ TBL := wi_18 _ (List.mem_of_getElem? (i := 35) rfl)
theorem ls_X9_goesTo : Cond.selects RX9 yX9_goesTo yX9_goesTo ∈ TBL := wi_18 _ (List.mem_of_getElem? (i := 36) rfl)
theorem lc_X9_halfAt : Cond.code yX9_halfAt cX9_halfAt 2 (some .int) ∈ TBL := wi_18 _ (List.mem_of_getElem? (i := 37) rfl)
theorem li_X9_halfAt : Cond.static yX9_halfAt ∈ TBL := wi_18 _ (List.mem_of_getElem? (i := 38) rfl)
theorem lc_X9_halfWith : Cond.code yX9_halfWith cX9_halfWith 4 (some .int) ∈ TBL := wi_18 _ (List.mem_of_getElem? (i := 39) rfl)
def wc_19 : List Cond := [Cond.instanceMethod yX9_halfWith, Cond.selects RX9 yX9_halfWith yX9_halfWith, Cond.code yX9_handsAll cX9_handsAll 6 none, Cond.instanceMethod yX9_handsAll, Cond.selects RX9 yX9_handsAll yX9_handsAll, Cond.code yX9_has cX9_has 4 (some .boolean), Cond.instanceMethod yX9_has, Cond.selects RX9 yX9_has yX9_has, Cond.code yX9_hasOther cX9_hasOther 3 (some .boolean), Cond.instanceMethod yX9_hasOther, Cond.selects RX9 yX9_hasOther yX9_hasOther, Cond.code yX9_heirOf cX9_heirOf 7 (some .int), Cond.instanceMethod yX9_heirOf, Cond.selects RX9 yX9_heirOf yX9_heirOf, Cond.code yX9_heldCopies cX9_heldCopies 4 (some .int), Cond.instanceMethod yX9_heldCopies, Cond.selects RX9 yX9_heldCopies yX9_heldCopies, Cond.code yX9_heldIn cX9_heldIn 4 (some .int), Cond.instanceMethod yX9_heldIn, Cond.selects RX9 yX9_heldIn yX9_heldIn, Cond.code yX9_here cX9_here 1 (some .int), Cond.instanceMethod yX9_here, Cond.selects RX9 yX9_here yX9_here, Cond.code yX9_hinges cX9_hinges 3 (some .int), Cond.instanceMethod yX9_hinges, Cond.selects RX9 yX9_hinges yX9_hinges, Cond.code yX9_hubOf cX9_hubOf 3 (some .int), Cond.instanceMethod yX9_hubOf, Cond.selects RX9 yX9_hubOf yX9_hubOf, Cond.code yX9_isAllWith cX9_isAllWith 4 (some .boolean), Cond.instanceMethod yX9_isAllWith, Cond.selects RX9 yX9_isAllWith yX9_isAllWith, Cond.code yX9_isCell cX9_isCell 2 (some .boolean), Cond.static yX9_isCell, Cond.code yX9_isDone cX9_isDone 3 (some .boolean), Cond.instanceMethod yX9_isDone, Cond.selects RX9 yX9_isDone yX9_isDone, Cond.code yX9_isHeld cX9_isHeld 3 (some .boolean), Cond.instanceMethod yX9_isHeld, Cond.selects RX9 yX9_isHeld yX9_isHeld]
theorem wi_19 : ∀ w ∈ wc_19, w ∈ TBL := tb_ch _ [1435, 57, 1488, 1487, 68, 1361, 1360, 41, 1476, 1475, 65, 1492, 1491, 69, 1830, 1829, 118, 1616, 1615, 94, 1348, 1347, 38, 1838, 1837, 119, 1705, 1704, 101, 1798, 1797, 112, 1634, 1633, 1638, 1637, 95, 1538, 1537, 79] (by decide +kernel) (by decide +kernel)
theorem li_X9_halfWith : Cond.instanceMethod yX9_halfWith ∈ TBL := wi_19 _ (List.mem_of_getElem? (i := 0) rfl)
theorem ls_X9_halfWith : Cond.selects RX9 yX9_halfWith yX9_halfWith ∈ TBL := wi_19 _ (List.mem_of_getElem? (i := 1) rfl)
theorem lc_X9_handsAll : Cond.code yX9_handsAll cX9_handsAll 6 none ∈ TBL := wi_19 _ (List.mem_of_getElem? (i := 2) rfl)
theorem li_X9_handsAll : Cond.instanceMethod yX9_handsAll ∈ TBL := wi_19 _ (List.mem_of_getElem? (i := 3) rfl)
theorem ls_X9_handsAll : Cond.selects RX9 yX9_handsAll yX9_handsAll ∈ TBL := wi_19 _ (List.mem_of_getElem? (i := 4) rfl)
theorem lc_X9_has : Cond.code yX9_has cX9_has 4 (some .boolean) ∈ TBL := wi_19 _ (List.mem_of_getElem? (i := 5) rfl)
theorem li_X9_has : Cond.instanceMethod yX9_has ∈ TBL := wi_19 _ (List.mem_of_getElem? (i := 6) rfl)
theorem ls_X9_has : Cond.selects RX9 yX9_has yX9_has ∈ TBL := wi_19 _ (List.mem_of_getElem? (i := 7) rfl)
theorem lc_X9_hasOther : Cond.code yX9_hasOther cX9_hasOther 3 (some .boolean) ∈ TBL := wi_19 _ (List.mem_of_getElem? (i := 8) rfl)
theorem li_X9_hasOther : Cond.instanceMethod yX9_hasOther ∈ TBL := wi_19 _ (List.mem_of_getElem? (i := 9) rfl)
theorem ls_X9_hasOther : Cond.selects RX9 yX9_hasOther yX9_hasOther ∈ TBL := wi_19 _ (List.mem_of_getElem? (i := 10) rfl)
theorem lc_X9_heirOf : Cond.code yX9_heirOf cX9_heirOf 7 (some .int) ∈ TBL := wi_19 _ (List.mem_of_getElem? (i := 11) rfl)
theorem li_X9_heirOf : Cond.instanceMethod yX9_heirOf ∈ TBL := wi_19 _ (List.mem_of_getElem? (i := 12) rfl)
theorem ls_X9_heirOf : Cond.selects RX9 yX9_heirOf yX9_heirOf ∈ TBL := wi_19 _ (List.mem_of_getElem? (i := 13) rfl)
theorem lc_X9_heldCopies : Cond.code yX9_heldCopies cX9_heldCopies 4 (some .int) ∈ TBL := wi_19 _ (List.mem_of_getElem? (i := 14) rfl)
theorem li_X9_heldCopies : Cond.instanceMethod yX9_heldCopies ∈ TBL := wi_19 _ (List.mem_of_getElem? (i := 15) rfl)
theorem ls_X9_heldCopies : Cond.selects RX9 yX9_heldCopies yX9_heldCopies ∈ TBL := wi_19 _ (List.mem_of_getElem? (i := 16) rfl)
theorem lc_X9_heldIn : Cond.code yX9_heldIn cX9_heldIn 4 (some .int) ∈ TBL := wi_19 _ (List.mem_of_getElem? (i := 17) rfl)
theorem li_X9_heldIn : Cond.instanceMethod yX9_heldIn ∈ TBL := wi_19 _ (List.mem_of_getElem? (i := 18) rfl)
theorem ls_X9_heldIn : Cond.selects RX9 yX9_heldIn yX9_heldIn ∈ TBL := wi_19 _ (List.mem_of_getElem? (i := 19) rfl)
theorem lc_X9_here : Cond.code yX9_here cX9_here 1 (some .int) ∈ TBL := wi_19 _ (List.mem_of_getElem? (i := 20) rfl)
theorem li_X9_here : Cond.instanceMethod yX9_here ∈ TBL := wi_19 _ (List.mem_of_getElem? (i := 21) rfl)
theorem ls_X9_here : Cond.selects RX9 yX9_here yX9_here ∈ TBL := wi_19 _ (List.mem_of_getElem? (i := 22) rfl)
theorem lc_X9_hinges : Cond.code yX9_hinges cX9_hinges 3 (some .int) ∈ TBL := wi_19 _ (List.mem_of_getElem? (i := 23) rfl)
theorem li_X9_hinges : Cond.instanceMethod yX9_hinges ∈ TBL := wi_19 _ (List.mem_of_getElem? (i := 24) rfl)
theorem ls_X9_hinges : Cond.selects RX9 yX9_hinges yX9_hinges ∈ TBL := wi_19 _ (List.mem_of_getElem? (i := 25) rfl)
theorem lc_X9_hubOf : Cond.code yX9_hubOf cX9_hubOf 3 (some .int) ∈ TBL := wi_19 _ (List.mem_of_getElem? (i := 26) rfl)
theorem li_X9_hubOf : Cond.instanceMethod yX9_hubOf ∈ TBL := wi_19 _ (List.mem_of_getElem? (i := 27) rfl)
theorem ls_X9_hubOf : Cond.selects RX9 yX9_hubOf yX9_hubOf ∈ TBL := wi_19 _ (List.mem_of_getElem? (i := 28) rfl)
theorem lc_X9_isAllWith : Cond.code yX9_isAllWith cX9_isAllWith 4 (some .boolean) ∈ TBL := wi_19 _ (List.mem_of_getElem? (i := 29) rfl)
theorem li_X9_isAllWith : Cond.instanceMethod yX9_isAllWith ∈ TBL := wi_19 _ (List.mem_of_getElem? (i := 30) rfl)
theorem ls_X9_isAllWith : Cond.selects RX9 yX9_isAllWith yX9_isAllWith ∈ TBL := wi_19 _ (List.mem_of_getElem? (i := 31) rfl)
theorem lc_X9_isCell : Cond.code yX9_isCell cX9_isCell 2 (some .boolean) ∈ TBL := wi_19 _ (List.mem_of_getElem? (i := 32) rfl)
theorem li_X9_isCell : Cond.static yX9_isCell ∈ TBL := wi_19 _ (List.mem_of_getElem? (i := 33) rfl)
theorem lc_X9_isDone : Cond.code yX9_isDone cX9_isDone 3 (some .boolean) ∈ TBL := wi_19 _ (List.mem_of_getElem? (i := 34) rfl)
theorem li_X9_isDone : Cond.instanceMethod yX9_isDone ∈ TBL := wi_19 _ (List.mem_of_getElem? (i := 35) rfl)
theorem ls_X9_isDone : Cond.selects RX9 yX9_isDone yX9_isDone ∈ TBL := wi_19 _ (List.mem_of_getElem? (i := 36) rfl)
theorem lc_X9_isHeld : Cond.code yX9_isHeld cX9_isHeld 3 (some .boolean) ∈ TBL := wi_19 _ (List.mem_of_getElem? (i := 37) rfl)
theorem li_X9_isHeld : Cond.instanceMethod yX9_isHeld ∈ TBL := wi_19 _ (List.mem_of_getElem? (i := 38) rfl)
theorem ls_X9_isHeld : Cond.selects RX9 yX9_isHeld yX9_isHeld ∈ TBL := wi_19 _ (List.mem_of_getElem? (i := 39) rfl)
def wc_20 : List Cond := [Cond.code yX9_isHinge cX9_isHinge 4 (some .boolean), Cond.instanceMethod yX9_isHinge, Cond.selects RX9 yX9_isHinge yX9_isHinge, Cond.code yX9_isIn cX9_isIn 3 (some .boolean), Cond.static yX9_isIn, Cond.code yX9_isInBox cX9_isInBox 3 (some .boolean), Cond.instanceMethod yX9_isInBox, Cond.selects RX9 yX9_isInBox yX9_isInBox, Cond.code yX9_isInside cX9_isInside 3 (some .boolean), Cond.static yX9_isInside, Cond.code yX9_isKey cX9_isKey 1 (some .boolean), Cond.static yX9_isKey, Cond.code yX9_isNearer cX9_isNearer 6 (some .boolean), Cond.instanceMethod yX9_isNearer, Cond.selects RX9 yX9_isNearer yX9_isNearer, Cond.code yX9_isNode cX9_isNode 1 (some .boolean), Cond.static yX9_isNode, Cond.code yX9_isPlace cX9_isPlace 2 (some .boolean), Cond.static yX9_isPlace, Cond.code yX9_isReality cX9_isReality 2 (some .boolean), Cond.instanceMethod yX9_isReality, Cond.selects RX9 yX9_isReality yX9_isReality, Cond.code yX9_isState cX9_isState 3 (some .boolean), Cond.instanceMethod yX9_isState, Cond.selects RX9 yX9_isState yX9_isState, Cond.code yX9_join0 cX9_join0 9 (some .int), Cond.instanceMethod yX9_join0, Cond.selects RX9 yX9_join0 yX9_join0, Cond.code yX9_joinText cX9_joinText 5 (some .int), Cond.instanceMethod yX9_joinText, Cond.selects RX9 yX9_joinText yX9_joinText, Cond.code yX9_keeperOf cX9_keeperOf 3 (some .int), Cond.instanceMethod yX9_keeperOf, Cond.selects RX9 yX9_keeperOf yX9_keeperOf, Cond.code yX9_landmark0 cX9_landmark0 3 (some .int), Cond.instanceMethod yX9_landmark0, Cond.selects RX9 yX9_landmark0 yX9_landmark0, Cond.code yX9_landmarkText cX9_landmarkText 3 (some .int), Cond.instanceMethod yX9_landmarkText, Cond.selects RX9 yX9_landmarkText yX9_landmarkText]
theorem wi_20 : ∀ w ∈ wc_20, w ∈ TBL := tb_ch _ [1842, 1841, 120, 1336, 1335, 1450, 1449, 59, 1589, 1588, 1669, 1668, 1402, 1401, 50, 1654, 1653, 1631, 1630, 1693, 1692, 98, 1417, 1416, 53, 1413, 1412, 52, 1385, 1384, 46, 1542, 1541, 80, 1380, 1379, 45, 1376, 1375, 44] (by decide +kernel) (by decide +kernel)
theorem lc_X9_isHinge : Cond.code yX9_isHinge cX9_isHinge 4 (some .boolean) ∈ TBL := wi_20 _ (List.mem_of_getElem? (i := 0) rfl)
theorem li_X9_isHinge : Cond.instanceMethod yX9_isHinge ∈ TBL := wi_20 _ (List.mem_of_getElem? (i := 1) rfl)
theorem ls_X9_isHinge : Cond.selects RX9 yX9_isHinge yX9_isHinge ∈ TBL := wi_20 _ (List.mem_of_getElem? (i := 2) rfl)
theorem lc_X9_isIn : Cond.code yX9_isIn cX9_isIn 3 (some .boolean) ∈ TBL := wi_20 _ (List.mem_of_getElem? (i := 3) rfl)
theorem li_X9_isIn : Cond.static yX9_isIn ∈ TBL := wi_20 _ (List.mem_of_getElem? (i := 4) rfl)
theorem lc_X9_isInBox : Cond.code yX9_isInBox cX9_isInBox 3 (some .boolean) ∈ TBL := wi_20 _ (List.mem_of_getElem? (i := 5) rfl)
theorem li_X9_isInBox : Cond.instanceMethod yX9_isInBox ∈ TBL := wi_20 _ (List.mem_of_getElem? (i := 6) rfl)
theorem ls_X9_isInBox : Cond.selects RX9 yX9_isInBox yX9_isInBox ∈ TBL := wi_20 _ (List.mem_of_getElem? (i := 7) rfl)
theorem lc_X9_isInside : Cond.code yX9_isInside cX9_isInside 3 (some .boolean) ∈ TBL := wi_20 _ (List.mem_of_getElem? (i := 8) rfl)
theorem li_X9_isInside : Cond.static yX9_isInside ∈ TBL := wi_20 _ (List.mem_of_getElem? (i := 9) rfl)
theorem lc_X9_isKey : Cond.code yX9_isKey cX9_isKey 1 (some .boolean) ∈ TBL := wi_20 _ (List.mem_of_getElem? (i := 10) rfl)
theorem li_X9_isKey : Cond.static yX9_isKey ∈ TBL := wi_20 _ (List.mem_of_getElem? (i := 11) rfl)
theorem lc_X9_isNearer : Cond.code yX9_isNearer cX9_isNearer 6 (some .boolean) ∈ TBL := wi_20 _ (List.mem_of_getElem? (i := 12) rfl)
theorem li_X9_isNearer : Cond.instanceMethod yX9_isNearer ∈ TBL := wi_20 _ (List.mem_of_getElem? (i := 13) rfl)
theorem ls_X9_isNearer : Cond.selects RX9 yX9_isNearer yX9_isNearer ∈ TBL := wi_20 _ (List.mem_of_getElem? (i := 14) rfl)
theorem lc_X9_isNode : Cond.code yX9_isNode cX9_isNode 1 (some .boolean) ∈ TBL := wi_20 _ (List.mem_of_getElem? (i := 15) rfl)
theorem li_X9_isNode : Cond.static yX9_isNode ∈ TBL := wi_20 _ (List.mem_of_getElem? (i := 16) rfl)
theorem lc_X9_isPlace : Cond.code yX9_isPlace cX9_isPlace 2 (some .boolean) ∈ TBL := wi_20 _ (List.mem_of_getElem? (i := 17) rfl)
theorem li_X9_isPlace : Cond.static yX9_isPlace ∈ TBL := wi_20 _ (List.mem_of_getElem? (i := 18) rfl)
theorem lc_X9_isReality : Cond.code yX9_isReality cX9_isReality 2 (some .boolean) ∈ TBL := wi_20 _ (List.mem_of_getElem? (i := 19) rfl)
theorem li_X9_isReality : Cond.instanceMethod yX9_isReality ∈ TBL := wi_20 _ (List.mem_of_getElem? (i := 20) rfl)
theorem ls_X9_isReality : Cond.selects RX9 yX9_isReality yX9_isReality ∈ TBL := wi_20 _ (List.mem_of_getElem? (i := 21) rfl)
theorem lc_X9_isState : Cond.code yX9_isState cX9_isState 3 (some .boolean) ∈ TBL := wi_20 _ (List.mem_of_getElem? (i := 22) rfl)
theorem li_X9_isState : Cond.instanceMethod yX9_isState ∈ TBL := wi_20 _ (List.mem_of_getElem? (i := 23) rfl)
theorem ls_X9_isState : Cond.selects RX9 yX9_isState yX9_isState ∈ TBL := wi_20 _ (List.mem_of_getElem? (i := 24) rfl)
theorem lc_X9_join0 : Cond.code yX9_join0 cX9_join0 9 (some .int) ∈ TBL := wi_20 _ (List.mem_of_getElem? (i := 25) rfl)
theorem li_X9_join0 : Cond.instanceMethod yX9_join0 ∈ TBL := wi_20 _ (List.mem_of_getElem? (i := 26) rfl)
theorem ls_X9_join0 : Cond.selects RX9 yX9_join0 yX9_join0 ∈ TBL := wi_20 _ (List.mem_of_getElem? (i := 27) rfl)
theorem lc_X9_joinText : Cond.code yX9_joinText cX9_joinText 5 (some .int) ∈ TBL := wi_20 _ (List.mem_of_getElem? (i := 28) rfl)
theorem li_X9_joinText : Cond.instanceMethod yX9_joinText ∈ TBL := wi_20 _ (List.mem_of_getElem? (i := 29) rfl)
theorem ls_X9_joinText : Cond.selects RX9 yX9_joinText yX9_joinText ∈ TBL := wi_20 _ (List.mem_of_getElem? (i := 30) rfl)
theorem lc_X9_keeperOf : Cond.code yX9_keeperOf cX9_keeperOf 3 (some .int) ∈ TBL := wi_20 _ (List.mem_of_getElem? (i := 31) rfl)
theorem li_X9_keeperOf : Cond.instanceMethod yX9_keeperOf ∈ TBL := wi_20 _ (List.mem_of_getElem? (i := 32) rfl)
theorem ls_X9_keeperOf : Cond.selects RX9 yX9_keeperOf yX9_keeperOf ∈ TBL := wi_20 _ (List.mem_of_getElem? (i := 33) rfl)
theorem lc_X9_landmark0 : Cond.code yX9_landmark0 cX9_landmark0 3 (some .int) ∈ TBL := wi_20 _ (List.mem_of_getElem? (i := 34) rfl)
theorem li_X9_landmark0 : Cond.instanceMethod yX9_landmark0 ∈ TBL := wi_20 _ (List.mem_of_getElem? (i := 35) rfl)
theorem ls_X9_landmark0 : Cond.selects RX9 yX9_landmark0 yX9_landmark0 ∈ TBL := wi_20 _ (List.mem_of_getElem? (i := 36) rfl)
theorem lc_X9_landmarkText : Cond.code yX9_landmarkText cX9_landmarkText 3 (some .int) ∈ TBL := wi_20 _ (List.mem_of_getElem? (i := 37) rfl)
theorem li_X9_landmarkText : Cond.instanceMethod yX9_landmarkText ∈ TBL := wi_20 _ (List.mem_of_getElem? (i := 38) rfl)
theorem ls_X9_landmarkText : Cond.selects RX9 yX9_landmarkText yX9_landmarkText ∈ TBL := wi_20 _ (List.mem_of_getElem? (i := 39) rfl)
def wc_21 : List Cond := [Cond.code yX9_laysList cX9_laysList 3 none, Cond.instanceMethod yX9_laysList, Cond.selects RX9 yX9_laysList yX9_laysList, Cond.code yX9_leastOf cX9_leastOf 4 (some .int), Cond.instanceMethod yX9_leastOf, Cond.selects RX9 yX9_leastOf yX9_leastOf, Cond.code yX9_leave0 cX9_leave0 2 (some .int), Cond.instanceMethod yX9_leave0, Cond.selects RX9 yX9_leave0 yX9_leave0, Cond.code yX9_lesser cX9_lesser 2 (some .int), Cond.static yX9_lesser, Cond.code yX9_loadOf cX9_loadOf 5 (some .int), Cond.instanceMethod yX9_loadOf, Cond.selects RX9 yX9_loadOf yX9_loadOf, Cond.code yX9_lostCopies cX9_lostCopies 4 (some .int), Cond.instanceMethod yX9_lostCopies, Cond.selects RX9 yX9_lostCopies yX9_lostCopies, Cond.code yX9_manifold cX9_manifold 2 (some .int), Cond.instanceMethod yX9_manifold, Cond.selects RX9 yX9_manifold yX9_manifold, Cond.code yX9_meet cX9_meet 4 (some .boolean), Cond.static yX9_meet, Cond.code yX9_members cX9_members 3 (some .int), Cond.static yX9_members, Cond.code yX9_mend0 cX9_mend0 4 (some .int), Cond.instanceMethod yX9_mend0, Cond.selects RX9 yX9_mend0 yX9_mend0, Cond.code yX9_merges cX9_merges 5 none, Cond.instanceMethod yX9_merges, Cond.selects RX9 yX9_merges yX9_merges, Cond.code yX9_near0 cX9_near0 3 (some .int), Cond.instanceMethod yX9_near0, Cond.selects RX9 yX9_near0 yX9_near0, Cond.code yX9_nearestTo cX9_nearestTo 7 (some .int), Cond.instanceMethod yX9_nearestTo, Cond.selects RX9 yX9_nearestTo yX9_nearestTo, Cond.code yX9_nextToKey cX9_nextToKey 6 (some .int), Cond.instanceMethod yX9_nextToKey, Cond.selects RX9 yX9_nextToKey yX9_nextToKey, Cond.code yX9_nodeAt cX9_nodeAt 5 (some .int)]
theorem wi_21 : ∀ w ∈ wc_21, w ∈ TBL := tb_ch _ [1496, 1495, 70, 1518, 1517, 74, 1472, 1471, 64, 1755, 1754, 1701, 1700, 100, 1874, 1873, 124, 1574, 1573, 85, 1514, 1513, 1708, 1707, 1612, 1611, 93, 1530, 1529, 77, 1390, 1389, 47, 1759, 1758, 105, 1775, 1774, 108, 1555] (by decide +kernel) (by decide +kernel)
theorem lc_X9_laysList : Cond.code yX9_laysList cX9_laysList 3 none ∈ TBL := wi_21 _ (List.mem_of_getElem? (i := 0) rfl)
theorem li_X9_laysList : Cond.instanceMethod yX9_laysList ∈ TBL := wi_21 _ (List.mem_of_getElem? (i := 1) rfl)
theorem ls_X9_laysList : Cond.selects RX9 yX9_laysList yX9_laysList ∈ TBL := wi_21 _ (List.mem_of_getElem? (i := 2) rfl)
theorem lc_X9_leastOf : Cond.code yX9_leastOf cX9_leastOf 4 (some .int) ∈ TBL := wi_21 _ (List.mem_of_getElem? (i := 3) rfl)
theorem li_X9_leastOf : Cond.instanceMethod yX9_leastOf ∈ TBL := wi_21 _ (List.mem_of_getElem? (i := 4) rfl)
theorem ls_X9_leastOf : Cond.selects RX9 yX9_leastOf yX9_leastOf ∈ TBL := wi_21 _ (List.mem_of_getElem? (i := 5) rfl)
theorem lc_X9_leave0 : Cond.code yX9_leave0 cX9_leave0 2 (some .int) ∈ TBL := wi_21 _ (List.mem_of_getElem? (i := 6) rfl)
theorem li_X9_leave0 : Cond.instanceMethod yX9_leave0 ∈ TBL := wi_21 _ (List.mem_of_getElem? (i := 7) rfl)
theorem ls_X9_leave0 : Cond.selects RX9 yX9_leave0 yX9_leave0 ∈ TBL := wi_21 _ (List.mem_of_getElem? (i := 8) rfl)
theorem lc_X9_lesser : Cond.code yX9_lesser cX9_lesser 2 (some .int) ∈ TBL := wi_21 _ (List.mem_of_getElem? (i := 9) rfl)
theorem li_X9_lesser : Cond.static yX9_lesser ∈ TBL := wi_21 _ (List.mem_of_getElem? (i := 10) rfl)
theorem lc_X9_loadOf : Cond.code yX9_loadOf cX9_loadOf 5 (some .int) ∈ TBL := wi_21 _ (List.mem_of_getElem? (i := 11) rfl)
theorem li_X9_loadOf : Cond.instanceMethod yX9_loadOf ∈ TBL := wi_21 _ (List.mem_of_getElem? (i := 12) rfl)
theorem ls_X9_loadOf : Cond.selects RX9 yX9_loadOf yX9_loadOf ∈ TBL := wi_21 _ (List.mem_of_getElem? (i := 13) rfl)
theorem lc_X9_lostCopies : Cond.code yX9_lostCopies cX9_lostCopies 4 (some .int) ∈ TBL := wi_21 _ (List.mem_of_getElem? (i := 14) rfl)
theorem li_X9_lostCopies : Cond.instanceMethod yX9_lostCopies ∈ TBL := wi_21 _ (List.mem_of_getElem? (i := 15) rfl)
theorem ls_X9_lostCopies : Cond.selects RX9 yX9_lostCopies yX9_lostCopies ∈ TBL := wi_21 _ (List.mem_of_getElem? (i := 16) rfl)
theorem lc_X9_manifold : Cond.code yX9_manifold cX9_manifold 2 (some .int) ∈ TBL := wi_21 _ (List.mem_of_getElem? (i := 17) rfl)
theorem li_X9_manifold : Cond.instanceMethod yX9_manifold ∈ TBL := wi_21 _ (List.mem_of_getElem? (i := 18) rfl)
theorem ls_X9_manifold : Cond.selects RX9 yX9_manifold yX9_manifold ∈ TBL := wi_21 _ (List.mem_of_getElem? (i := 19) rfl)
theorem lc_X9_meet : Cond.code yX9_meet cX9_meet 4 (some .boolean) ∈ TBL := wi_21 _ (List.mem_of_getElem? (i := 20) rfl)
theorem li_X9_meet : Cond.static yX9_meet ∈ TBL := wi_21 _ (List.mem_of_getElem? (i := 21) rfl)
theorem lc_X9_members : Cond.code yX9_members cX9_members 3 (some .int) ∈ TBL := wi_21 _ (List.mem_of_getElem? (i := 22) rfl)
theorem li_X9_members : Cond.static yX9_members ∈ TBL := wi_21 _ (List.mem_of_getElem? (i := 23) rfl)
theorem lc_X9_mend0 : Cond.code yX9_mend0 cX9_mend0 4 (some .int) ∈ TBL := wi_21 _ (List.mem_of_getElem? (i := 24) rfl)
theorem li_X9_mend0 : Cond.instanceMethod yX9_mend0 ∈ TBL := wi_21 _ (List.mem_of_getElem? (i := 25) rfl)
theorem ls_X9_mend0 : Cond.selects RX9 yX9_mend0 yX9_mend0 ∈ TBL := wi_21 _ (List.mem_of_getElem? (i := 26) rfl)
theorem lc_X9_merges : Cond.code yX9_merges cX9_merges 5 none ∈ TBL := wi_21 _ (List.mem_of_getElem? (i := 27) rfl)
theorem li_X9_merges : Cond.instanceMethod yX9_merges ∈ TBL := wi_21 _ (List.mem_of_getElem? (i := 28) rfl)
theorem ls_X9_merges : Cond.selects RX9 yX9_merges yX9_merges ∈ TBL := wi_21 _ (List.mem_of_getElem? (i := 29) rfl)
theorem lc_X9_near0 : Cond.code yX9_near0 cX9_near0 3 (some .int) ∈ TBL := wi_21 _ (List.mem_of_getElem? (i := 30) rfl)
theorem li_X9_near0 : Cond.instanceMethod yX9_near0 ∈ TBL := wi_21 _ (List.mem_of_getElem? (i := 31) rfl)
theorem ls_X9_near0 : Cond.selects RX9 yX9_near0 yX9_near0 ∈ TBL := wi_21 _ (List.mem_of_getElem? (i := 32) rfl)
theorem lc_X9_nearestTo : Cond.code yX9_nearestTo cX9_nearestTo 7 (some .int) ∈ TBL := wi_21 _ (List.mem_of_getElem? (i := 33) rfl)
theorem li_X9_nearestTo : Cond.instanceMethod yX9_nearestTo ∈ TBL := wi_21 _ (List.mem_of_getElem? (i := 34) rfl)
theorem ls_X9_nearestTo : Cond.selects RX9 yX9_nearestTo yX9_nearestTo ∈ TBL := wi_21 _ (List.mem_of_getElem? (i := 35) rfl)
theorem lc_X9_nextToKey : Cond.code yX9_nextToKey cX9_nextToKey 6 (some .int) ∈ TBL := wi_21 _ (List.mem_of_getElem? (i := 36) rfl)
theorem li_X9_nextToKey : Cond.instanceMethod yX9_nextToKey ∈ TBL := wi_21 _ (List.mem_of_getElem? (i := 37) rfl)
theorem ls_X9_nextToKey : Cond.selects RX9 yX9_nextToKey yX9_nextToKey ∈ TBL := wi_21 _ (List.mem_of_getElem? (i := 38) rfl)
theorem lc_X9_nodeAt : Cond.code yX9_nodeAt cX9_nodeAt 5 (some .int) ∈ TBL := wi_21 _ (List.mem_of_getElem? (i := 39) rfl)
def wc_22 : List Cond := [Cond.instanceMethod yX9_nodeAt, Cond.selects RX9 yX9_nodeAt yX9_nodeAt, Cond.code yX9_notice0 cX9_notice0 2 (some .int), Cond.instanceMethod yX9_notice0, Cond.selects RX9 yX9_notice0 yX9_notice0, Cond.code yX9_number cX9_number 5 (some .int), Cond.instanceMethod yX9_number, Cond.selects RX9 yX9_number yX9_number, Cond.code yX9_orderOf cX9_orderOf 9 (some .int), Cond.instanceMethod yX9_orderOf, Cond.selects RX9 yX9_orderOf yX9_orderOf, Cond.code yX9_ordersOf cX9_ordersOf 1 (some .int), Cond.instanceMethod yX9_ordersOf, Cond.selects RX9 yX9_ordersOf yX9_ordersOf, Cond.code yX9_ownerOf cX9_ownerOf 3 (some .int), Cond.instanceMethod yX9_ownerOf, Cond.selects RX9 yX9_ownerOf yX9_ownerOf, Cond.code yX9_owns cX9_owns 4 none, Cond.instanceMethod yX9_owns, Cond.selects RX9 yX9_owns yX9_owns, Cond.code yX9_parts cX9_parts 7 none, Cond.instanceMethod yX9_parts, Cond.selects RX9 yX9_parts yX9_parts, Cond.code yX9_placeInList cX9_placeInList 3 (some .int), Cond.instanceMethod yX9_placeInList, Cond.selects RX9 yX9_placeInList yX9_placeInList, Cond.code yX9_placesApart cX9_placesApart 3 (some .int), Cond.instanceMethod yX9_placesApart, Cond.selects RX9 yX9_placesApart yX9_placesApart, Cond.code yX9_pointOf cX9_pointOf 2 (some .int), Cond.static yX9_pointOf, Cond.code yX9_pointX cX9_pointX 2 (some .int), Cond.static yX9_pointX, Cond.code yX9_pointY cX9_pointY 2 (some .int), Cond.static yX9_pointY, Cond.code yX9_put0 cX9_put0 5 (some .int), Cond.instanceMethod yX9_put0, Cond.selects RX9 yX9_put0 yX9_put0, Cond.code yX9_putText cX9_putText 3 (some .int), Cond.instanceMethod yX9_putText]
theorem wi_22 : ∀ w ∈ wc_22, w ∈ TBL := tb_ch _ [1554, 81, 1559, 1558, 82, 1367, 1366, 42, 1398, 1397, 49, 1394, 1393, 48, 1432, 1431, 56, 1454, 1453, 60, 1458, 1457, 61, 1500, 1499, 71, 1783, 1782, 110, 1548, 1547, 1545, 1544, 1551, 1550, 1598, 1597, 90, 1594, 1593] (by decide +kernel) (by decide +kernel)
theorem li_X9_nodeAt : Cond.instanceMethod yX9_nodeAt ∈ TBL := wi_22 _ (List.mem_of_getElem? (i := 0) rfl)
theorem ls_X9_nodeAt : Cond.selects RX9 yX9_nodeAt yX9_nodeAt ∈ TBL := wi_22 _ (List.mem_of_getElem? (i := 1) rfl)
theorem lc_X9_notice0 : Cond.code yX9_notice0 cX9_notice0 2 (some .int) ∈ TBL := wi_22 _ (List.mem_of_getElem? (i := 2) rfl)
theorem li_X9_notice0 : Cond.instanceMethod yX9_notice0 ∈ TBL := wi_22 _ (List.mem_of_getElem? (i := 3) rfl)
theorem ls_X9_notice0 : Cond.selects RX9 yX9_notice0 yX9_notice0 ∈ TBL := wi_22 _ (List.mem_of_getElem? (i := 4) rfl)
theorem lc_X9_number : Cond.code yX9_number cX9_number 5 (some .int) ∈ TBL := wi_22 _ (List.mem_of_getElem? (i := 5) rfl)
theorem li_X9_number : Cond.instanceMethod yX9_number ∈ TBL := wi_22 _ (List.mem_of_getElem? (i := 6) rfl)
theorem ls_X9_number : Cond.selects RX9 yX9_number yX9_number ∈ TBL := wi_22 _ (List.mem_of_getElem? (i := 7) rfl)
theorem lc_X9_orderOf : Cond.code yX9_orderOf cX9_orderOf 9 (some .int) ∈ TBL := wi_22 _ (List.mem_of_getElem? (i := 8) rfl)
theorem li_X9_orderOf : Cond.instanceMethod yX9_orderOf ∈ TBL := wi_22 _ (List.mem_of_getElem? (i := 9) rfl)
theorem ls_X9_orderOf : Cond.selects RX9 yX9_orderOf yX9_orderOf ∈ TBL := wi_22 _ (List.mem_of_getElem? (i := 10) rfl)
theorem lc_X9_ordersOf : Cond.code yX9_ordersOf cX9_ordersOf 1 (some .int) ∈ TBL := wi_22 _ (List.mem_of_getElem? (i := 11) rfl)
theorem li_X9_ordersOf : Cond.instanceMethod yX9_ordersOf ∈ TBL := wi_22 _ (List.mem_of_getElem? (i := 12) rfl)
theorem ls_X9_ordersOf : Cond.selects RX9 yX9_ordersOf yX9_ordersOf ∈ TBL := wi_22 _ (List.mem_of_getElem? (i := 13) rfl)
theorem lc_X9_ownerOf : Cond.code yX9_ownerOf cX9_ownerOf 3 (some .int) ∈ TBL := wi_22 _ (List.mem_of_getElem? (i := 14) rfl)
theorem li_X9_ownerOf : Cond.instanceMethod yX9_ownerOf ∈ TBL := wi_22 _ (List.mem_of_getElem? (i := 15) rfl)
theorem ls_X9_ownerOf : Cond.selects RX9 yX9_ownerOf yX9_ownerOf ∈ TBL := wi_22 _ (List.mem_of_getElem? (i := 16) rfl)
theorem lc_X9_owns : Cond.code yX9_owns cX9_owns 4 none ∈ TBL := wi_22 _ (List.mem_of_getElem? (i := 17) rfl)
theorem li_X9_owns : Cond.instanceMethod yX9_owns ∈ TBL := wi_22 _ (List.mem_of_getElem? (i := 18) rfl)
theorem ls_X9_owns : Cond.selects RX9 yX9_owns yX9_owns ∈ TBL := wi_22 _ (List.mem_of_getElem? (i := 19) rfl)
theorem lc_X9_parts : Cond.code yX9_parts cX9_parts 7 none ∈ TBL := wi_22 _ (List.mem_of_getElem? (i := 20) rfl)
theorem li_X9_parts : Cond.instanceMethod yX9_parts ∈ TBL := wi_22 _ (List.mem_of_getElem? (i := 21) rfl)
theorem ls_X9_parts : Cond.selects RX9 yX9_parts yX9_parts ∈ TBL := wi_22 _ (List.mem_of_getElem? (i := 22) rfl)
theorem lc_X9_placeInList : Cond.code yX9_placeInList cX9_placeInList 3 (some .int) ∈ TBL := wi_22 _ (List.mem_of_getElem? (i := 23) rfl)
theorem li_X9_placeInList : Cond.instanceMethod yX9_placeInList ∈ TBL := wi_22 _ (List.mem_of_getElem? (i := 24) rfl)
theorem ls_X9_placeInList : Cond.selects RX9 yX9_placeInList yX9_placeInList ∈ TBL := wi_22 _ (List.mem_of_getElem? (i := 25) rfl)
theorem lc_X9_placesApart : Cond.code yX9_placesApart cX9_placesApart 3 (some .int) ∈ TBL := wi_22 _ (List.mem_of_getElem? (i := 26) rfl)
theorem li_X9_placesApart : Cond.instanceMethod yX9_placesApart ∈ TBL := wi_22 _ (List.mem_of_getElem? (i := 27) rfl)
theorem ls_X9_placesApart : Cond.selects RX9 yX9_placesApart yX9_placesApart ∈ TBL := wi_22 _ (List.mem_of_getElem? (i := 28) rfl)
theorem lc_X9_pointOf : Cond.code yX9_pointOf cX9_pointOf 2 (some .int) ∈ TBL := wi_22 _ (List.mem_of_getElem? (i := 29) rfl)
theorem li_X9_pointOf : Cond.static yX9_pointOf ∈ TBL := wi_22 _ (List.mem_of_getElem? (i := 30) rfl)
theorem lc_X9_pointX : Cond.code yX9_pointX cX9_pointX 2 (some .int) ∈ TBL := wi_22 _ (List.mem_of_getElem? (i := 31) rfl)
theorem li_X9_pointX : Cond.static yX9_pointX ∈ TBL := wi_22 _ (List.mem_of_getElem? (i := 32) rfl)
theorem lc_X9_pointY : Cond.code yX9_pointY cX9_pointY 2 (some .int) ∈ TBL := wi_22 _ (List.mem_of_getElem? (i := 33) rfl)
theorem li_X9_pointY : Cond.static yX9_pointY ∈ TBL := wi_22 _ (List.mem_of_getElem? (i := 34) rfl)
theorem lc_X9_put0 : Cond.code yX9_put0 cX9_put0 5 (some .int) ∈ TBL := wi_22 _ (List.mem_of_getElem? (i := 35) rfl)
theorem li_X9_put0 : Cond.instanceMethod yX9_put0 ∈ TBL := wi_22 _ (List.mem_of_getElem? (i := 36) rfl)
theorem ls_X9_put0 : Cond.selects RX9 yX9_put0 yX9_put0 ∈ TBL := wi_22 _ (List.mem_of_getElem? (i := 37) rfl)
theorem lc_X9_putText : Cond.code yX9_putText cX9_putText 3 (some .int) ∈ TBL := wi_22 _ (List.mem_of_getElem? (i := 38) rfl)
theorem li_X9_putText : Cond.instanceMethod yX9_putText ∈ TBL := wi_22 _ (List.mem_of_getElem? (i := 39) rfl)
def wc_23 : List Cond := [Cond.selects RX9 yX9_putText yX9_putText, Cond.code yX9_putsAside cX9_putsAside 2 none, Cond.instanceMethod yX9_putsAside, Cond.selects RX9 yX9_putsAside yX9_putsAside, Cond.code yX9_remembers cX9_remembers 2 none, Cond.instanceMethod yX9_remembers, Cond.selects RX9 yX9_remembers yX9_remembers, Cond.code yX9_safeKeys cX9_safeKeys 3 (some .int), Cond.instanceMethod yX9_safeKeys, Cond.selects RX9 yX9_safeKeys yX9_safeKeys, Cond.code yX9_seeks cX9_seeks 5 none, Cond.instanceMethod yX9_seeks, Cond.selects RX9 yX9_seeks yX9_seeks, Cond.code yX9_spot cX9_spot 3 (some .int), Cond.instanceMethod yX9_spot, Cond.selects RX9 yX9_spot yX9_spot, Cond.code yX9_storedKeys cX9_storedKeys 3 (some .int), Cond.instanceMethod yX9_storedKeys, Cond.selects RX9 yX9_storedKeys yX9_storedKeys, Cond.code yX9_strayOf cX9_strayOf 4 (some .int), Cond.instanceMethod yX9_strayOf, Cond.selects RX9 yX9_strayOf yX9_strayOf, Cond.code yX9_strays cX9_strays 3 (some .int), Cond.instanceMethod yX9_strays, Cond.selects RX9 yX9_strays yX9_strays, Cond.code yX9_stretch cX9_stretch 5 (some .int), Cond.instanceMethod yX9_stretch, Cond.selects RX9 yX9_stretch yX9_stretch, Cond.code yX9_tidies cX9_tidies 7 none, Cond.instanceMethod yX9_tidies, Cond.selects RX9 yX9_tidies yX9_tidies, Cond.code yX9_tidy0 cX9_tidy0 2 (some .int), Cond.instanceMethod yX9_tidy0, Cond.selects RX9 yX9_tidy0 yX9_tidy0, Cond.code yX9_touch cX9_touch 4 (some .boolean), Cond.static yX9_touch, Cond.code yX9_turned cX9_turned 2 (some .int), Cond.static yX9_turned, Cond.code yX9_twinsIn cX9_twinsIn 5 (some .int), Cond.instanceMethod yX9_twinsIn]
theorem wi_23 : ∀ w ∈ wc_23, w ∈ TBL := tb_ch _ [89, 1344, 1343, 37, 1642, 1641, 96, 1870, 1869, 123, 1767, 1766, 106, 1846, 1845, 121, 1866, 1865, 122, 1582, 1581, 87, 1826, 1825, 117, 1787, 1786, 111, 1570, 1569, 84, 1566, 1565, 83, 1511, 1510, 1424, 1423, 1586, 1585] (by decide +kernel) (by decide +kernel)
theorem ls_X9_putText : Cond.selects RX9 yX9_putText yX9_putText ∈ TBL := wi_23 _ (List.mem_of_getElem? (i := 0) rfl)
theorem lc_X9_putsAside : Cond.code yX9_putsAside cX9_putsAside 2 none ∈ TBL := wi_23 _ (List.mem_of_getElem? (i := 1) rfl)
theorem li_X9_putsAside : Cond.instanceMethod yX9_putsAside ∈ TBL := wi_23 _ (List.mem_of_getElem? (i := 2) rfl)
theorem ls_X9_putsAside : Cond.selects RX9 yX9_putsAside yX9_putsAside ∈ TBL := wi_23 _ (List.mem_of_getElem? (i := 3) rfl)
theorem lc_X9_remembers : Cond.code yX9_remembers cX9_remembers 2 none ∈ TBL := wi_23 _ (List.mem_of_getElem? (i := 4) rfl)
theorem li_X9_remembers : Cond.instanceMethod yX9_remembers ∈ TBL := wi_23 _ (List.mem_of_getElem? (i := 5) rfl)
theorem ls_X9_remembers : Cond.selects RX9 yX9_remembers yX9_remembers ∈ TBL := wi_23 _ (List.mem_of_getElem? (i := 6) rfl)
theorem lc_X9_safeKeys : Cond.code yX9_safeKeys cX9_safeKeys 3 (some .int) ∈ TBL := wi_23 _ (List.mem_of_getElem? (i := 7) rfl)
theorem li_X9_safeKeys : Cond.instanceMethod yX9_safeKeys ∈ TBL := wi_23 _ (List.mem_of_getElem? (i := 8) rfl)
theorem ls_X9_safeKeys : Cond.selects RX9 yX9_safeKeys yX9_safeKeys ∈ TBL := wi_23 _ (List.mem_of_getElem? (i := 9) rfl)
theorem lc_X9_seeks : Cond.code yX9_seeks cX9_seeks 5 none ∈ TBL := wi_23 _ (List.mem_of_getElem? (i := 10) rfl)
theorem li_X9_seeks : Cond.instanceMethod yX9_seeks ∈ TBL := wi_23 _ (List.mem_of_getElem? (i := 11) rfl)
theorem ls_X9_seeks : Cond.selects RX9 yX9_seeks yX9_seeks ∈ TBL := wi_23 _ (List.mem_of_getElem? (i := 12) rfl)
theorem lc_X9_spot : Cond.code yX9_spot cX9_spot 3 (some .int) ∈ TBL := wi_23 _ (List.mem_of_getElem? (i := 13) rfl)
theorem li_X9_spot : Cond.instanceMethod yX9_spot ∈ TBL := wi_23 _ (List.mem_of_getElem? (i := 14) rfl)
theorem ls_X9_spot : Cond.selects RX9 yX9_spot yX9_spot ∈ TBL := wi_23 _ (List.mem_of_getElem? (i := 15) rfl)
theorem lc_X9_storedKeys : Cond.code yX9_storedKeys cX9_storedKeys 3 (some .int) ∈ TBL := wi_23 _ (List.mem_of_getElem? (i := 16) rfl)
theorem li_X9_storedKeys : Cond.instanceMethod yX9_storedKeys ∈ TBL := wi_23 _ (List.mem_of_getElem? (i := 17) rfl)
theorem ls_X9_storedKeys : Cond.selects RX9 yX9_storedKeys yX9_storedKeys ∈ TBL := wi_23 _ (List.mem_of_getElem? (i := 18) rfl)
theorem lc_X9_strayOf : Cond.code yX9_strayOf cX9_strayOf 4 (some .int) ∈ TBL := wi_23 _ (List.mem_of_getElem? (i := 19) rfl)
theorem li_X9_strayOf : Cond.instanceMethod yX9_strayOf ∈ TBL := wi_23 _ (List.mem_of_getElem? (i := 20) rfl)
theorem ls_X9_strayOf : Cond.selects RX9 yX9_strayOf yX9_strayOf ∈ TBL := wi_23 _ (List.mem_of_getElem? (i := 21) rfl)
theorem lc_X9_strays : Cond.code yX9_strays cX9_strays 3 (some .int) ∈ TBL := wi_23 _ (List.mem_of_getElem? (i := 22) rfl)
theorem li_X9_strays : Cond.instanceMethod yX9_strays ∈ TBL := wi_23 _ (List.mem_of_getElem? (i := 23) rfl)
theorem ls_X9_strays : Cond.selects RX9 yX9_strays yX9_strays ∈ TBL := wi_23 _ (List.mem_of_getElem? (i := 24) rfl)
theorem lc_X9_stretch : Cond.code yX9_stretch cX9_stretch 5 (some .int) ∈ TBL := wi_23 _ (List.mem_of_getElem? (i := 25) rfl)
theorem li_X9_stretch : Cond.instanceMethod yX9_stretch ∈ TBL := wi_23 _ (List.mem_of_getElem? (i := 26) rfl)
theorem ls_X9_stretch : Cond.selects RX9 yX9_stretch yX9_stretch ∈ TBL := wi_23 _ (List.mem_of_getElem? (i := 27) rfl)
theorem lc_X9_tidies : Cond.code yX9_tidies cX9_tidies 7 none ∈ TBL := wi_23 _ (List.mem_of_getElem? (i := 28) rfl)
theorem li_X9_tidies : Cond.instanceMethod yX9_tidies ∈ TBL := wi_23 _ (List.mem_of_getElem? (i := 29) rfl)
theorem ls_X9_tidies : Cond.selects RX9 yX9_tidies yX9_tidies ∈ TBL := wi_23 _ (List.mem_of_getElem? (i := 30) rfl)
theorem lc_X9_tidy0 : Cond.code yX9_tidy0 cX9_tidy0 2 (some .int) ∈ TBL := wi_23 _ (List.mem_of_getElem? (i := 31) rfl)
theorem li_X9_tidy0 : Cond.instanceMethod yX9_tidy0 ∈ TBL := wi_23 _ (List.mem_of_getElem? (i := 32) rfl)
theorem ls_X9_tidy0 : Cond.selects RX9 yX9_tidy0 yX9_tidy0 ∈ TBL := wi_23 _ (List.mem_of_getElem? (i := 33) rfl)
theorem lc_X9_touch : Cond.code yX9_touch cX9_touch 4 (some .boolean) ∈ TBL := wi_23 _ (List.mem_of_getElem? (i := 34) rfl)
theorem li_X9_touch : Cond.static yX9_touch ∈ TBL := wi_23 _ (List.mem_of_getElem? (i := 35) rfl)
theorem lc_X9_turned : Cond.code yX9_turned cX9_turned 2 (some .int) ∈ TBL := wi_23 _ (List.mem_of_getElem? (i := 36) rfl)
theorem li_X9_turned : Cond.static yX9_turned ∈ TBL := wi_23 _ (List.mem_of_getElem? (i := 37) rfl)
theorem lc_X9_twinsIn : Cond.code yX9_twinsIn cX9_twinsIn 5 (some .int) ∈ TBL := wi_23 _ (List.mem_of_getElem? (i := 38) rfl)
theorem li_X9_twinsIn : Cond.instanceMethod yX9_twinsIn ∈ TBL := wi_23 _ (List.mem_of_getElem? (i := 39) rfl)
def wc_24 : List Cond := [Cond.selects RX9 yX9_twinsIn yX9_twinsIn, Cond.code yX9_volumeOf cX9_volumeOf 4 (some .int), Cond.instanceMethod yX9_volumeOf, Cond.selects RX9 yX9_volumeOf yX9_volumeOf, Cond.code yX9_wrong cX9_wrong 2 none, Cond.instanceMethod yX9_wrong, Cond.selects RX9 yX9_wrong yX9_wrong, Cond.code yX9_zoneAt cX9_zoneAt 5 (some .int), Cond.instanceMethod yX9_zoneAt, Cond.selects RX9 yX9_zoneAt yX9_zoneAt, Cond.code yX9_zoneOf cX9_zoneOf 6 (some .int), Cond.instanceMethod yX9_zoneOf, Cond.selects RX9 yX9_zoneOf yX9_zoneOf, Cond.code yX9_zonesOf cX9_zonesOf 4 (some .int), Cond.instanceMethod yX9_zonesOf, Cond.selects RX9 yX9_zonesOf yX9_zonesOf]
theorem wi_24 : ∀ w ∈ wc_24, w ∈ TBL := tb_ch _ [88, 1522, 1521, 75, 1352, 1351, 39, 1428, 1427, 55, 1716, 1715, 102, 1578, 1577, 86] (by decide +kernel) (by decide +kernel)
theorem ls_X9_twinsIn : Cond.selects RX9 yX9_twinsIn yX9_twinsIn ∈ TBL := wi_24 _ (List.mem_of_getElem? (i := 0) rfl)
theorem lc_X9_volumeOf : Cond.code yX9_volumeOf cX9_volumeOf 4 (some .int) ∈ TBL := wi_24 _ (List.mem_of_getElem? (i := 1) rfl)
theorem li_X9_volumeOf : Cond.instanceMethod yX9_volumeOf ∈ TBL := wi_24 _ (List.mem_of_getElem? (i := 2) rfl)
theorem ls_X9_volumeOf : Cond.selects RX9 yX9_volumeOf yX9_volumeOf ∈ TBL := wi_24 _ (List.mem_of_getElem? (i := 3) rfl)
theorem lc_X9_wrong : Cond.code yX9_wrong cX9_wrong 2 none ∈ TBL := wi_24 _ (List.mem_of_getElem? (i := 4) rfl)
theorem li_X9_wrong : Cond.instanceMethod yX9_wrong ∈ TBL := wi_24 _ (List.mem_of_getElem? (i := 5) rfl)
theorem ls_X9_wrong : Cond.selects RX9 yX9_wrong yX9_wrong ∈ TBL := wi_24 _ (List.mem_of_getElem? (i := 6) rfl)
theorem lc_X9_zoneAt : Cond.code yX9_zoneAt cX9_zoneAt 5 (some .int) ∈ TBL := wi_24 _ (List.mem_of_getElem? (i := 7) rfl)
theorem li_X9_zoneAt : Cond.instanceMethod yX9_zoneAt ∈ TBL := wi_24 _ (List.mem_of_getElem? (i := 8) rfl)
theorem ls_X9_zoneAt : Cond.selects RX9 yX9_zoneAt yX9_zoneAt ∈ TBL := wi_24 _ (List.mem_of_getElem? (i := 9) rfl)
theorem lc_X9_zoneOf : Cond.code yX9_zoneOf cX9_zoneOf 6 (some .int) ∈ TBL := wi_24 _ (List.mem_of_getElem? (i := 10) rfl)
theorem li_X9_zoneOf : Cond.instanceMethod yX9_zoneOf ∈ TBL := wi_24 _ (List.mem_of_getElem? (i := 11) rfl)
theorem ls_X9_zoneOf : Cond.selects RX9 yX9_zoneOf yX9_zoneOf ∈ TBL := wi_24 _ (List.mem_of_getElem? (i := 12) rfl)
theorem lc_X9_zonesOf : Cond.code yX9_zonesOf cX9_zonesOf 4 (some .int) ∈ TBL := wi_24 _ (List.mem_of_getElem? (i := 13) rfl)
theorem li_X9_zonesOf : Cond.instanceMethod yX9_zonesOf ∈ TBL := wi_24 _ (List.mem_of_getElem? (i := 14) rfl)
theorem ls_X9_zonesOf : Cond.selects RX9 yX9_zonesOf yX9_zonesOf ∈ TBL := wi_24 _ (List.mem_of_getElem? (i := 15) rfl)
